theorem oFc_dvd {P : oPr} {p : Nat} (hp : p < 4) (h : oNx P ≤ 5000) : oFc (oW P p) ≤ 5000 ∧ oNw P 4 ≤ 5000 := by
  have hr : ∀ i, 0 < oNr P i := fun i => by
    induction i with
    | zero => exact Nat.one_pos
    | succ i ih => exact Nat.mul_pos ih (by omega)
  have h4 : oNw P 4 ≤ 5000 := Nat.le_trans (Nat.le_mul_of_pos_left _ (hr _)) h
  refine ⟨?_, h4⟩
  have hw : ∀ q, 0 < oNw P q := fun q => by
    induction q with
    | zero => exact Nat.one_pos
    | succ q ih => exact Nat.mul_pos ih (oFc_pos _)
  have hm : ∀ a b, a ≤ b → oNw P a ≤ oNw P b := fun a b hab => by
    induction b with
    | zero => obtain rfl : a = 0 := by omega
              exact Nat.le_refl _
    | succ b ih =>
      rcases Nat.lt_or_ge b a with q | q
      · obtain rfl : a = b + 1 := by omega
        exact Nat.le_refl _
      · exact Nat.le_trans (ih q) (Nat.le_mul_of_pos_right _ (oFc_pos _))
  have h1 : oFc (oW P p) ≤ oNw P (p + 1) := Nat.le_mul_of_pos_left _ (hw p)
  have := hm (p + 1) 4 (by omega)
  omega
/-- what 'choose' leaves -/
def oCh (P : oPr) (x : Nat) (σ σ' : ox_S) : Prop :=
  (∀ o, o < 52 ∨ 55 < o → σ' o = σ o) ∧ (∀ i, i < ocR P P.n → σ' 52 i = oSc P x i) ∧ (∀ p, p < 4 → σ' 54 p = nI (oW P p)) ∧ (∀ p j, p < 4 → j < oW P p → σ' 53 (12 * p + j) = nI (oOd P x p j)) ∧ ∀ p j, p < 4 → j < oW P p → σ' 55 (oOd P x p j) = nI j
theorem ox_dc0 : nI 0 + Int32.ofInt (-1) < 0 := by decide
theorem ox_sub1 (x : Int32) : x - Int32.ofInt 1 = x + Int32.ofInt (-1) := Int32.sub_eq_add_neg _ _
set_option maxHeartbeats 1000000 in
theorem ot_choose {L k x : Nat} {σ : ox_S} {P : oPr} (h : oM σ P) (hN : oNx P ≤ 5000) (hx : x < 2 ^ 31) (hk : 3 ≤ k) (hk9 : k ≤ 9) : oT L k 68 0 [some (.ref 7), some (.int (nI x)), none, none, none, none] [] σ (fun o σ' => o = .inl none ∧ oCh P x σ σ') := by
  obtain ⟨k, rfl⟩ : ∃ k', k = k' + 1 := ⟨k - 1, by omega⟩
  obtain ⟨⟨hT, hn, hok⟩, h1, h2, h3⟩ := id h
  have hw : ∀ p, oW P p ≤ 12 := fun p => Nat.le_trans (ocW_le P p P.n) hn
  have hR := ocR_le P P.n
  -- the reads
  have reads : ∀ (m : Nat) (τ : ox_S) (l5 : Option Value), m ≤ P.n → (∀ o, o < 52 ∨ 55 < o → τ o = σ o) → (∀ i, ocR P m ≤ i → i < ocR P P.n → τ 52 i = oSc P x i) → (∀ p, p < 4 → τ 54 p = nI (oW P p)) → (∀ p j, p < 4 → j < oW P p → τ 53 (12 * p + j) = nI (oOd P x p j)) → (∀ p j, p < 4 → j < oW P p → τ 55 (oOd P x p j) = nI j) →
      oT L (k + 1) 68 70 [some (.ref 7), some (.int (nI x)), some (.int (nI (oRr P x (ocR P P.n - ocR P m)))), some (.int (nI (ocR P m))), some (.int (nI m + Int32.ofInt (-1))), l5] [] τ (fun o σ' => o = .inl none ∧ oCh P x σ σ') := by
    intro m
    induction m with
    | zero =>
      intro τ l5 hm b1 b2 b3 b4 b5
      refine oT_N 2 rfl (oT_If (fun _ => ?_) (fun (q : ¬ nI 0 + Int32.ofInt (-1) < 0) => absurd ox_dc0 q))
      exact oT_Retv rfl rfl ⟨rfl, b1, fun i hi => b2 i (Nat.zero_le _) hi, b3, b4, b5⟩
    | succ e ih =>
      intro τ l5 hm b1 b2 b3 b4 b5
      rw [ox_dec]
      obtain ⟨g1, g2, g3, -⟩ := h3 e (by omega)
      obtain ⟨o1, o2, o3⟩ := hok e (by omega)
      have hec : (nI e).toNatClampNeg = e := nI_clamp (by omega)
      have n12 : ¬ (nI e < 0 ∨ 12 ≤ (nI e).toNatClampNeg) := ox_ix (by omega) (by decide)
      have hM : oM τ P := oM_ext h (by rw [b1 7 (by decide)]) (by rw [b1 7 (by decide)]) (fun o q1 q2 => b1 o (by omega))
      refine oT_N 2 rfl (oT_lt e 0 rfl rfl (by omega) (by decide) (fun q => by omega) (fun _ => ?_))
      refine oT_N 3 rfl (oT_I (o := 44) (n := nI e) rfl (Or.inl ⟨rfl, by decide⟩) n12 ?_)
      rw [hec, b1 44 (by decide), g2]
      refine oT_N 1 rfl (oT_eq (P.kd e) 0 rfl rfl (by omega) (by decide) (fun hk => ?_) (fun hk => ?_))
      · have hc : ocR P (e + 1) = ocR P e + 1 := by simp [ocR, hk]
        obtain ⟨r1, r2⟩ := oRd_of (P := P) (e := e) (by omega) hk
        have hpl := o3 (by omega)
        have hwp := hw (P.pl e)
        refine oT_N 6 rfl (oT_I (o := 45) (n := nI e) rfl (Or.inl ⟨rfl, by decide⟩) n12 ?_)
        rw [hec, b1 45 (by decide), g3, if_pos (by omega)]
        refine oT_V rfl rfl rfl rfl (by omega) (by omega) (ot_writes hM (by omega)) (fun x σ2 h => by cases h.1) (fun v σ2 hv => ?_)
        obtain ⟨hv, rfl⟩ := hv
        cases hv
        have e1 : Int32.ofInt 1 + nI (ocW P (P.pl e) P.n) = nI (1 + oW P (P.pl e)) := nI_add 1 _
        have hrl := oRr_le P x (ocR P P.n - ocR P (e + 1))
        have hpk : oRr P x (ocR P P.n - ocR P (e + 1)) % (1 + oW P (P.pl e)) = oPk P x (ocR P e) := by
          unfold oPk
          rw [r1, show ocR P P.n - ocR P (e + 1) = ocR P P.n - 1 - ocR P e by omega]
        have hdv : oRr P x (ocR P P.n - ocR P (e + 1)) / (1 + oW P (P.pl e)) = oRr P x (ocR P P.n - ocR P e) := by
          rw [show ocR P P.n - ocR P e = (ocR P P.n - ocR P (e + 1)) + 1 by omega]
          show _ = _ / _
          rw [show ocR P P.n - 1 - (ocR P P.n - ocR P (e + 1)) = ocR P e by omega, r1]
        have hne : ¬ Int32.ofInt 1 + nI (ocW P (P.pl e) P.n) = 0 := by rw [e1]; exact nI_ne0 (by omega) (by omega)
        -- behind the store
        have hend : ∀ s : Int32, s = oSc P x (ocR P e) → oT L (k + 1) 68 140 [some (.ref 7), some (.int (nI x)), some (.int (nI (oRr P x (ocR P P.n - ocR P (e + 1))))), some (.int (nI (ocR P e))), some (.int (nI e)), some (.int (Int32.ofInt 1 + nI (ocW P (P.pl e) P.n)))] [] (ox_up σ2 52 (ocR P e) s) (fun o σ' => o = .inl none ∧ oCh P x σ σ') := fun s hs => by
          refine oT_N 2 rfl (oT_Div (x := nI (oRr P x (ocR P P.n - ocR P (e + 1)))) (y := Int32.ofInt 1 + nI (ocW P (P.pl e) P.n)) rfl hne ?_)
          rw [e1, pk_div (by omega) (by omega) (by omega), hdv]
          exact oT_N 3 rfl (ih (ox_up σ2 52 (ocR P e) s) (some (.int (nI (1 + oW P (P.pl e))))) (by omega) (fun o ho => by rw [ox_up_ne (by omega)]; exact b1 o ho) (fun i q1 q2 => by
            rw [ox_up_at]
            by_cases e2 : i = ocR P e
            · rw [if_pos e2, e2]; exact hs
            · rw [if_neg e2]; exact b2 i (by omega) q2) (fun p hp => by rw [ox_up_ne (by decide)]; exact b3 p hp) (fun p j hp hj => by rw [ox_up_ne (by decide)]; exact b4 p j hp hj) (fun p j hp hj => by rw [ox_up_ne (by decide)]; exact b5 p j hp hj))
        have hrr : nI (ocR P (e + 1)) + Int32.ofInt (-1) = nI (ocR P e) := by rw [hc]; exact ox_dec _
        refine oT_N 7 rfl (oT_Rem (x := nI (oRr P x (ocR P P.n - ocR P (e + 1)))) (y := Int32.ofInt 1 + nI (ocW P (P.pl e) P.n)) rfl hne ?_)
        have hrem : nI (oRr P x (ocR P P.n - ocR P (e + 1))) - nI (oRr P x (ocR P P.n - ocR P (e + 1))) / (Int32.ofInt 1 + nI (ocW P (P.pl e) P.n)) * (Int32.ofInt 1 + nI (ocW P (P.pl e) P.n)) = nI (oPk P x (ocR P e)) := by
          rw [e1, pk_rem (by omega) (by omega) (by omega), hpk]
        have hpkl : oPk P x (ocR P e) < 1 + oW P (P.pl e) := by rw [← hpk]; exact Nat.mod_lt _ (by omega)
        rw [hrem, hrr]
        refine oT_N 1 rfl (oT_eq (oPk P x (ocR P e)) 0 rfl rfl (by omega) (by decide) (fun q => ?_) (fun q => ?_))
        · refine oT_N 2 rfl (oT_Is (o := 52) (n := nI (ocR P e)) (x := -1) rfl ⟨rfl, by decide⟩ (ox_ix (N := 12) (by omega) (by decide)) ?_)
          rw [nI_clamp (by omega)]
          exact hend _ (by unfold oSc; rw [if_pos q])
        · refine oT_N 4 rfl (oT_I (o := 45) (n := nI e) rfl (Or.inl ⟨rfl, by decide⟩) n12 ?_)
          rw [hec, b1 45 (by decide), g3, if_pos (by omega)]
          refine oT_N 2 rfl (oT_Rem (x := nI (oRr P x (ocR P P.n - ocR P (e + 1)))) (y := Int32.ofInt 1 + nI (ocW P (P.pl e) P.n)) rfl hne ?_)
          rw [hrem]
          have hm1 : nI (oPk P x (ocR P e)) - Int32.ofInt 1 = nI (oPk P x (ocR P e) - 1) := pk_sub (b := 1) (by omega)
          refine oT_N 2 rfl ?_
          rw [hm1]
          refine oT_V rfl rfl rfl rfl (by omega) (by omega) (ot_write hM hpl (show oPk P x (ocR P e) - 1 < _ by omega)) (fun x σ2 h => by cases h.1) (fun v σ3 hv => ?_)
          obtain ⟨hv, rfl⟩ := hv
          cases hv
          refine oT_Is (o := 52) (n := nI (ocR P e)) (x := nI (oWr P (P.pl e) (oPk P x (ocR P e) - 1))) rfl ⟨rfl, by decide⟩ (ox_ix (N := 12) (by omega) (by decide)) ?_
          rw [nI_clamp (by omega)]
          exact hend _ (by unfold oSc; rw [if_neg q, r1])
      · have hc : ocR P (e + 1) = ocR P e := by simp [ocR, hk]
        rw [hc] at b2 ⊢
        exact oT_N 3 rfl (ih τ l5 (by omega) b1 b2 b3 b4 b5)
  -- the places
  have places : ∀ (m j : Nat) (τ : ox_S) (l4 l5 : Option Value), m + j = 4 → (∀ o, o ≠ 53 → o ≠ 54 → o ≠ 55 → τ o = σ o) → (∀ p, m ≤ p → p < 4 → τ 54 p = nI (oW P p)) → (∀ p j, m ≤ p → p < 4 → j < oW P p → τ 53 (12 * p + j) = nI (oOd P x p j)) → (∀ p j, m ≤ p → p < 4 → j < oW P p → τ 55 (oOd P x p j) = nI j) →
      oT L (k + 1) 68 4 [some (.ref 7), some (.int (nI x)), some (.int (nI (oRs P x j))), some (.int (nI m + Int32.ofInt (-1))), l4, l5] [] τ (fun o σ' => o = .inl none ∧ oCh P x σ σ') := by
    intro m
    induction m with
    | zero =>
      intro j τ l4 l5 hm b1 b3 b4 b5
      obtain rfl : j = 4 := by omega
      have hM : oM τ P := oM_ext h (by rw [b1 7 (by decide) (by decide) (by decide)]) (by rw [b1 7 (by decide) (by decide) (by decide)]) (fun o q1 q2 => b1 o (by omega) (by omega) (by omega))
      refine oT_N 2 rfl (oT_If (fun _ => ?_) (fun (q : ¬ nI 0 + Int32.ofInt (-1) < 0) => absurd ox_dc0 q))
      refine oT_N 1 rfl (oT_V rfl rfl rfl rfl (by omega) (by omega) (ot_reads hM) (fun x σ2 h => by cases h.1) (fun v σ2 hv => ?_))
      obtain ⟨hv, rfl⟩ := hv
      cases hv
      have e9 := reads P.n σ2 l5 (Nat.le_refl _) (fun o ho => b1 o (by omega) (by omega) (by omega)) (fun i q1 q2 => by omega) (fun p hp => b3 p (by omega) hp) (fun p j hp hj => b4 p j (by omega) hp hj) (fun p j hp hj => b5 p j (by omega) hp hj)
      rw [Nat.sub_self, ← ox_sub1, ← h2, ← b1 7 (by decide) (by decide) (by decide)] at e9
      exact oT_N 6 rfl e9
    | succ p ih =>
      intro j τ l4 l5 hm b1 b3 b4 b5
      rw [ox_dec]
      have hM : oM τ P := oM_ext h (by rw [b1 7 (by decide) (by decide) (by decide)]) (by rw [b1 7 (by decide) (by decide) (by decide)]) (fun o q1 q2 => b1 o (by omega) (by omega) (by omega))
      obtain ⟨hF, -⟩ := oFc_dvd (P := P) (p := p) (by omega) hN
      have hwp := hw p
      refine oT_N 2 rfl (oT_lt p 0 rfl rfl (by omega) (by decide) (fun q => by omega) (fun _ => ?_))
      refine oT_N 4 rfl ?_
      have size : ∀ (d j' : Nat), (j' + d = oW P p ∨ (d = 0 ∧ oW P p ≤ j')) → 1 ≤ j' → j' ≤ 12 → (d = 0 → oFc j' = oFc (oW P p)) → oT L (k + 1) 68 14 [some (.ref 7), some (.int (nI x)), some (.int (nI (oRs P x j))), some (.int (nI p)), some (.int (nI (oFc j'))), some (.int (nI (j' + 1)))] [] τ (fun o σ' => o = .inl none ∧ oCh P x σ σ') := by
        intro d
        induction d with
        | zero =>
          intro j' hj h1 h12 hq
          refine oT_N 3 rfl (oT_V rfl rfl rfl rfl (by omega) (by omega) (ot_writes hM (by omega)) (fun x σ2 h => by cases h.1) (fun v σ2 hv => ?_))
          obtain ⟨hv, rfl⟩ := hv
          cases hv
          refine oT_N 1 rfl (oT_lt (oW P p) (j' + 1) rfl rfl (by omega) (by omega) (fun _ => ?_) (fun q => by omega))
          rw [hq rfl]
          have hrl := oRs_le P x j
          have hp0 := oFc_pos (oW P p)
          refine oT_N 4 rfl (oT_Rem (x := nI (oRs P x j)) (y := nI (oFc (oW P p))) rfl (nI_ne0 hp0 (by omega)) ?_)
          rw [pk_rem (by omega) hp0 (by omega)]
          have har := ot_arrange (L := L) (k := k) (x := x) hM (show p < 4 by omega) hF (by omega) (by omega)
          rw [show 3 - p = j by omega] at har
          refine oT_V rfl rfl rfl rfl (by omega) (by omega) har (fun x σ2 h => by cases h.1) (fun v σ3 hv => ?_)
          obtain ⟨hv, a1, a2, a3, a4, a5, a6, a7, a8⟩ := hv
          cases hv
          refine oT_N 2 rfl (oT_Div (x := nI (oRs P x j)) (y := nI (oFc (oW P p))) rfl (nI_ne0 hp0 (by omega)) ?_)
          rw [pk_div (by omega) hp0 (by omega)]
          have hnx : oRs P x j / oFc (oW P p) = oRs P x (j + 1) := by
            show _ = oRs P x j / _
            rw [show 3 - j = p by omega]
          rw [hnx]
          refine oT_N 3 rfl (ih (j + 1) σ3 _ _ (by omega) (fun o q1 q2 q3 => by rw [a1 o q1 q2 q3]; exact b1 o q1 q2 q3) (fun p' q1 q2 => ?_) (fun p' i q1 q2 q3 => ?_) (fun p' i q1 q2 q3 => ?_))
          · by_cases e2 : p' = p
            · rw [e2]; exact a3
            · rw [a2 p' e2]; exact b3 p' (by omega) q2
          · by_cases e2 : p' = p
            · subst e2; exact a4 i q3
            · have := hw p'
              rw [a5 _ (by omega)]; exact b4 p' i (by omega) q2 q3
          · by_cases e2 : p' = p
            · subst e2; exact a6 i q3
            · have := oOd_w (P := P) (x := x) q3
              rw [a8 _ (fun e3 => e2 (by rw [← this.2.2]; exact e3.2))]; exact b5 p' i (by omega) q2 q3
        | succ d ihd =>
          intro j' hj h1 h12 hq
          refine oT_N 3 rfl (oT_V rfl rfl rfl rfl (by omega) (by omega) (ot_writes hM (by omega)) (fun x σ2 h => by cases h.1) (fun v σ2 hv => ?_))
          obtain ⟨hv, rfl⟩ := hv
          cases hv
          refine oT_N 1 rfl (oT_lt (oW P p) (j' + 1) rfl rfl (by omega) (by omega) (fun q => by omega) (fun _ => ?_))
          have e9 := ihd (j' + 1) (by omega) (by omega) (by omega) (fun q => by congr 1; omega)
          rw [← ox_inc (j' + 1), show oFc (j' + 1) = oFc j' * (j' + 1) from Nat.mul_comm _ _, ← pk_mul] at e9
          exact oT_N 6 rfl e9
      rcases Nat.lt_or_ge 1 (oW P p) with q | q
      · exact size (oW P p - 1) 1 (Or.inl (by omega)) (by omega) (by omega) (fun _ => by omega)
      · refine size 0 1 (Or.inr ⟨rfl, q⟩) (by omega) (by omega) (fun _ => ?_)
        generalize oW P p = w at q
        rcases Nat.lt_or_ge w 1 with q2 | q2
        · obtain rfl : w = 0 := by omega
          rfl
        · obtain rfl : w = 1 := by omega
          rfl
  refine oT_N 4 rfl ?_
  exact places 4 0 σ none none rfl (fun _ _ _ _ => rfl) (fun p q1 q2 => by omega) (fun p j q1 q2 => by omega) (fun p j q1 q2 => by omega)
