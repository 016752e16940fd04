section OYHt
variable {L k n : Nat} {σ : ox_S} {P : oPr} {M : oMo}
set_option maxHeartbeats 2000000 in
theorem ot_chooset {x : Nat} {W : Nat → Bool} (h : oC σ P) (hm : oCo σ M) (hp : oPp σ 4 77 120 P M W) (hx : x < 2 ^ 31) (hk : 4 ≤ k) (hk9 : k ≤ 9) : oT L k 1 0 [some (.ref 4), some (.ref 1), some (.ref 2), some (.int (nI x)), none, none, none, none] [] σ (fun o σ' => o = .inl none ∧ (∀ o, o < 68 ∨ 120 < o → σ' o = σ o) ∧ oPp σ' 4 77 120 P M W ∧ oXk σ' 68 P x ∧ oIR P.n M (oGv P (oXs P x)) M.R (fun r => W r = true) (oVw σ' 77)) := by
  obtain ⟨k, rfl⟩ : ∃ k', k = k' + 1 := ⟨k - 1, by omega⟩
  obtain ⟨⟨hT, hn, hok⟩, a2, a3, a4, a5, a6, a7, a8, a9⟩ := id h
  obtain ⟨hMok, g1, g2, g3, g4⟩ := id hm
  obtain ⟨m1, m2, m3, m4, m5⟩ := id hMok
  obtain ⟨p1, p2, p3, p4, p5, p6, p7⟩ := hp
  have hw : ∀ p, oW P p ≤ 12 := fun p => Nat.le_trans (ocW_le P p P.n) hn
  have hR := ocR_le P P.n
  have hcR := oCn_le (oPf M W) M.R
  -- the plan
  have plan : ∀ (d j : Nat) (τ : ox_S) (y4 : Int32) (l6 l7 : Option Value), j + d = oCn (oPf M W) M.R → (∀ o, o < 68 ∨ 120 < o → τ o = σ o) → (∀ j, τ 120 j = σ 120 j) → (∀ r, r < M.R → W r = true → oSd M r = true → τ (77 + r) = σ (77 + r)) → oXk τ 68 P x → oIR P.n M (oGv P (oXs P x)) M.R (fun r => W r = true ∧ (oPf M W r = true → oCn (oPf M W) r < j)) (oVw τ 77) → oT L (k + 1) 1 174 [some (.ref 4), some (.ref 1), some (.ref 2), some (.int (nI x)), some (.int y4), some (.int (nI j)), l6, l7] [] τ (fun o σ' => o = .inl none ∧ (∀ o, o < 68 ∨ 120 < o → σ' o = σ o) ∧ oPp σ' 4 77 120 P M W ∧ oXk σ' 68 P x ∧ oIR P.n M (oGv P (oXs P x)) M.R (fun r => W r = true) (oVw σ' 77)) := by
    intro d
    induction d with
    | zero =>
      intro j τ y4 l6 l7 hj t1 t2 t3 t4 t5
      obtain rfl : j = oCn (oPf M W) M.R := by omega
      refine oT_N 4 rfl (oT_le (oCn (oPf M W) M.R) (oCn (oPf M W) M.R) (by rw [t1 4 (by decide)]; exact p5) rfl (by omega) (by omega) (fun _ => ?_) (fun q => by omega))
      refine oT_Retv rfl rfl ⟨rfl, t1, ⟨p1, by rw [t1 4 (by decide)]; exact p2, by rw [t1 4 (by decide)]; exact p3, by rw [t1 4 (by decide)]; exact p4, by rw [t1 4 (by decide)]; exact p5, fun j hj => by rw [t2]; exact p6 j hj, ?_⟩, t4, fun r hr hwr => t5 r hr ⟨hwr, fun hf => oCn_lt hr hf⟩⟩
      exact oIR_ext hMok (Nat.le_refl _) (fun r q1 q2 q3 => oPf_dn hMok p1 q1 q2 q3.1 q3.2) (fun r q1 q2 a b _ _ => by unfold oVw oBr; rw [t3 r q1 q2.1 q2.2]) p7
    | succ d ih =>
      intro j τ y4 l6 l7 hj t1 t2 t3 t4 t5
      obtain ⟨e1, e2, e3⟩ := oKt_sp (f := oPf M W) (k := j) M.R (by omega)
      obtain ⟨f1, f2, f3⟩ := oPf_iff.mp e2
      refine oT_N 4 rfl (oT_le (oCn (oPf M W) M.R) j (by rw [t1 4 (by decide)]; exact p5) rfl (by omega) (by omega) (fun q => by omega) (fun _ => ?_))
      refine oT_N 5 rfl (oT_I (o := 120) (n := nI j) rfl (Or.inl ⟨rfl, by decide⟩) (ox_ix (N := 40) (by omega) (by decide)) ?_)
      rw [nI_clamp (by omega), t2, p6 j (by omega)]
      have hm2 : oCo τ M := oCo_ext hm (t1 2 (by decide)) (fun o q1 q2 => t1 o (by omega))
      refine oT_V rfl rfl rfl rfl (by omega) (by omega) (ot_fillMadet (n := P.n) hm2 f1 e1 (by rw [t1 4 (by decide)]; exact p2) hn (by omega) (by omega)) (fun x σ2 h => by cases h.1) (fun v τ2 hv => ?_)
      obtain ⟨hv, v1, v2⟩ := hv
      cases hv
      generalize hrs : oKt (oPf M W) M.R j = rs at e1 e2 e3 f1 f2 f3 v1 v2
      have hrow : ∀ r, r < 40 → r ≠ rs → oVw τ2 77 r = oVw τ 77 r := fun r q1 q2 => by
        funext a b
        unfold oVw oBr
        rw [v1 _ (by omega)]
      obtain ⟨n1, n2, n3⟩ := m4 rs f1 e1
      have e := ih (j + 1) τ2 y4 l6 l7 (by omega) (fun o ho => by rw [v1 o (by omega)]; exact t1 o ho) (fun q => by rw [v1 120 (by omega)]; exact t2 q) (fun r q1 q2 q3 => by
        have hne : r ≠ rs := fun e => by rw [e, f3] at q3; cases q3
        rw [v1 _ (by omega)]
        exact t3 r q1 q2 q3) ⟨fun i hi => by rw [v1 68 (by omega), v1 69 (by omega)]; exact t4.1 i hi, fun p hp => by rw [v1 70 (by omega)]; exact t4.2.1 p hp, fun p hp j' hj' => by rw [v1 (72 + p) (by omega)]; exact t4.2.2 p hp j' hj'⟩ (fun r hr hwr a b ha hb => by
        by_cases e : r = rs
        · subst e
          refine ⟨fun q => by omega, fun q => ?_⟩
          rw [hrow (M.lf r) (by omega) (by omega), hrow (M.rt r) (by omega) (by omega)]
          exact v2 a b ha hb
        · have hj' : W r = true ∧ (oPf M W r = true → oCn (oPf M W) r < j) := ⟨hwr.1, fun q => by
            have := hwr.2 q
            have : oCn (oPf M W) r ≠ j := fun q2 => e (oCn_inj q e2 (by rw [q2, e3]))
            omega⟩
          obtain ⟨w1, w2⟩ := t5 r hr hj' a b ha hb
          refine ⟨fun q => by rw [hrow r (by omega) e]; exact w1 q, fun q => ?_⟩
          obtain ⟨o1, o2, o3⟩ := m4 r q hr
          have hlr : M.lf r ≠ rs ∧ M.rt r ≠ rs := by
            have key : ∀ y, y < r → (oSd M r = true → oSd M y = true) → y ≠ rs := fun y hy hs q3 => by
              subst q3
              cases hsr : oSd M r with
              | true =>
                rw [hs hsr] at f3
                cases f3
              | false =>
                have hfr : oPf M W r = true := oPf_iff.mpr ⟨q, hwr.1, hsr⟩
                have := hj'.2 hfr
                have := oCn_lt hy e2
                omega
            have hh := oSd_hi hMok q hr
            exact ⟨key _ o2 (fun q2 => by rw [hh, Bool.and_eq_true] at q2; exact q2.1), key _ o3 (fun q2 => by rw [hh, Bool.and_eq_true] at q2; exact q2.2)⟩
          rw [hrow r (by omega) e, hrow (M.lf r) (by omega) hlr.1, hrow (M.rt r) (by omega) hlr.2]
          exact w2 q)
      rw [← ox_inc j] at e
      exact oT_N 2 rfl e
  -- the reads
  have reads : ∀ (m : Nat) (τ : ox_S) (l6 l7 : Option Value), m ≤ ocR P P.n → (∀ o, o < 68 ∨ (75 < o ∧ o ≠ 117) → τ o = σ o) → (∀ i, m ≤ i → i < ocR P P.n → τ 68 i = nI (oPk P x i) ∧ τ 69 i = oSc P x i) → (∀ p, p < 4 → τ 70 p = nI (oW P p)) → (∀ p, p < 4 → ∀ j, j < oW P p → τ (72 + p) j = nI (oOd P x p j)) → oT L (k + 1) 1 79 [some (.ref 4), some (.ref 1), some (.ref 2), some (.int (nI x)), some (.int (nI (oRr P x (ocR P P.n - m)))), some (.int (nI m + Int32.ofInt (-1))), l6, l7] [] τ (fun o σ' => o = .inl none ∧ (∀ o, o < 68 ∨ 120 < o → σ' o = σ o) ∧ oPp σ' 4 77 120 P M W ∧ oXk σ' 68 P x ∧ oIR P.n M (oGv P (oXs P x)) M.R (fun r => W r = true) (oVw σ' 77)) := by
    intro m
    induction m with
    | zero =>
      intro τ l6 l7 hmR t1 t2 t3 t4
      refine oT_N 2 rfl (oT_If (fun _ => ?_) (fun (q : ¬ nI 0 + Int32.ofInt (-1) < 0) => absurd ox_dc0 q))
      have hC : oC τ P := oC_ext h (t1 1 (by decide)) (fun o q1 q2 => t1 o (by omega))
      refine oT_N 2 rfl (oT_V rfl rfl rfl rfl (by omega) (by omega) (ot_fillChosent (x := x) hC (by rw [t1 4 (by decide)]; exact p2) (by rw [t1 4 (by decide)]; exact p4) (fun i hi => (t2 i (Nat.zero_le _) hi).2) t3 (fun p j hp hj => t4 p hp j hj) (by omega) (by omega)) (fun x σ2 h => by cases h.1) (fun v τ2 hv => ?_))
      obtain ⟨hv, v1, v2⟩ := hv
      cases hv
      have hst : ∀ r, r < M.R → oSd M r = true → ¬ (1 ≤ r ∧ r ≤ 4) := fun r _ hs q => by
        rw [oSd_lo (by omega), decide_eq_true_eq] at hs
        omega
      refine oT_N 2 rfl (plan (oCn (oPf M W) M.R) 0 τ2 _ l6 l7 (by omega) (fun o ho => by rw [v1 o (by omega)]; exact t1 o (by omega)) (fun j => by rw [v1 120 (by decide), t1 120 (by decide)]) (fun r q1 q2 q3 => ?_) ⟨fun i hi => ?_, fun p hp => ?_, fun p hp j hj => ?_⟩ (fun r hr hwr a b ha hb => ?_))
      · have := hst r q1 q3
        rw [v1 _ (by omega), t1 _ (by omega)]
      · rw [v1 68 (by decide), v1 69 (by decide)]
        exact t2 i (Nat.zero_le _) hi
      · rw [v1 70 (by decide)]; exact t3 p hp
      · rw [v1 (72 + p) (by omega)]; exact t4 p hp j hj
      · have hnf : oPf M W r = false := by
          cases q : oPf M W r with
          | false => rfl
          | true => have := hwr.2 q; omega
        rcases Nat.lt_or_ge r 12 with q | q
        · refine ⟨fun _ => ?_, fun q2 => by omega⟩
          by_cases q3 : 1 ≤ r ∧ r ≤ 4
          · exact v2 r q3.1 q3.2 a b ha hb
          · have hs : oSd M r = true := by rw [oSd_lo q]; exact decide_eq_true (by omega)
            have e1 : oVw τ2 77 r a b = oVw σ 77 r a b := by unfold oVw oBr; rw [v1 _ (by omega), t1 _ (by omega)]
            rw [e1, (p7 r hr ⟨hwr.1, hs⟩ a b ha hb).1 q]
            exact oGv_st (by omega)
        · have hs : oSd M r = true := by
            cases q2 : oSd M r with
            | true => rfl
            | false =>
              rw [oPf_iff.mpr ⟨q, hwr.1, q2⟩] at hnf
              cases hnf
          obtain ⟨n1, n2, n3⟩ := m4 r q hr
          obtain ⟨c1, c2⟩ := oPf_dn hMok p1 q hr hwr.1 hs
          have hrow : ∀ y, y < M.R → oSd M y = true → oVw τ2 77 y = oVw σ 77 y := fun y hy hsy => by
            have := hst y hy hsy
            funext a b
            unfold oVw oBr
            rw [v1 _ (by omega), t1 _ (by omega)]
          refine ⟨fun q2 => by omega, fun q2 => ?_⟩
          rw [hrow r hr hs, hrow _ (by omega) c1.2, hrow _ (by omega) c2.2]
          exact (p7 r hr ⟨hwr.1, hs⟩ a b ha hb).2 q
    | succ i ih =>
      intro τ l6 l7 hmR t1 t2 t3 t4
      rw [ox_dec]
      have ci : (nI i).toNatClampNeg = i := nI_clamp (by omega)
      have ni : ¬ (nI i < 0 ∨ 12 ≤ (nI i).toNatClampNeg) := ox_ix (by omega) (by decide)
      have hC : oC τ P := oC_ext h (t1 1 (by decide)) (fun o q1 q2 => t1 o (by omega))
      obtain ⟨r1, r2, r3⟩ := oRd_sp (P := P) (i := i) (by omega)
      have hpl := (hok _ r1).2.2 (by omega)
      have hwp := hw (P.pl (oRd P i))
      have npl : ¬ (nI (P.pl (oRd P i)) < 0 ∨ 4 ≤ (nI (P.pl (oRd P i))).toNatClampNeg) := ox_ix (by omega) (by decide)
      have cpl : (nI (P.pl (oRd P i))).toNatClampNeg = P.pl (oRd P i) := nI_clamp (by omega)
      refine oT_N 2 rfl (oT_lt i 0 rfl rfl (by omega) (by decide) (fun q => by omega) (fun _ => ?_))
      refine oT_N 2 rfl (oT_V rfl rfl rfl rfl (by omega) (by omega) (ot_placeRead hC (show i < ocR P P.n by omega)) (fun x σ2 h => by cases h.1) (fun v τ' hv => ?_))
      obtain ⟨hv, rfl⟩ := hv
      cases hv
      refine oT_N 5 rfl (oT_I (o := 15) (n := nI (P.pl (oRd P i))) rfl (Or.inl ⟨rfl, by decide⟩) npl ?_)
      rw [cpl, t1 15 (by decide), a7 _ hpl]
      have e1 : Int32.ofInt 1 + nI (oW P (P.pl (oRd P i))) = nI (1 + oW P (P.pl (oRd P i))) := nI_add 1 _
      have hne : ¬ Int32.ofInt 1 + nI (oW P (P.pl (oRd P i))) = 0 := by rw [e1]; exact nI_ne0 (by omega) (by omega)
      have hrl := oRr_le P x (ocR P P.n - (i + 1))
      have hpk : oRr P x (ocR P P.n - (i + 1)) % (1 + oW P (P.pl (oRd P i))) = oPk P x i := by
        unfold oPk
        rw [show ocR P P.n - (i + 1) = ocR P P.n - 1 - i by omega]
      have hdv : oRr P x (ocR P P.n - (i + 1)) / (1 + oW P (P.pl (oRd P i))) = oRr P x (ocR P P.n - i) := by
        rw [show ocR P P.n - i = (ocR P P.n - (i + 1)) + 1 by omega]
        show _ = _ / _
        rw [show ocR P P.n - 1 - (ocR P P.n - (i + 1)) = i by omega]
      have hpkl : oPk P x i < 1 + oW P (P.pl (oRd P i)) := oPk_lt
      refine oT_N 7 rfl (oT_Rem (x := nI (oRr P x (ocR P P.n - (i + 1)))) (y := Int32.ofInt 1 + nI (oW P (P.pl (oRd P i)))) rfl hne ?_)
      rw [show nI (oRr P x (ocR P P.n - (i + 1))) - nI (oRr P x (ocR P P.n - (i + 1))) / (Int32.ofInt 1 + nI (oW P (P.pl (oRd P i)))) * (Int32.ofInt 1 + nI (oW P (P.pl (oRd P i)))) = nI (oPk P x i) by rw [e1, pk_rem (by omega) (by omega) (by omega), hpk]]
      refine oT_Is (o := 68) (n := nI i) (x := nI (oPk P x i)) rfl ⟨rfl, by decide⟩ ni ?_
      rw [ci]
      refine oT_N 2 rfl (oT_Div (x := nI (oRr P x (ocR P P.n - (i + 1)))) (y := Int32.ofInt 1 + nI (oW P (P.pl (oRd P i)))) rfl hne ?_)
      rw [show nI (oRr P x (ocR P P.n - (i + 1))) / (Int32.ofInt 1 + nI (oW P (P.pl (oRd P i)))) = nI (oRr P x (ocR P P.n - i)) by rw [e1, pk_div (by omega) (by omega) (by omega), hdv]]
      have fin : ∀ s : Int32, s = oSc P x i → oT L (k + 1) 1 160 [some (.ref 4), some (.ref 1), some (.ref 2), some (.int (nI x)), some (.int (nI (oRr P x (ocR P P.n - i)))), some (.int (nI i)), some (.int (nI (P.pl (oRd P i)))), some (.int (Int32.ofInt 1 + nI (oW P (P.pl (oRd P i)))))] [] (ox_up (ox_up τ' 68 i (nI (oPk P x i))) 69 i s) (fun o σ' => o = .inl none ∧ (∀ o, o < 68 ∨ 120 < o → σ' o = σ o) ∧ oPp σ' 4 77 120 P M W ∧ oXk σ' 68 P x ∧ oIR P.n M (oGv P (oXs P x)) M.R (fun r => W r = true) (oVw σ' 77)) := fun s hs => by
        refine oT_N 2 rfl (ih _ _ _ (by omega) (fun o ho => by rw [ox_up_ne (by omega), ox_up_ne (by omega)]; exact t1 o ho) (fun i' q1 q2 => ?_) (fun p hp => by rw [ox_up_ne (by decide), ox_up_ne (by decide)]; exact t3 p hp) (fun p hp j hj => by rw [ox_up_ne (by omega), ox_up_ne (by omega)]; exact t4 p hp j hj))
        rw [ox_up_ne (by decide), ox_up_at, ox_up_at, ox_up_ne (by decide)]
        by_cases e : i' = i
        · rw [if_pos e, if_pos e, e]
          exact ⟨rfl, hs⟩
        · rw [if_neg e, if_neg e]
          exact t2 i' (by omega) q2
      refine oT_N 7 rfl (oT_I (o := 68) (n := nI i) rfl (Or.inl ⟨rfl, by decide⟩) ni ?_)
      rw [ci, ox_up_at, if_pos rfl]
      refine oT_N 1 rfl (oT_eq (oPk P x i) 0 rfl rfl (by omega) (by decide) (fun q => ?_) (fun q => ?_))
      · refine oT_N 2 rfl (oT_Is (o := 69) (n := nI i) (x := Int32.ofInt (-1)) rfl ⟨rfl, by decide⟩ ni ?_)
        rw [ci]
        exact fin _ (by unfold oSc; rw [if_pos q]; rfl)
      · obtain ⟨-, -, -, -, -, -, k1, k2, k3⟩ := ox_k34 (P.pl (oRd P i)) hpl
        refine oT_N 3 rfl (oT_A (o := 17) (n := nI (P.pl (oRd P i))) rfl ⟨rfl, by decide⟩ npl ?_)
        rw [cpl]
        refine oT_N 3 rfl (oT_I (o := 68) (n := nI i) rfl (Or.inl ⟨rfl, by decide⟩) ni ?_)
        rw [ci, ox_up_at, if_pos rfl]
        have em : nI (oPk P x i) - Int32.ofInt 1 = nI (oPk P x i - 1) := pk_sub (b := 1) (by omega)
        refine oT_N 2 rfl (oT_I (o := 18 + P.pl (oRd P i)) (n := nI (oPk P x i) - Int32.ofInt 1) rfl (Or.inl ⟨k1, k2⟩) (by rw [em]; exact ox_ixL k2 k3 (by omega) (by decide)) ?_)
        rw [em, nI_clamp (by omega), ox_up_ne (by omega), t1 _ (by omega), a9 _ hpl _ (by omega)]
        refine oT_Is (o := 69) (n := nI i) (x := nI (oWr P (P.pl (oRd P i)) (oPk P x i - 1))) rfl ⟨rfl, by decide⟩ ni ?_
        rw [ci]
        exact fin _ (by unfold oSc; rw [if_neg q])
  -- the places
  have places : ∀ (m j : Nat) (τ : ox_S) (l6 l7 : Option Value), m + j = 4 → (∀ o, o < 70 ∨ (75 < o ∧ o ≠ 117) → τ o = σ o) → (∀ p, m ≤ p → p < 4 → τ 70 p = nI (oW P p)) → (∀ p, m ≤ p → p < 4 → ∀ j, j < oW P p → τ (72 + p) j = nI (oOd P x p j)) → oT L (k + 1) 1 6 [some (.ref 4), some (.ref 1), some (.ref 2), some (.int (nI x)), some (.int (nI (oRs P x j))), some (.int (nI m + Int32.ofInt (-1))), l6, l7] [] τ (fun o σ' => o = .inl none ∧ (∀ o, o < 68 ∨ 120 < o → σ' o = σ o) ∧ oPp σ' 4 77 120 P M W ∧ oXk σ' 68 P x ∧ oIR P.n M (oGv P (oXs P x)) M.R (fun r => W r = true) (oVw σ' 77)) := by
    intro m
    induction m with
    | zero =>
      intro j τ l6 l7 hm t1 t3 t4
      obtain rfl : j = 4 := by omega
      refine oT_N 2 rfl (oT_If (fun _ => ?_) (fun (q : ¬ nI 0 + Int32.ofInt (-1) < 0) => absurd ox_dc0 q))
      have e := reads (ocR P P.n) τ l6 l7 (Nat.le_refl _) (fun o ho => t1 o (by omega)) (fun i q1 q2 => by omega) (fun p hp => t3 p (Nat.zero_le _) hp) (fun p hp => t4 p (Nat.zero_le _) hp)
      rw [Nat.sub_self, ← ox_sub1, ← p4, ← t1 4 (by decide)] at e
      exact oT_N 5 rfl e
    | succ p ih =>
      intro j τ l6 l7 hm t1 t3 t4
      rw [ox_dec]
      have cp : (nI p).toNatClampNeg = p := nI_clamp (by omega)
      have np : ¬ (nI p < 0 ∨ 4 ≤ (nI p).toNatClampNeg) := ox_ix (by omega) (by decide)
      have hwp := hw p
      have hrl := oRs_le P x j
      refine oT_N 2 rfl (oT_lt p 0 rfl rfl (by omega) (by decide) (fun q => by omega) (fun _ => ?_))
      refine oT_N 3 rfl (oT_I (o := 15) (n := nI p) rfl (Or.inl ⟨rfl, by decide⟩) np ?_)
      rw [cp, t1 15 (by decide), a7 p (by omega)]
      have digs : ∀ (d c : Nat) (τ' : ox_S), c + d = oW P p → (∀ o, o < 70 ∨ (75 < o ∧ o ≠ 117) → τ' o = σ o) → (∀ p', p + 1 ≤ p' → p' < 4 → τ' 70 p' = nI (oW P p')) → (∀ p', p + 1 ≤ p' → p' < 4 → ∀ j, j < oW P p' → τ' (72 + p') j = nI (oOd P x p' j)) → (∀ i, oW P p - c ≤ i → i < oW P p → τ' 117 i = nI (oDg P x p i)) → oT L (k + 1) 1 23 [some (.ref 4), some (.ref 1), some (.ref 2), some (.int (nI x)), some (.int (nI (oRs P x j / oFc c))), some (.int (nI p)), some (.int (nI (oW P p))), some (.int (nI (c + 1)))] [] τ' (fun o σ' => o = .inl none ∧ (∀ o, o < 68 ∨ 120 < o → σ' o = σ o) ∧ oPp σ' 4 77 120 P M W ∧ oXk σ' 68 P x ∧ oIR P.n M (oGv P (oXs P x)) M.R (fun r => W r = true) (oVw σ' 77)) := by
        intro d
        induction d with
        | zero =>
          intro c τ' hc f1 f3 f4 f5
          obtain rfl : c = oW P p := by omega
          refine oT_N 3 rfl (oT_lt (oW P p) (oW P p + 1) rfl rfl (by omega) (by omega) (fun _ => ?_) (fun q => by omega))
          have hC : oC τ' P := oC_ext h (f1 1 (by decide)) (fun o q1 q2 => f1 o (by omega))
          refine oT_N 3 rfl (oT_V rfl rfl rfl rfl (by omega) (by omega) (ot_arranget (x := x) hC (show p < 4 by omega) (fun i hi => f5 i (by omega) hi) (by omega) (by omega)) (fun x σ2 h => by cases h.1) (fun v τ2 hv => ?_))
          obtain ⟨hv, v1, v2, v3, v4⟩ := hv
          cases hv
          have hnx : oRs P x j / oFc (oW P p) = oRs P x (j + 1) := by
            show _ = oRs P x j / _
            rw [show 3 - j = p by omega]
          rw [hnx]
          refine oT_N 2 rfl (ih (j + 1) τ2 _ _ (by omega) (fun o ho => by rw [v1 o (by omega) (by omega)]; exact f1 o ho) (fun p' q1 q2 => ?_) (fun p' q1 q2 j' hj' => ?_))
          · by_cases e : p' = p
            · rw [e]; exact v2
            · rw [v3 p' e]; exact f3 p' (by omega) q2
          · by_cases e : p' = p
            · subst e; exact v4 j' hj'
            · rw [v1 _ (by omega) (by omega)]; exact f4 p' (by omega) q2 j' hj'
        | succ d ihd =>
          intro c τ' hc f1 f3 f4 f5
          have hfp := oFc_pos c
          have hdl : oRs P x j / oFc c ≤ x := Nat.le_trans (Nat.div_le_self _ _) hrl
          refine oT_N 3 rfl (oT_lt (oW P p) (c + 1) rfl rfl (by omega) (by omega) (fun q => by omega) (fun _ => ?_))
          have es : nI (oW P p) - nI (c + 1) = nI (oW P p - (c + 1)) := pk_sub (by omega)
          refine oT_N 7 rfl (oT_Rem (x := nI (oRs P x j / oFc c)) (y := nI (c + 1)) rfl (nI_ne0 (by omega) (by omega)) ?_)
          rw [pk_rem (by omega) (by omega) (by omega)]
          refine oT_Is (o := 117) (n := nI (oW P p) - nI (c + 1)) (x := nI (oRs P x j / oFc c % (c + 1))) rfl ⟨rfl, by decide⟩ (by rw [es]; exact ox_ix (N := 12) (by omega) (by decide)) ?_
          rw [es, nI_clamp (by omega)]
          refine oT_N 2 rfl (oT_Div (x := nI (oRs P x j / oFc c)) (y := nI (c + 1)) rfl (nI_ne0 (by omega) (by omega)) ?_)
          rw [pk_div (by omega) (by omega) (by omega), Nat.div_div_eq_div_mul]
          have e := ihd (c + 1) (ox_up τ' 117 (oW P p - (c + 1)) (nI (oRs P x j / oFc c % (c + 1)))) (by omega) (fun o ho => by rw [ox_up_ne (by omega)]; exact f1 o ho) (fun p' q1 q2 => by rw [ox_up_ne (by decide)]; exact f3 p' q1 q2) (fun p' q1 q2 j' hj' => by rw [ox_up_ne (by omega)]; exact f4 p' q1 q2 j' hj') (fun i q1 q2 => by
            rw [ox_up_at]
            by_cases e : i = oW P p - (c + 1)
            · rw [if_pos e]
              unfold oDg
              rw [show 3 - p = j by omega, show oW P p - 1 - i = c by omega, show oW P p - i = c + 1 by omega]
            · rw [if_neg e]; exact f5 i (by omega) q2)
          rw [show oFc (c + 1) = oFc c * (c + 1) from Nat.mul_comm _ _, ← ox_inc (c + 1)] at e
          exact oT_N 3 rfl e
      have e := digs (oW P p) 0 τ (by omega) t1 t3 t4 (fun i q1 q2 => by omega)
      rw [show oRs P x j / oFc 0 = oRs P x j from Nat.div_one _] at e
      exact oT_N 3 rfl e
  refine oT_N 4 rfl ?_
  exact places 4 0 σ none none rfl (fun _ _ => rfl) (fun p q1 q2 => by omega) (fun p q1 q2 => by omega)
end OYHt

section OYHs
variable {L k n : Nat} {σ : ox_S} {P : oPr} {M : oMo}
set_option maxHeartbeats 2000000 in
theorem ot_chooses {x : Nat} {W : Nat → Bool} (h : oC σ P) (hm : oCo σ M) (hp : oPp σ 5 130 173 P M W) (hx : x < 2 ^ 31) (hk : 4 ≤ k) (hk9 : k ≤ 9) : oT L k 1 0 [some (.ref 5), some (.ref 1), some (.ref 2), some (.int (nI x)), none, none, none, none] [] σ (fun o σ' => o = .inl none ∧ (∀ o, o < 121 ∨ 173 < o → σ' o = σ o) ∧ oPp σ' 5 130 173 P M W ∧ oXk σ' 121 P x ∧ oIR P.n M (oGv P (oXs P x)) M.R (fun r => W r = true) (oVw σ' 130)) := by
  obtain ⟨k, rfl⟩ : ∃ k', k = k' + 1 := ⟨k - 1, by omega⟩
  obtain ⟨⟨hT, hn, hok⟩, a2, a3, a4, a5, a6, a7, a8, a9⟩ := id h
  obtain ⟨hMok, g1, g2, g3, g4⟩ := id hm
  obtain ⟨m1, m2, m3, m4, m5⟩ := id hMok
  obtain ⟨p1, p2, p3, p4, p5, p6, p7⟩ := hp
  have hw : ∀ p, oW P p ≤ 12 := fun p => Nat.le_trans (ocW_le P p P.n) hn
  have hR := ocR_le P P.n
  have hcR := oCn_le (oPf M W) M.R
  -- the plan
  have plan : ∀ (d j : Nat) (τ : ox_S) (y4 : Int32) (l6 l7 : Option Value), j + d = oCn (oPf M W) M.R → (∀ o, o < 121 ∨ 173 < o → τ o = σ o) → (∀ j, τ 173 j = σ 173 j) → (∀ r, r < M.R → W r = true → oSd M r = true → τ (130 + r) = σ (130 + r)) → oXk τ 121 P x → oIR P.n M (oGv P (oXs P x)) M.R (fun r => W r = true ∧ (oPf M W r = true → oCn (oPf M W) r < j)) (oVw τ 130) → oT L (k + 1) 1 174 [some (.ref 5), some (.ref 1), some (.ref 2), some (.int (nI x)), some (.int y4), some (.int (nI j)), l6, l7] [] τ (fun o σ' => o = .inl none ∧ (∀ o, o < 121 ∨ 173 < o → σ' o = σ o) ∧ oPp σ' 5 130 173 P M W ∧ oXk σ' 121 P x ∧ oIR P.n M (oGv P (oXs P x)) M.R (fun r => W r = true) (oVw σ' 130)) := by
    intro d
    induction d with
    | zero =>
      intro j τ y4 l6 l7 hj t1 t2 t3 t4 t5
      obtain rfl : j = oCn (oPf M W) M.R := by omega
      refine oT_N 4 rfl (oT_le (oCn (oPf M W) M.R) (oCn (oPf M W) M.R) (by rw [t1 5 (by decide)]; exact p5) rfl (by omega) (by omega) (fun _ => ?_) (fun q => by omega))
      refine oT_Retv rfl rfl ⟨rfl, t1, ⟨p1, by rw [t1 5 (by decide)]; exact p2, by rw [t1 5 (by decide)]; exact p3, by rw [t1 5 (by decide)]; exact p4, by rw [t1 5 (by decide)]; exact p5, fun j hj => by rw [t2]; exact p6 j hj, ?_⟩, t4, fun r hr hwr => t5 r hr ⟨hwr, fun hf => oCn_lt hr hf⟩⟩
      exact oIR_ext hMok (Nat.le_refl _) (fun r q1 q2 q3 => oPf_dn hMok p1 q1 q2 q3.1 q3.2) (fun r q1 q2 a b _ _ => by unfold oVw oBr; rw [t3 r q1 q2.1 q2.2]) p7
    | succ d ih =>
      intro j τ y4 l6 l7 hj t1 t2 t3 t4 t5
      obtain ⟨e1, e2, e3⟩ := oKt_sp (f := oPf M W) (k := j) M.R (by omega)
      obtain ⟨f1, f2, f3⟩ := oPf_iff.mp e2
      refine oT_N 4 rfl (oT_le (oCn (oPf M W) M.R) j (by rw [t1 5 (by decide)]; exact p5) rfl (by omega) (by omega) (fun q => by omega) (fun _ => ?_))
      refine oT_N 5 rfl (oT_I (o := 173) (n := nI j) rfl (Or.inl ⟨rfl, by decide⟩) (ox_ix (N := 40) (by omega) (by decide)) ?_)
      rw [nI_clamp (by omega), t2, p6 j (by omega)]
      have hm2 : oCo τ M := oCo_ext hm (t1 2 (by decide)) (fun o q1 q2 => t1 o (by omega))
      refine oT_V rfl rfl rfl rfl (by omega) (by omega) (ot_fillMades (n := P.n) hm2 f1 e1 (by rw [t1 5 (by decide)]; exact p2) hn (by omega) (by omega)) (fun x σ2 h => by cases h.1) (fun v τ2 hv => ?_)
      obtain ⟨hv, v1, v2⟩ := hv
      cases hv
      generalize hrs : oKt (oPf M W) M.R j = rs at e1 e2 e3 f1 f2 f3 v1 v2
      have hrow : ∀ r, r < 40 → r ≠ rs → oVw τ2 130 r = oVw τ 130 r := fun r q1 q2 => by
        funext a b
        unfold oVw oBr
        rw [v1 _ (by omega)]
      obtain ⟨n1, n2, n3⟩ := m4 rs f1 e1
      have e := ih (j + 1) τ2 y4 l6 l7 (by omega) (fun o ho => by rw [v1 o (by omega)]; exact t1 o ho) (fun q => by rw [v1 173 (by omega)]; exact t2 q) (fun r q1 q2 q3 => by
        have hne : r ≠ rs := fun e => by rw [e, f3] at q3; cases q3
        rw [v1 _ (by omega)]
        exact t3 r q1 q2 q3) ⟨fun i hi => by rw [v1 121 (by omega), v1 122 (by omega)]; exact t4.1 i hi, fun p hp => by rw [v1 123 (by omega)]; exact t4.2.1 p hp, fun p hp j' hj' => by rw [v1 (125 + p) (by omega)]; exact t4.2.2 p hp j' hj'⟩ (fun r hr hwr a b ha hb => by
        by_cases e : r = rs
        · subst e
          refine ⟨fun q => by omega, fun q => ?_⟩
          rw [hrow (M.lf r) (by omega) (by omega), hrow (M.rt r) (by omega) (by omega)]
          exact v2 a b ha hb
        · have hj' : W r = true ∧ (oPf M W r = true → oCn (oPf M W) r < j) := ⟨hwr.1, fun q => by
            have := hwr.2 q
            have : oCn (oPf M W) r ≠ j := fun q2 => e (oCn_inj q e2 (by rw [q2, e3]))
            omega⟩
          obtain ⟨w1, w2⟩ := t5 r hr hj' a b ha hb
          refine ⟨fun q => by rw [hrow r (by omega) e]; exact w1 q, fun q => ?_⟩
          obtain ⟨o1, o2, o3⟩ := m4 r q hr
          have hlr : M.lf r ≠ rs ∧ M.rt r ≠ rs := by
            have key : ∀ y, y < r → (oSd M r = true → oSd M y = true) → y ≠ rs := fun y hy hs q3 => by
              subst q3
              cases hsr : oSd M r with
              | true =>
                rw [hs hsr] at f3
                cases f3
              | false =>
                have hfr : oPf M W r = true := oPf_iff.mpr ⟨q, hwr.1, hsr⟩
                have := hj'.2 hfr
                have := oCn_lt hy e2
                omega
            have hh := oSd_hi hMok q hr
            exact ⟨key _ o2 (fun q2 => by rw [hh, Bool.and_eq_true] at q2; exact q2.1), key _ o3 (fun q2 => by rw [hh, Bool.and_eq_true] at q2; exact q2.2)⟩
          rw [hrow r (by omega) e, hrow (M.lf r) (by omega) hlr.1, hrow (M.rt r) (by omega) hlr.2]
          exact w2 q)
      rw [← ox_inc j] at e
      exact oT_N 2 rfl e
  -- the reads
  have reads : ∀ (m : Nat) (τ : ox_S) (l6 l7 : Option Value), m ≤ ocR P P.n → (∀ o, o < 121 ∨ (128 < o ∧ o ≠ 170) → τ o = σ o) → (∀ i, m ≤ i → i < ocR P P.n → τ 121 i = nI (oPk P x i) ∧ τ 122 i = oSc P x i) → (∀ p, p < 4 → τ 123 p = nI (oW P p)) → (∀ p, p < 4 → ∀ j, j < oW P p → τ (125 + p) j = nI (oOd P x p j)) → oT L (k + 1) 1 79 [some (.ref 5), some (.ref 1), some (.ref 2), some (.int (nI x)), some (.int (nI (oRr P x (ocR P P.n - m)))), some (.int (nI m + Int32.ofInt (-1))), l6, l7] [] τ (fun o σ' => o = .inl none ∧ (∀ o, o < 121 ∨ 173 < o → σ' o = σ o) ∧ oPp σ' 5 130 173 P M W ∧ oXk σ' 121 P x ∧ oIR P.n M (oGv P (oXs P x)) M.R (fun r => W r = true) (oVw σ' 130)) := by
    intro m
    induction m with
    | zero =>
      intro τ l6 l7 hmR t1 t2 t3 t4
      refine oT_N 2 rfl (oT_If (fun _ => ?_) (fun (q : ¬ nI 0 + Int32.ofInt (-1) < 0) => absurd ox_dc0 q))
      have hC : oC τ P := oC_ext h (t1 1 (by decide)) (fun o q1 q2 => t1 o (by omega))
      refine oT_N 2 rfl (oT_V rfl rfl rfl rfl (by omega) (by omega) (ot_fillChosens (x := x) hC (by rw [t1 5 (by decide)]; exact p2) (by rw [t1 5 (by decide)]; exact p4) (fun i hi => (t2 i (Nat.zero_le _) hi).2) t3 (fun p j hp hj => t4 p hp j hj) (by omega) (by omega)) (fun x σ2 h => by cases h.1) (fun v τ2 hv => ?_))
      obtain ⟨hv, v1, v2⟩ := hv
      cases hv
      have hst : ∀ r, r < M.R → oSd M r = true → ¬ (1 ≤ r ∧ r ≤ 4) := fun r _ hs q => by
        rw [oSd_lo (by omega), decide_eq_true_eq] at hs
        omega
      refine oT_N 2 rfl (plan (oCn (oPf M W) M.R) 0 τ2 _ l6 l7 (by omega) (fun o ho => by rw [v1 o (by omega)]; exact t1 o (by omega)) (fun j => by rw [v1 173 (by decide), t1 173 (by decide)]) (fun r q1 q2 q3 => ?_) ⟨fun i hi => ?_, fun p hp => ?_, fun p hp j hj => ?_⟩ (fun r hr hwr a b ha hb => ?_))
      · have := hst r q1 q3
        rw [v1 _ (by omega), t1 _ (by omega)]
      · rw [v1 121 (by decide), v1 122 (by decide)]
        exact t2 i (Nat.zero_le _) hi
      · rw [v1 123 (by decide)]; exact t3 p hp
      · rw [v1 (125 + p) (by omega)]; exact t4 p hp j hj
      · have hnf : oPf M W r = false := by
          cases q : oPf M W r with
          | false => rfl
          | true => have := hwr.2 q; omega
        rcases Nat.lt_or_ge r 12 with q | q
        · refine ⟨fun _ => ?_, fun q2 => by omega⟩
          by_cases q3 : 1 ≤ r ∧ r ≤ 4
          · exact v2 r q3.1 q3.2 a b ha hb
          · have hs : oSd M r = true := by rw [oSd_lo q]; exact decide_eq_true (by omega)
            have e1 : oVw τ2 130 r a b = oVw σ 130 r a b := by unfold oVw oBr; rw [v1 _ (by omega), t1 _ (by omega)]
            rw [e1, (p7 r hr ⟨hwr.1, hs⟩ a b ha hb).1 q]
            exact oGv_st (by omega)
        · have hs : oSd M r = true := by
            cases q2 : oSd M r with
            | true => rfl
            | false =>
              rw [oPf_iff.mpr ⟨q, hwr.1, q2⟩] at hnf
              cases hnf
          obtain ⟨n1, n2, n3⟩ := m4 r q hr
          obtain ⟨c1, c2⟩ := oPf_dn hMok p1 q hr hwr.1 hs
          have hrow : ∀ y, y < M.R → oSd M y = true → oVw τ2 130 y = oVw σ 130 y := fun y hy hsy => by
            have := hst y hy hsy
            funext a b
            unfold oVw oBr
            rw [v1 _ (by omega), t1 _ (by omega)]
          refine ⟨fun q2 => by omega, fun q2 => ?_⟩
          rw [hrow r hr hs, hrow _ (by omega) c1.2, hrow _ (by omega) c2.2]
          exact (p7 r hr ⟨hwr.1, hs⟩ a b ha hb).2 q
    | succ i ih =>
      intro τ l6 l7 hmR t1 t2 t3 t4
      rw [ox_dec]
      have ci : (nI i).toNatClampNeg = i := nI_clamp (by omega)
      have ni : ¬ (nI i < 0 ∨ 12 ≤ (nI i).toNatClampNeg) := ox_ix (by omega) (by decide)
      have hC : oC τ P := oC_ext h (t1 1 (by decide)) (fun o q1 q2 => t1 o (by omega))
      obtain ⟨r1, r2, r3⟩ := oRd_sp (P := P) (i := i) (by omega)
      have hpl := (hok _ r1).2.2 (by omega)
      have hwp := hw (P.pl (oRd P i))
      have npl : ¬ (nI (P.pl (oRd P i)) < 0 ∨ 4 ≤ (nI (P.pl (oRd P i))).toNatClampNeg) := ox_ix (by omega) (by decide)
      have cpl : (nI (P.pl (oRd P i))).toNatClampNeg = P.pl (oRd P i) := nI_clamp (by omega)
      refine oT_N 2 rfl (oT_lt i 0 rfl rfl (by omega) (by decide) (fun q => by omega) (fun _ => ?_))
      refine oT_N 2 rfl (oT_V rfl rfl rfl rfl (by omega) (by omega) (ot_placeRead hC (show i < ocR P P.n by omega)) (fun x σ2 h => by cases h.1) (fun v τ' hv => ?_))
      obtain ⟨hv, rfl⟩ := hv
      cases hv
      refine oT_N 5 rfl (oT_I (o := 15) (n := nI (P.pl (oRd P i))) rfl (Or.inl ⟨rfl, by decide⟩) npl ?_)
      rw [cpl, t1 15 (by decide), a7 _ hpl]
      have e1 : Int32.ofInt 1 + nI (oW P (P.pl (oRd P i))) = nI (1 + oW P (P.pl (oRd P i))) := nI_add 1 _
      have hne : ¬ Int32.ofInt 1 + nI (oW P (P.pl (oRd P i))) = 0 := by rw [e1]; exact nI_ne0 (by omega) (by omega)
      have hrl := oRr_le P x (ocR P P.n - (i + 1))
      have hpk : oRr P x (ocR P P.n - (i + 1)) % (1 + oW P (P.pl (oRd P i))) = oPk P x i := by
        unfold oPk
        rw [show ocR P P.n - (i + 1) = ocR P P.n - 1 - i by omega]
      have hdv : oRr P x (ocR P P.n - (i + 1)) / (1 + oW P (P.pl (oRd P i))) = oRr P x (ocR P P.n - i) := by
        rw [show ocR P P.n - i = (ocR P P.n - (i + 1)) + 1 by omega]
        show _ = _ / _
        rw [show ocR P P.n - 1 - (ocR P P.n - (i + 1)) = i by omega]
      have hpkl : oPk P x i < 1 + oW P (P.pl (oRd P i)) := oPk_lt
      refine oT_N 7 rfl (oT_Rem (x := nI (oRr P x (ocR P P.n - (i + 1)))) (y := Int32.ofInt 1 + nI (oW P (P.pl (oRd P i)))) rfl hne ?_)
      rw [show nI (oRr P x (ocR P P.n - (i + 1))) - nI (oRr P x (ocR P P.n - (i + 1))) / (Int32.ofInt 1 + nI (oW P (P.pl (oRd P i)))) * (Int32.ofInt 1 + nI (oW P (P.pl (oRd P i)))) = nI (oPk P x i) by rw [e1, pk_rem (by omega) (by omega) (by omega), hpk]]
      refine oT_Is (o := 121) (n := nI i) (x := nI (oPk P x i)) rfl ⟨rfl, by decide⟩ ni ?_
      rw [ci]
      refine oT_N 2 rfl (oT_Div (x := nI (oRr P x (ocR P P.n - (i + 1)))) (y := Int32.ofInt 1 + nI (oW P (P.pl (oRd P i)))) rfl hne ?_)
      rw [show nI (oRr P x (ocR P P.n - (i + 1))) / (Int32.ofInt 1 + nI (oW P (P.pl (oRd P i)))) = nI (oRr P x (ocR P P.n - i)) by rw [e1, pk_div (by omega) (by omega) (by omega), hdv]]
      have fin : ∀ s : Int32, s = oSc P x i → oT L (k + 1) 1 160 [some (.ref 5), some (.ref 1), some (.ref 2), some (.int (nI x)), some (.int (nI (oRr P x (ocR P P.n - i)))), some (.int (nI i)), some (.int (nI (P.pl (oRd P i)))), some (.int (Int32.ofInt 1 + nI (oW P (P.pl (oRd P i)))))] [] (ox_up (ox_up τ' 121 i (nI (oPk P x i))) 122 i s) (fun o σ' => o = .inl none ∧ (∀ o, o < 121 ∨ 173 < o → σ' o = σ o) ∧ oPp σ' 5 130 173 P M W ∧ oXk σ' 121 P x ∧ oIR P.n M (oGv P (oXs P x)) M.R (fun r => W r = true) (oVw σ' 130)) := fun s hs => by
        refine oT_N 2 rfl (ih _ _ _ (by omega) (fun o ho => by rw [ox_up_ne (by omega), ox_up_ne (by omega)]; exact t1 o ho) (fun i' q1 q2 => ?_) (fun p hp => by rw [ox_up_ne (by decide), ox_up_ne (by decide)]; exact t3 p hp) (fun p hp j hj => by rw [ox_up_ne (by omega), ox_up_ne (by omega)]; exact t4 p hp j hj))
        rw [ox_up_ne (by decide), ox_up_at, ox_up_at, ox_up_ne (by decide)]
        by_cases e : i' = i
        · rw [if_pos e, if_pos e, e]
          exact ⟨rfl, hs⟩
        · rw [if_neg e, if_neg e]
          exact t2 i' (by omega) q2
      refine oT_N 7 rfl (oT_I (o := 121) (n := nI i) rfl (Or.inl ⟨rfl, by decide⟩) ni ?_)
      rw [ci, ox_up_at, if_pos rfl]
      refine oT_N 1 rfl (oT_eq (oPk P x i) 0 rfl rfl (by omega) (by decide) (fun q => ?_) (fun q => ?_))
      · refine oT_N 2 rfl (oT_Is (o := 122) (n := nI i) (x := Int32.ofInt (-1)) rfl ⟨rfl, by decide⟩ ni ?_)
        rw [ci]
        exact fin _ (by unfold oSc; rw [if_pos q]; rfl)
      · obtain ⟨-, -, -, -, -, -, k1, k2, k3⟩ := ox_k34 (P.pl (oRd P i)) hpl
        refine oT_N 3 rfl (oT_A (o := 17) (n := nI (P.pl (oRd P i))) rfl ⟨rfl, by decide⟩ npl ?_)
        rw [cpl]
        refine oT_N 3 rfl (oT_I (o := 121) (n := nI i) rfl (Or.inl ⟨rfl, by decide⟩) ni ?_)
        rw [ci, ox_up_at, if_pos rfl]
        have em : nI (oPk P x i) - Int32.ofInt 1 = nI (oPk P x i - 1) := pk_sub (b := 1) (by omega)
        refine oT_N 2 rfl (oT_I (o := 18 + P.pl (oRd P i)) (n := nI (oPk P x i) - Int32.ofInt 1) rfl (Or.inl ⟨k1, k2⟩) (by rw [em]; exact ox_ixL k2 k3 (by omega) (by decide)) ?_)
        rw [em, nI_clamp (by omega), ox_up_ne (by omega), t1 _ (by omega), a9 _ hpl _ (by omega)]
        refine oT_Is (o := 122) (n := nI i) (x := nI (oWr P (P.pl (oRd P i)) (oPk P x i - 1))) rfl ⟨rfl, by decide⟩ ni ?_
        rw [ci]
        exact fin _ (by unfold oSc; rw [if_neg q])
  -- the places
  have places : ∀ (m j : Nat) (τ : ox_S) (l6 l7 : Option Value), m + j = 4 → (∀ o, o < 123 ∨ (128 < o ∧ o ≠ 170) → τ o = σ o) → (∀ p, m ≤ p → p < 4 → τ 123 p = nI (oW P p)) → (∀ p, m ≤ p → p < 4 → ∀ j, j < oW P p → τ (125 + p) j = nI (oOd P x p j)) → oT L (k + 1) 1 6 [some (.ref 5), some (.ref 1), some (.ref 2), some (.int (nI x)), some (.int (nI (oRs P x j))), some (.int (nI m + Int32.ofInt (-1))), l6, l7] [] τ (fun o σ' => o = .inl none ∧ (∀ o, o < 121 ∨ 173 < o → σ' o = σ o) ∧ oPp σ' 5 130 173 P M W ∧ oXk σ' 121 P x ∧ oIR P.n M (oGv P (oXs P x)) M.R (fun r => W r = true) (oVw σ' 130)) := by
    intro m
    induction m with
    | zero =>
      intro j τ l6 l7 hm t1 t3 t4
      obtain rfl : j = 4 := by omega
      refine oT_N 2 rfl (oT_If (fun _ => ?_) (fun (q : ¬ nI 0 + Int32.ofInt (-1) < 0) => absurd ox_dc0 q))
      have e := reads (ocR P P.n) τ l6 l7 (Nat.le_refl _) (fun o ho => t1 o (by omega)) (fun i q1 q2 => by omega) (fun p hp => t3 p (Nat.zero_le _) hp) (fun p hp => t4 p (Nat.zero_le _) hp)
      rw [Nat.sub_self, ← ox_sub1, ← p4, ← t1 5 (by decide)] at e
      exact oT_N 5 rfl e
    | succ p ih =>
      intro j τ l6 l7 hm t1 t3 t4
      rw [ox_dec]
      have cp : (nI p).toNatClampNeg = p := nI_clamp (by omega)
      have np : ¬ (nI p < 0 ∨ 4 ≤ (nI p).toNatClampNeg) := ox_ix (by omega) (by decide)
      have hwp := hw p
      have hrl := oRs_le P x j
      refine oT_N 2 rfl (oT_lt p 0 rfl rfl (by omega) (by decide) (fun q => by omega) (fun _ => ?_))
      refine oT_N 3 rfl (oT_I (o := 15) (n := nI p) rfl (Or.inl ⟨rfl, by decide⟩) np ?_)
      rw [cp, t1 15 (by decide), a7 p (by omega)]
      have digs : ∀ (d c : Nat) (τ' : ox_S), c + d = oW P p → (∀ o, o < 123 ∨ (128 < o ∧ o ≠ 170) → τ' o = σ o) → (∀ p', p + 1 ≤ p' → p' < 4 → τ' 123 p' = nI (oW P p')) → (∀ p', p + 1 ≤ p' → p' < 4 → ∀ j, j < oW P p' → τ' (125 + p') j = nI (oOd P x p' j)) → (∀ i, oW P p - c ≤ i → i < oW P p → τ' 170 i = nI (oDg P x p i)) → oT L (k + 1) 1 23 [some (.ref 5), some (.ref 1), some (.ref 2), some (.int (nI x)), some (.int (nI (oRs P x j / oFc c))), some (.int (nI p)), some (.int (nI (oW P p))), some (.int (nI (c + 1)))] [] τ' (fun o σ' => o = .inl none ∧ (∀ o, o < 121 ∨ 173 < o → σ' o = σ o) ∧ oPp σ' 5 130 173 P M W ∧ oXk σ' 121 P x ∧ oIR P.n M (oGv P (oXs P x)) M.R (fun r => W r = true) (oVw σ' 130)) := by
        intro d
        induction d with
        | zero =>
          intro c τ' hc f1 f3 f4 f5
          obtain rfl : c = oW P p := by omega
          refine oT_N 3 rfl (oT_lt (oW P p) (oW P p + 1) rfl rfl (by omega) (by omega) (fun _ => ?_) (fun q => by omega))
          have hC : oC τ' P := oC_ext h (f1 1 (by decide)) (fun o q1 q2 => f1 o (by omega))
          refine oT_N 3 rfl (oT_V rfl rfl rfl rfl (by omega) (by omega) (ot_arranges (x := x) hC (show p < 4 by omega) (fun i hi => f5 i (by omega) hi) (by omega) (by omega)) (fun x σ2 h => by cases h.1) (fun v τ2 hv => ?_))
          obtain ⟨hv, v1, v2, v3, v4⟩ := hv
          cases hv
          have hnx : oRs P x j / oFc (oW P p) = oRs P x (j + 1) := by
            show _ = oRs P x j / _
            rw [show 3 - j = p by omega]
          rw [hnx]
          refine oT_N 2 rfl (ih (j + 1) τ2 _ _ (by omega) (fun o ho => by rw [v1 o (by omega) (by omega)]; exact f1 o ho) (fun p' q1 q2 => ?_) (fun p' q1 q2 j' hj' => ?_))
          · by_cases e : p' = p
            · rw [e]; exact v2
            · rw [v3 p' e]; exact f3 p' (by omega) q2
          · by_cases e : p' = p
            · subst e; exact v4 j' hj'
            · rw [v1 _ (by omega) (by omega)]; exact f4 p' (by omega) q2 j' hj'
        | succ d ihd =>
          intro c τ' hc f1 f3 f4 f5
          have hfp := oFc_pos c
          have hdl : oRs P x j / oFc c ≤ x := Nat.le_trans (Nat.div_le_self _ _) hrl
          refine oT_N 3 rfl (oT_lt (oW P p) (c + 1) rfl rfl (by omega) (by omega) (fun q => by omega) (fun _ => ?_))
          have es : nI (oW P p) - nI (c + 1) = nI (oW P p - (c + 1)) := pk_sub (by omega)
          refine oT_N 7 rfl (oT_Rem (x := nI (oRs P x j / oFc c)) (y := nI (c + 1)) rfl (nI_ne0 (by omega) (by omega)) ?_)
          rw [pk_rem (by omega) (by omega) (by omega)]
          refine oT_Is (o := 170) (n := nI (oW P p) - nI (c + 1)) (x := nI (oRs P x j / oFc c % (c + 1))) rfl ⟨rfl, by decide⟩ (by rw [es]; exact ox_ix (N := 12) (by omega) (by decide)) ?_
          rw [es, nI_clamp (by omega)]
          refine oT_N 2 rfl (oT_Div (x := nI (oRs P x j / oFc c)) (y := nI (c + 1)) rfl (nI_ne0 (by omega) (by omega)) ?_)
          rw [pk_div (by omega) (by omega) (by omega), Nat.div_div_eq_div_mul]
          have e := ihd (c + 1) (ox_up τ' 170 (oW P p - (c + 1)) (nI (oRs P x j / oFc c % (c + 1)))) (by omega) (fun o ho => by rw [ox_up_ne (by omega)]; exact f1 o ho) (fun p' q1 q2 => by rw [ox_up_ne (by decide)]; exact f3 p' q1 q2) (fun p' q1 q2 j' hj' => by rw [ox_up_ne (by omega)]; exact f4 p' q1 q2 j' hj') (fun i q1 q2 => by
            rw [ox_up_at]
            by_cases e : i = oW P p - (c + 1)
            · rw [if_pos e]
              unfold oDg
              rw [show 3 - p = j by omega, show oW P p - 1 - i = c by omega, show oW P p - i = c + 1 by omega]
            · rw [if_neg e]; exact f5 i (by omega) q2)
          rw [show oFc (c + 1) = oFc c * (c + 1) from Nat.mul_comm _ _, ← ox_inc (c + 1)] at e
          exact oT_N 3 rfl e
      have e := digs (oW P p) 0 τ (by omega) t1 t3 t4 (fun i q1 q2 => by omega)
      rw [show oRs P x j / oFc 0 = oRs P x j from Nat.div_one _] at e
      exact oT_N 3 rfl e
  refine oT_N 4 rfl ?_
  exact places 4 0 σ none none rfl (fun _ _ => rfl) (fun p q1 q2 => by omega) (fun p q1 q2 => by omega)
end OYHs
