section OYDt
variable {L k : Nat} {σ : ox_S} {P : oPr} {M : oMo}
set_option maxHeartbeats 1000000 in
theorem ot_arranget {p x : Nat} (h : oC σ P) (hp : p < 4) (hd : ∀ i, i < oW P p → σ 117 i = nI (oDg P x p i)) (hk : 2 ≤ k) (hk9 : k ≤ 9) : oT L k 3 0 [some (.ref 4), some (.ref 1), some (.int (nI p)), none, none, none] [] σ (fun o σ' => o = .inl none ∧ (∀ o, o ≠ 70 → o ≠ 72 + p → σ' o = σ o) ∧ σ' 70 p = nI (oW P p) ∧ (∀ q, q ≠ p → σ' 70 q = σ 70 q) ∧ ∀ j, j < oW P p → σ' (72 + p) j = nI (oOd P x p j)) := by
  obtain ⟨k, rfl⟩ : ∃ k', k = k' + 1 := ⟨k - 1, by omega⟩
  obtain ⟨⟨hT, hn, hok⟩, a2, a3, a4, a5, a6, a7, a8, a9⟩ := id h
  have hw : oW P p ≤ 12 := Nat.le_trans (ocW_le P p P.n) hn
  have n4 : ¬ (nI p < 0 ∨ 4 ≤ (nI p).toNatClampNeg) := ox_ix (by omega) (by decide)
  have hc : (nI p).toNatClampNeg = p := nI_clamp (by omega)
  have r72 : oRw (72 + p) := by have := oRw_72 p hp; first | exact this.1 | exact this.2
  refine oT_N 3 rfl (oT_I (o := 15) (n := nI p) rfl (Or.inl ⟨rfl, by decide⟩) n4 ?_)
  rw [hc, a7 p hp]
  refine oT_N 4 rfl (oT_I (o := 16) (n := nI p) rfl (Or.inl ⟨rfl, by decide⟩) n4 ?_)
  rw [hc]
  refine oT_N 5 rfl (oT_Is (o := 70) (n := nI p) (x := nI (oW P p)) rfl ⟨rfl, by decide⟩ n4 ?_)
  rw [hc]
  have loop : ∀ (d i : Nat) (m : Int32) (τ : ox_S), i + d = oW P p → (∀ o, o ≠ 70 → o ≠ 72 + p → τ o = σ o) → τ 70 p = nI (oW P p) → (∀ q, q ≠ p → τ 70 q = σ 70 q) → (∀ j, j < i → τ (72 + p) j = nI (oOd P x p j)) → (∀ b, b < 12 → oBit m b = (decide (b < P.n) && oSt P x p i b)) → oT L (k + 1) 3 25 [some (.ref 4), some (.ref 1), some (.int (nI p)), some (.int (nI (oW P p))), some (.int m), some (.int (nI i))] [] τ (fun o σ' => o = .inl none ∧ (∀ o, o ≠ 70 → o ≠ 72 + p → σ' o = σ o) ∧ σ' 70 p = nI (oW P p) ∧ (∀ q, q ≠ p → σ' 70 q = σ 70 q) ∧ ∀ j, j < oW P p → σ' (72 + p) j = nI (oOd P x p j)) := by
    intro d
    induction d with
    | zero =>
      intro i m τ hi h1 h2 h3 h4 h5
      refine oT_N 3 rfl (oT_le (oW P p) i rfl rfl (by omega) (by omega) (fun _ => ?_) (fun q => by omega))
      exact oT_Retv rfl rfl ⟨rfl, h1, h2, h3, fun j hj => h4 j (by omega)⟩
    | succ d ih =>
      intro i m τ hi h1 h2 h3 h4 h5
      have hci : (nI i).toNatClampNeg = i := nI_clamp (by omega)
      have hcn : oDg P x p i < oCn (oSt P x p i) P.n := by rw [oSt_cn i (by omega)]; exact oDg_lt (by omega)
      have hkt := oKt_cut (f := oBit m) (g := oSt P x p i) (N := 12) hn h5 hcn
      have hcc := oCn_cut (f := oBit m) (g := oSt P x p i) 12 hn h5
      refine oT_N 3 rfl (oT_le (oW P p) i rfl rfl (by omega) (by omega) (fun q => by omega) (fun _ => ?_))
      refine oT_N 3 rfl (oT_A (o := 71) (n := nI p) rfl ⟨rfl, by decide⟩ n4 ?_)
      rw [hc]
      refine oT_N 5 rfl (oT_I (o := 117) (n := nI i) rfl (Or.inl ⟨rfl, by decide⟩) (ox_ix (N := 12) (by omega) (by decide)) ?_)
      rw [hci, h1 117 (by decide) (by omega), hd i (by omega)]
      refine oT_S rfl rfl rfl (by omega) (by omega) (ot_memberAt (m := m) (j := oDg P x p i) (by rw [hcc]; exact hcn)) (fun x σ2 h => by cases h.1) (fun v σ2 hv => ?_)
      obtain ⟨hv, rfl⟩ := hv
      cases hv
      rw [hkt]
      have hod : oKt (oSt P x p i) P.n (oDg P x p i) = oOd P x p i := rfl
      rw [hod]
      have hol := (oOd_w (P := P) (x := x) (p := p) (i := i) (by omega)).1
      refine oT_Is (o := 72 + p) (n := nI i) (x := nI (oOd P x p i)) rfl ⟨r72.1, r72.2.1⟩ (ox_ixL r72.2.1 r72.2.2 (by omega) (by decide)) ?_
      rw [hci]
      refine oT_N 5 rfl (oT_A (o := 71) (n := nI p) rfl ⟨rfl, by decide⟩ n4 ?_)
      rw [hc]
      refine oT_N 1 rfl (oT_I (o := 72 + p) (n := nI i) rfl (Or.inl ⟨r72.1, r72.2.1⟩) (ox_ixL r72.2.1 r72.2.2 (by omega) (by decide)) ?_)
      rw [hci, ox_up_at, if_pos rfl]
      have e := ih (i + 1) (m &&& (o1 (oOd P x p i) ^^^ Int32.ofInt (-1))) (ox_up σ2 (72 + p) i (nI (oOd P x p i))) (by omega) (fun o q1 q2 => by rw [ox_up_ne q2]; exact h1 o q1 q2) (by rw [ox_up_ne (by omega)]; exact h2) (fun q hq => by rw [ox_up_ne (by omega)]; exact h3 q hq) (fun j hj => by
        rw [ox_up_at]
        by_cases q : j = i
        · rw [if_pos q, q]
        · rw [if_neg q]; exact h4 j (by omega)) (fun b hb => by
        rw [oBit_and, oBit_no, oBit_1 (by omega), h5 b hb, decide_eq_true (show b < 32 by omega), Bool.true_and]
        show _ = (decide (b < P.n) && (oSt P x p i b && decide (b ≠ oOd P x p i)))
        rw [Bool.and_assoc]
        congr 2
        by_cases q : b = oOd P x p i <;> simp [q])
      rw [← ox_inc i] at e
      exact oT_N 7 rfl e
  refine oT_N 2 rfl (loop (oW P p) 0 (σ 16 p) _ (by omega) (fun o q1 _ => ox_up_ne q1) (by rw [ox_up_at, if_pos rfl]) (fun q hq => by rw [ox_up_at, if_neg hq]) (fun j hj => by omega) (fun b hb => a8 p hp b hb))
set_option maxHeartbeats 1000000 in
theorem ot_fillPairt {a b : Nat} {fe : Bool} (h : oC σ P) (ha : a < P.n) (hb : b < P.n) (hka : P.kd a ≠ 2) (hkb : P.kd b ≠ 2) : oT L k 7 0 [some (.ref 4), some (.ref 1), some (.int (nI a)), some (.int (nI b)), some (.int (if fe then 1 else 0))] [] σ (fun o σ' => o = .inl none ∧ (∀ o, o < 77 ∨ 88 < o → σ' o = σ o) ∧ ∀ r, r < 12 → ∀ q y, y < 12 → (oBr σ' (77 + r) q y = true ↔ oBr σ (77 + r) q y = true ∨ (q = a ∧ y = b ∧ oPc P fe a b r))) := by
  obtain ⟨⟨hT, hn, hok⟩, a2, a3, a4, a5, a6, a7, a8, a9⟩ := id h
  obtain ⟨i1, i2, i3, i4, i5⟩ := a5 a ha
  obtain ⟨j1, j2, j3, j4, j5⟩ := a5 b hb
  have pa := hok a ha
  have pb := hok b hb
  have na : ¬ (nI a < 0 ∨ 12 ≤ (nI a).toNatClampNeg) := ox_ix (by omega) (by decide)
  have nb : ¬ (nI b < 0 ∨ 12 ≤ (nI b).toNatClampNeg) := ox_ix (by omega) (by decide)
  have ca : (nI a).toNatClampNeg = a := nI_clamp (by omega)
  have cb : (nI b).toNatClampNeg = b := nI_clamp (by omega)
  have setb : ∀ (τ : ox_S) (o q y : Nat), y < 12 → (oBit (if q = a then τ o a ||| o1 b else τ o q) y = true ↔ oBr τ o q y = true ∨ (q = a ∧ y = b)) := fun τ o q y hy => by
    by_cases e : q = a
    · subst e
      rw [if_pos rfl, oBit_or, oBit_1 (by omega), Bool.or_eq_true, decide_eq_true_eq]
      exact ⟨fun q => q.imp id (fun q => ⟨rfl, q⟩), fun q => q.imp id (fun q => q.2)⟩
    · rw [if_neg e]
      exact ⟨Or.inl, fun q => q.elim id (fun q => absurd q.1 e)⟩
  -- the kinds
  have c49 : ∀ τ : ox_S, (∀ o, o < 77 ∨ 88 < o → τ o = σ o) → (∀ r, r < 12 → ∀ q y, y < 12 → (oBr τ (77 + r) q y = true ↔ oBr σ (77 + r) q y = true ∨ (q = a ∧ y = b ∧ ((r = 7 ∧ fe = true) ∨ (r = 5 ∧ P.pl a = P.pl b))))) → oT L k 7 49 [some (.ref 4), some (.ref 1), some (.int (nI a)), some (.int (nI b)), some (.int (if fe then 1 else 0))] [] τ (fun o σ' => o = .inl none ∧ (∀ o, o < 77 ∨ 88 < o → σ' o = σ o) ∧ ∀ r, r < 12 → ∀ q y, y < 12 → (oBr σ' (77 + r) q y = true ↔ oBr σ (77 + r) q y = true ∨ (q = a ∧ y = b ∧ oPc P fe a b r))) := fun τ h1 h2 => by
    have rr : oRw (77 + (8 + 2 * P.kd a + P.kd b)) := by have := oRw_77 (8 + 2 * P.kd a + P.kd b) (by omega); first | exact this.1 | exact this.2
    refine oT_N 7 rfl (oT_I (o := 10) (n := nI a) rfl (Or.inl ⟨rfl, by decide⟩) na ?_)
    rw [ca, h1 10 (by decide), i2]
    refine oT_N 5 rfl (oT_I (o := 10) (n := nI b) rfl (Or.inl ⟨rfl, by decide⟩) nb ?_)
    rw [cb, h1 10 (by decide), j2]
    refine oT_N 1 rfl (oT_A (o := 76) (n := (Int8.ofInt 8).toInt32 + Int32.ofInt 2 * nI (P.kd a) + nI (P.kd b)) rfl ⟨rfl, by decide⟩ (by rw [ox_k8]; exact ox_ix (N := 40) (by omega) (by decide)) ?_)
    rw [ox_k8, nI_clamp (by omega)]
    refine oT_N 2 rfl (oT_I (o := 77 + (8 + 2 * P.kd a + P.kd b)) (n := nI a) rfl (Or.inl ⟨rr.1, rr.2.1⟩) (ox_ixL rr.2.1 rr.2.2 (by omega) (by decide)) ?_)
    rw [ca]
    refine oT_N 4 rfl (oT_Is (o := 77 + (8 + 2 * P.kd a + P.kd b)) (n := nI a) (x := τ (77 + (8 + 2 * P.kd a + P.kd b)) a ||| o1 b) rfl ⟨rr.1, rr.2.1⟩ (ox_ixL rr.2.1 rr.2.2 (by omega) (by decide)) ?_)
    rw [ca]
    refine oT_Retv rfl rfl ⟨rfl, fun o ho => by rw [ox_up_ne (by omega)]; exact h1 o ho, fun r hr q y hy => ?_⟩
    unfold oPc
    by_cases e : r = 8 + 2 * P.kd a + P.kd b
    · subst e
      show oBit (ox_up τ _ a _ _ q) y = true ↔ _
      rw [ox_up_at, setb τ _ q y hy, h2 _ hr q y hy]
      constructor
      · rintro ((q1 | q1) | q1)
        · exact Or.inl q1
        · exact Or.inr ⟨q1.1, q1.2.1, q1.2.2.elim Or.inl (fun e => Or.inr (Or.inl e))⟩
        · exact Or.inr ⟨q1.1, q1.2, Or.inr (Or.inr rfl)⟩
      · rintro (q1 | q1)
        · exact Or.inl (Or.inl q1)
        · exact Or.inr ⟨q1.1, q1.2.1⟩
    · show oBit (ox_up τ _ a _ (77 + r) q) y = true ↔ _
      rw [ox_up_ne (by omega)]
      refine (h2 r hr q y hy).trans ⟨fun q1 => q1.imp id (fun q1 => ⟨q1.1, q1.2.1, q1.2.2.elim Or.inl (fun e => Or.inr (Or.inl e))⟩), fun q1 => q1.imp id (fun q1 => ⟨q1.1, q1.2.1, ?_⟩)⟩
      rcases q1.2.2 with q2 | q2 | q2
      · exact Or.inl q2
      · exact Or.inr q2
      · exact absurd q2 e
  -- the places
  have c20 : ∀ τ : ox_S, (∀ o, o < 77 ∨ 88 < o → τ o = σ o) → (∀ r, r < 12 → ∀ q y, y < 12 → (oBr τ (77 + r) q y = true ↔ oBr σ (77 + r) q y = true ∨ (q = a ∧ y = b ∧ (r = 7 ∧ fe = true)))) → oT L k 7 20 [some (.ref 4), some (.ref 1), some (.int (nI a)), some (.int (nI b)), some (.int (if fe then 1 else 0))] [] τ (fun o σ' => o = .inl none ∧ (∀ o, o < 77 ∨ 88 < o → σ' o = σ o) ∧ ∀ r, r < 12 → ∀ q y, y < 12 → (oBr σ' (77 + r) q y = true ↔ oBr σ (77 + r) q y = true ∨ (q = a ∧ y = b ∧ oPc P fe a b r))) := fun τ h1 h2 => by
    refine oT_N 3 rfl (oT_I (o := 11) (n := nI a) rfl (Or.inl ⟨rfl, by decide⟩) na ?_)
    rw [ca, h1 11 (by decide), i3, if_pos (show P.kd a < 2 by omega)]
    refine oT_N 3 rfl (oT_I (o := 11) (n := nI b) rfl (Or.inl ⟨rfl, by decide⟩) nb ?_)
    rw [cb, h1 11 (by decide), j3, if_pos (show P.kd b < 2 by omega)]
    have pla := pa.2.2 (by omega)
    have plb := pb.2.2 (by omega)
    refine oT_N 1 rfl (oT_eq (P.pl a) (P.pl b) rfl rfl (by omega) (by omega) (fun e => ?_) (fun e => ?_))
    · refine oT_N 3 rfl (oT_A (o := 76) (n := nI 5) rfl ⟨rfl, by decide⟩ (ox_ix (N := 40) (by decide) (by decide)) ?_)
      rw [show (nI 5).toNatClampNeg = 5 from rfl]
      refine oT_N 2 rfl (oT_I (o := 82) (n := nI a) rfl (Or.inl ⟨rfl, by decide⟩) na ?_)
      rw [ca]
      refine oT_N 4 rfl (oT_Is (o := 82) (n := nI a) (x := τ 82 a ||| o1 b) rfl ⟨rfl, by decide⟩ na ?_)
      rw [ca]
      refine c49 _ (fun o ho => by rw [ox_up_ne (by omega)]; exact h1 o ho) (fun r hr q y hy => ?_)
      by_cases e5 : r = 5
      · subst e5
        show oBit (ox_up τ 82 a _ 82 q) y = true ↔ _
        rw [ox_up_at, setb τ _ q y hy]
        have h25 : oBr τ 82 q y = true ↔ _ := h2 5 (by omega) q y hy
        rw [h25]
        constructor
        · rintro ((q1 | q1) | q1)
          · exact Or.inl q1
          · omega
          · exact Or.inr ⟨q1.1, q1.2, Or.inr ⟨rfl, e⟩⟩
        · rintro (q1 | q1)
          · exact Or.inl (Or.inl q1)
          · exact Or.inr ⟨q1.1, q1.2.1⟩
      · show oBit (ox_up τ 82 a _ (77 + r) q) y = true ↔ _
        rw [ox_up_ne (by omega)]
        refine (h2 r hr q y hy).trans ⟨fun q1 => q1.imp id (fun q1 => ⟨q1.1, q1.2.1, Or.inl q1.2.2⟩), fun q1 => q1.imp id (fun q1 => ⟨q1.1, q1.2.1, ?_⟩)⟩
        rcases q1.2.2 with q2 | q2
        · exact q2
        · exact absurd q2.1 e5
    · refine c49 τ h1 (fun r hr q y hy => (h2 r hr q y hy).trans ⟨fun q1 => q1.imp id (fun q1 => ⟨q1.1, q1.2.1, Or.inl q1.2.2⟩), fun q1 => q1.imp id (fun q1 => ⟨q1.1, q1.2.1, ?_⟩)⟩)
      rcases q1.2.2 with q2 | q2
      · exact q2
      · exact absurd q2.2 e
  cases fe with
  | false =>
    refine oT_N 2 rfl (oT_If (fun _ => ?_) (fun (q : ¬ (0 : Int32) = 0) => absurd rfl q))
    exact c20 σ (fun _ _ => rfl) (fun r hr q y hy => ⟨Or.inl, fun q1 => q1.elim id (fun q1 => (by cases q1.2.2.2))⟩)
  | true =>
    refine oT_N 2 rfl (oT_If (fun (q : (1 : Int32) = 0) => absurd q (by decide)) (fun _ => ?_))
    refine oT_N 3 rfl (oT_A (o := 76) (n := nI 7) rfl ⟨rfl, by decide⟩ (ox_ix (N := 40) (by decide) (by decide)) ?_)
    rw [show (nI 7).toNatClampNeg = 7 from rfl]
    refine oT_N 2 rfl (oT_I (o := 84) (n := nI a) rfl (Or.inl ⟨rfl, by decide⟩) na ?_)
    rw [ca]
    refine oT_N 4 rfl (oT_Is (o := 84) (n := nI a) (x := σ 84 a ||| o1 b) rfl ⟨rfl, by decide⟩ na ?_)
    rw [ca]
    refine c20 _ (fun o ho => ox_up_ne (by omega)) (fun r hr q y hy => ?_)
    by_cases e7 : r = 7
    · subst e7
      show oBit (ox_up σ 84 a _ 84 q) y = true ↔ _
      rw [ox_up_at, setb σ _ q y hy]
      exact ⟨fun q1 => q1.imp id (fun q1 => ⟨q1.1, q1.2, rfl, rfl⟩), fun q1 => q1.imp id (fun q1 => ⟨q1.1, q1.2.1⟩)⟩
    · show oBit (ox_up σ 84 a _ (77 + r) q) y = true ↔ _
      rw [ox_up_ne (by omega)]
      exact ⟨Or.inl, fun q1 => q1.elim id (fun q1 => absurd q1.2.2.1 e7)⟩
end OYDt

section OYDs
variable {L k : Nat} {σ : ox_S} {P : oPr} {M : oMo}
set_option maxHeartbeats 1000000 in
theorem ot_arranges {p x : Nat} (h : oC σ P) (hp : p < 4) (hd : ∀ i, i < oW P p → σ 170 i = nI (oDg P x p i)) (hk : 2 ≤ k) (hk9 : k ≤ 9) : oT L k 3 0 [some (.ref 5), some (.ref 1), some (.int (nI p)), none, none, none] [] σ (fun o σ' => o = .inl none ∧ (∀ o, o ≠ 123 → o ≠ 125 + p → σ' o = σ o) ∧ σ' 123 p = nI (oW P p) ∧ (∀ q, q ≠ p → σ' 123 q = σ 123 q) ∧ ∀ j, j < oW P p → σ' (125 + p) j = nI (oOd P x p j)) := by
  obtain ⟨k, rfl⟩ : ∃ k', k = k' + 1 := ⟨k - 1, by omega⟩
  obtain ⟨⟨hT, hn, hok⟩, a2, a3, a4, a5, a6, a7, a8, a9⟩ := id h
  have hw : oW P p ≤ 12 := Nat.le_trans (ocW_le P p P.n) hn
  have n4 : ¬ (nI p < 0 ∨ 4 ≤ (nI p).toNatClampNeg) := ox_ix (by omega) (by decide)
  have hc : (nI p).toNatClampNeg = p := nI_clamp (by omega)
  have r72 : oRw (125 + p) := by have := oRw_72 p hp; first | exact this.1 | exact this.2
  refine oT_N 3 rfl (oT_I (o := 15) (n := nI p) rfl (Or.inl ⟨rfl, by decide⟩) n4 ?_)
  rw [hc, a7 p hp]
  refine oT_N 4 rfl (oT_I (o := 16) (n := nI p) rfl (Or.inl ⟨rfl, by decide⟩) n4 ?_)
  rw [hc]
  refine oT_N 5 rfl (oT_Is (o := 123) (n := nI p) (x := nI (oW P p)) rfl ⟨rfl, by decide⟩ n4 ?_)
  rw [hc]
  have loop : ∀ (d i : Nat) (m : Int32) (τ : ox_S), i + d = oW P p → (∀ o, o ≠ 123 → o ≠ 125 + p → τ o = σ o) → τ 123 p = nI (oW P p) → (∀ q, q ≠ p → τ 123 q = σ 123 q) → (∀ j, j < i → τ (125 + p) j = nI (oOd P x p j)) → (∀ b, b < 12 → oBit m b = (decide (b < P.n) && oSt P x p i b)) → oT L (k + 1) 3 25 [some (.ref 5), some (.ref 1), some (.int (nI p)), some (.int (nI (oW P p))), some (.int m), some (.int (nI i))] [] τ (fun o σ' => o = .inl none ∧ (∀ o, o ≠ 123 → o ≠ 125 + p → σ' o = σ o) ∧ σ' 123 p = nI (oW P p) ∧ (∀ q, q ≠ p → σ' 123 q = σ 123 q) ∧ ∀ j, j < oW P p → σ' (125 + p) j = nI (oOd P x p j)) := by
    intro d
    induction d with
    | zero =>
      intro i m τ hi h1 h2 h3 h4 h5
      refine oT_N 3 rfl (oT_le (oW P p) i rfl rfl (by omega) (by omega) (fun _ => ?_) (fun q => by omega))
      exact oT_Retv rfl rfl ⟨rfl, h1, h2, h3, fun j hj => h4 j (by omega)⟩
    | succ d ih =>
      intro i m τ hi h1 h2 h3 h4 h5
      have hci : (nI i).toNatClampNeg = i := nI_clamp (by omega)
      have hcn : oDg P x p i < oCn (oSt P x p i) P.n := by rw [oSt_cn i (by omega)]; exact oDg_lt (by omega)
      have hkt := oKt_cut (f := oBit m) (g := oSt P x p i) (N := 12) hn h5 hcn
      have hcc := oCn_cut (f := oBit m) (g := oSt P x p i) 12 hn h5
      refine oT_N 3 rfl (oT_le (oW P p) i rfl rfl (by omega) (by omega) (fun q => by omega) (fun _ => ?_))
      refine oT_N 3 rfl (oT_A (o := 124) (n := nI p) rfl ⟨rfl, by decide⟩ n4 ?_)
      rw [hc]
      refine oT_N 5 rfl (oT_I (o := 170) (n := nI i) rfl (Or.inl ⟨rfl, by decide⟩) (ox_ix (N := 12) (by omega) (by decide)) ?_)
      rw [hci, h1 170 (by decide) (by omega), hd i (by omega)]
      refine oT_S rfl rfl rfl (by omega) (by omega) (ot_memberAt (m := m) (j := oDg P x p i) (by rw [hcc]; exact hcn)) (fun x σ2 h => by cases h.1) (fun v σ2 hv => ?_)
      obtain ⟨hv, rfl⟩ := hv
      cases hv
      rw [hkt]
      have hod : oKt (oSt P x p i) P.n (oDg P x p i) = oOd P x p i := rfl
      rw [hod]
      have hol := (oOd_w (P := P) (x := x) (p := p) (i := i) (by omega)).1
      refine oT_Is (o := 125 + p) (n := nI i) (x := nI (oOd P x p i)) rfl ⟨r72.1, r72.2.1⟩ (ox_ixL r72.2.1 r72.2.2 (by omega) (by decide)) ?_
      rw [hci]
      refine oT_N 5 rfl (oT_A (o := 124) (n := nI p) rfl ⟨rfl, by decide⟩ n4 ?_)
      rw [hc]
      refine oT_N 1 rfl (oT_I (o := 125 + p) (n := nI i) rfl (Or.inl ⟨r72.1, r72.2.1⟩) (ox_ixL r72.2.1 r72.2.2 (by omega) (by decide)) ?_)
      rw [hci, ox_up_at, if_pos rfl]
      have e := ih (i + 1) (m &&& (o1 (oOd P x p i) ^^^ Int32.ofInt (-1))) (ox_up σ2 (125 + p) i (nI (oOd P x p i))) (by omega) (fun o q1 q2 => by rw [ox_up_ne q2]; exact h1 o q1 q2) (by rw [ox_up_ne (by omega)]; exact h2) (fun q hq => by rw [ox_up_ne (by omega)]; exact h3 q hq) (fun j hj => by
        rw [ox_up_at]
        by_cases q : j = i
        · rw [if_pos q, q]
        · rw [if_neg q]; exact h4 j (by omega)) (fun b hb => by
        rw [oBit_and, oBit_no, oBit_1 (by omega), h5 b hb, decide_eq_true (show b < 32 by omega), Bool.true_and]
        show _ = (decide (b < P.n) && (oSt P x p i b && decide (b ≠ oOd P x p i)))
        rw [Bool.and_assoc]
        congr 2
        by_cases q : b = oOd P x p i <;> simp [q])
      rw [← ox_inc i] at e
      exact oT_N 7 rfl e
  refine oT_N 2 rfl (loop (oW P p) 0 (σ 16 p) _ (by omega) (fun o q1 _ => ox_up_ne q1) (by rw [ox_up_at, if_pos rfl]) (fun q hq => by rw [ox_up_at, if_neg hq]) (fun j hj => by omega) (fun b hb => a8 p hp b hb))
set_option maxHeartbeats 1000000 in
theorem ot_fillPairs {a b : Nat} {fe : Bool} (h : oC σ P) (ha : a < P.n) (hb : b < P.n) (hka : P.kd a ≠ 2) (hkb : P.kd b ≠ 2) : oT L k 7 0 [some (.ref 5), some (.ref 1), some (.int (nI a)), some (.int (nI b)), some (.int (if fe then 1 else 0))] [] σ (fun o σ' => o = .inl none ∧ (∀ o, o < 130 ∨ 141 < o → σ' o = σ o) ∧ ∀ r, r < 12 → ∀ q y, y < 12 → (oBr σ' (130 + r) q y = true ↔ oBr σ (130 + r) q y = true ∨ (q = a ∧ y = b ∧ oPc P fe a b r))) := by
  obtain ⟨⟨hT, hn, hok⟩, a2, a3, a4, a5, a6, a7, a8, a9⟩ := id h
  obtain ⟨i1, i2, i3, i4, i5⟩ := a5 a ha
  obtain ⟨j1, j2, j3, j4, j5⟩ := a5 b hb
  have pa := hok a ha
  have pb := hok b hb
  have na : ¬ (nI a < 0 ∨ 12 ≤ (nI a).toNatClampNeg) := ox_ix (by omega) (by decide)
  have nb : ¬ (nI b < 0 ∨ 12 ≤ (nI b).toNatClampNeg) := ox_ix (by omega) (by decide)
  have ca : (nI a).toNatClampNeg = a := nI_clamp (by omega)
  have cb : (nI b).toNatClampNeg = b := nI_clamp (by omega)
  have setb : ∀ (τ : ox_S) (o q y : Nat), y < 12 → (oBit (if q = a then τ o a ||| o1 b else τ o q) y = true ↔ oBr τ o q y = true ∨ (q = a ∧ y = b)) := fun τ o q y hy => by
    by_cases e : q = a
    · subst e
      rw [if_pos rfl, oBit_or, oBit_1 (by omega), Bool.or_eq_true, decide_eq_true_eq]
      exact ⟨fun q => q.imp id (fun q => ⟨rfl, q⟩), fun q => q.imp id (fun q => q.2)⟩
    · rw [if_neg e]
      exact ⟨Or.inl, fun q => q.elim id (fun q => absurd q.1 e)⟩
  -- the kinds
  have c49 : ∀ τ : ox_S, (∀ o, o < 130 ∨ 141 < o → τ o = σ o) → (∀ r, r < 12 → ∀ q y, y < 12 → (oBr τ (130 + r) q y = true ↔ oBr σ (130 + r) q y = true ∨ (q = a ∧ y = b ∧ ((r = 7 ∧ fe = true) ∨ (r = 5 ∧ P.pl a = P.pl b))))) → oT L k 7 49 [some (.ref 5), some (.ref 1), some (.int (nI a)), some (.int (nI b)), some (.int (if fe then 1 else 0))] [] τ (fun o σ' => o = .inl none ∧ (∀ o, o < 130 ∨ 141 < o → σ' o = σ o) ∧ ∀ r, r < 12 → ∀ q y, y < 12 → (oBr σ' (130 + r) q y = true ↔ oBr σ (130 + r) q y = true ∨ (q = a ∧ y = b ∧ oPc P fe a b r))) := fun τ h1 h2 => by
    have rr : oRw (130 + (8 + 2 * P.kd a + P.kd b)) := by have := oRw_77 (8 + 2 * P.kd a + P.kd b) (by omega); first | exact this.1 | exact this.2
    refine oT_N 7 rfl (oT_I (o := 10) (n := nI a) rfl (Or.inl ⟨rfl, by decide⟩) na ?_)
    rw [ca, h1 10 (by decide), i2]
    refine oT_N 5 rfl (oT_I (o := 10) (n := nI b) rfl (Or.inl ⟨rfl, by decide⟩) nb ?_)
    rw [cb, h1 10 (by decide), j2]
    refine oT_N 1 rfl (oT_A (o := 129) (n := (Int8.ofInt 8).toInt32 + Int32.ofInt 2 * nI (P.kd a) + nI (P.kd b)) rfl ⟨rfl, by decide⟩ (by rw [ox_k8]; exact ox_ix (N := 40) (by omega) (by decide)) ?_)
    rw [ox_k8, nI_clamp (by omega)]
    refine oT_N 2 rfl (oT_I (o := 130 + (8 + 2 * P.kd a + P.kd b)) (n := nI a) rfl (Or.inl ⟨rr.1, rr.2.1⟩) (ox_ixL rr.2.1 rr.2.2 (by omega) (by decide)) ?_)
    rw [ca]
    refine oT_N 4 rfl (oT_Is (o := 130 + (8 + 2 * P.kd a + P.kd b)) (n := nI a) (x := τ (130 + (8 + 2 * P.kd a + P.kd b)) a ||| o1 b) rfl ⟨rr.1, rr.2.1⟩ (ox_ixL rr.2.1 rr.2.2 (by omega) (by decide)) ?_)
    rw [ca]
    refine oT_Retv rfl rfl ⟨rfl, fun o ho => by rw [ox_up_ne (by omega)]; exact h1 o ho, fun r hr q y hy => ?_⟩
    unfold oPc
    by_cases e : r = 8 + 2 * P.kd a + P.kd b
    · subst e
      show oBit (ox_up τ _ a _ _ q) y = true ↔ _
      rw [ox_up_at, setb τ _ q y hy, h2 _ hr q y hy]
      constructor
      · rintro ((q1 | q1) | q1)
        · exact Or.inl q1
        · exact Or.inr ⟨q1.1, q1.2.1, q1.2.2.elim Or.inl (fun e => Or.inr (Or.inl e))⟩
        · exact Or.inr ⟨q1.1, q1.2, Or.inr (Or.inr rfl)⟩
      · rintro (q1 | q1)
        · exact Or.inl (Or.inl q1)
        · exact Or.inr ⟨q1.1, q1.2.1⟩
    · show oBit (ox_up τ _ a _ (130 + r) q) y = true ↔ _
      rw [ox_up_ne (by omega)]
      refine (h2 r hr q y hy).trans ⟨fun q1 => q1.imp id (fun q1 => ⟨q1.1, q1.2.1, q1.2.2.elim Or.inl (fun e => Or.inr (Or.inl e))⟩), fun q1 => q1.imp id (fun q1 => ⟨q1.1, q1.2.1, ?_⟩)⟩
      rcases q1.2.2 with q2 | q2 | q2
      · exact Or.inl q2
      · exact Or.inr q2
      · exact absurd q2 e
  -- the places
  have c20 : ∀ τ : ox_S, (∀ o, o < 130 ∨ 141 < o → τ o = σ o) → (∀ r, r < 12 → ∀ q y, y < 12 → (oBr τ (130 + r) q y = true ↔ oBr σ (130 + r) q y = true ∨ (q = a ∧ y = b ∧ (r = 7 ∧ fe = true)))) → oT L k 7 20 [some (.ref 5), some (.ref 1), some (.int (nI a)), some (.int (nI b)), some (.int (if fe then 1 else 0))] [] τ (fun o σ' => o = .inl none ∧ (∀ o, o < 130 ∨ 141 < o → σ' o = σ o) ∧ ∀ r, r < 12 → ∀ q y, y < 12 → (oBr σ' (130 + r) q y = true ↔ oBr σ (130 + r) q y = true ∨ (q = a ∧ y = b ∧ oPc P fe a b r))) := fun τ h1 h2 => by
    refine oT_N 3 rfl (oT_I (o := 11) (n := nI a) rfl (Or.inl ⟨rfl, by decide⟩) na ?_)
    rw [ca, h1 11 (by decide), i3, if_pos (show P.kd a < 2 by omega)]
    refine oT_N 3 rfl (oT_I (o := 11) (n := nI b) rfl (Or.inl ⟨rfl, by decide⟩) nb ?_)
    rw [cb, h1 11 (by decide), j3, if_pos (show P.kd b < 2 by omega)]
    have pla := pa.2.2 (by omega)
    have plb := pb.2.2 (by omega)
    refine oT_N 1 rfl (oT_eq (P.pl a) (P.pl b) rfl rfl (by omega) (by omega) (fun e => ?_) (fun e => ?_))
    · refine oT_N 3 rfl (oT_A (o := 129) (n := nI 5) rfl ⟨rfl, by decide⟩ (ox_ix (N := 40) (by decide) (by decide)) ?_)
      rw [show (nI 5).toNatClampNeg = 5 from rfl]
      refine oT_N 2 rfl (oT_I (o := 135) (n := nI a) rfl (Or.inl ⟨rfl, by decide⟩) na ?_)
      rw [ca]
      refine oT_N 4 rfl (oT_Is (o := 135) (n := nI a) (x := τ 135 a ||| o1 b) rfl ⟨rfl, by decide⟩ na ?_)
      rw [ca]
      refine c49 _ (fun o ho => by rw [ox_up_ne (by omega)]; exact h1 o ho) (fun r hr q y hy => ?_)
      by_cases e5 : r = 5
      · subst e5
        show oBit (ox_up τ 135 a _ 135 q) y = true ↔ _
        rw [ox_up_at, setb τ _ q y hy]
        have h25 : oBr τ 135 q y = true ↔ _ := h2 5 (by omega) q y hy
        rw [h25]
        constructor
        · rintro ((q1 | q1) | q1)
          · exact Or.inl q1
          · omega
          · exact Or.inr ⟨q1.1, q1.2, Or.inr ⟨rfl, e⟩⟩
        · rintro (q1 | q1)
          · exact Or.inl (Or.inl q1)
          · exact Or.inr ⟨q1.1, q1.2.1⟩
      · show oBit (ox_up τ 135 a _ (130 + r) q) y = true ↔ _
        rw [ox_up_ne (by omega)]
        refine (h2 r hr q y hy).trans ⟨fun q1 => q1.imp id (fun q1 => ⟨q1.1, q1.2.1, Or.inl q1.2.2⟩), fun q1 => q1.imp id (fun q1 => ⟨q1.1, q1.2.1, ?_⟩)⟩
        rcases q1.2.2 with q2 | q2
        · exact q2
        · exact absurd q2.1 e5
    · refine c49 τ h1 (fun r hr q y hy => (h2 r hr q y hy).trans ⟨fun q1 => q1.imp id (fun q1 => ⟨q1.1, q1.2.1, Or.inl q1.2.2⟩), fun q1 => q1.imp id (fun q1 => ⟨q1.1, q1.2.1, ?_⟩)⟩)
      rcases q1.2.2 with q2 | q2
      · exact q2
      · exact absurd q2.2 e
  cases fe with
  | false =>
    refine oT_N 2 rfl (oT_If (fun _ => ?_) (fun (q : ¬ (0 : Int32) = 0) => absurd rfl q))
    exact c20 σ (fun _ _ => rfl) (fun r hr q y hy => ⟨Or.inl, fun q1 => q1.elim id (fun q1 => (by cases q1.2.2.2))⟩)
  | true =>
    refine oT_N 2 rfl (oT_If (fun (q : (1 : Int32) = 0) => absurd q (by decide)) (fun _ => ?_))
    refine oT_N 3 rfl (oT_A (o := 129) (n := nI 7) rfl ⟨rfl, by decide⟩ (ox_ix (N := 40) (by decide) (by decide)) ?_)
    rw [show (nI 7).toNatClampNeg = 7 from rfl]
    refine oT_N 2 rfl (oT_I (o := 137) (n := nI a) rfl (Or.inl ⟨rfl, by decide⟩) na ?_)
    rw [ca]
    refine oT_N 4 rfl (oT_Is (o := 137) (n := nI a) (x := σ 137 a ||| o1 b) rfl ⟨rfl, by decide⟩ na ?_)
    rw [ca]
    refine c20 _ (fun o ho => ox_up_ne (by omega)) (fun r hr q y hy => ?_)
    by_cases e7 : r = 7
    · subst e7
      show oBit (ox_up σ 137 a _ 137 q) y = true ↔ _
      rw [ox_up_at, setb σ _ q y hy]
      exact ⟨fun q1 => q1.imp id (fun q1 => ⟨q1.1, q1.2, rfl, rfl⟩), fun q1 => q1.imp id (fun q1 => ⟨q1.1, q1.2.1⟩)⟩
    · show oBit (ox_up σ 137 a _ (130 + r) q) y = true ↔ _
      rw [ox_up_ne (by omega)]
      exact ⟨Or.inl, fun q1 => q1.elim id (fun q1 => absurd q1.2.2.1 e7)⟩
end OYDs
