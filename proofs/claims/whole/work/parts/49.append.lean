section OXZ
variable {L k t w a : Nat} {σ : ox_S} {P : oPr} {v : Int32}
theorem oEv_ir {e : Nat} (he : e < P.n) : oIr (oEv P t w a v) e = oIr P e := by
  unfold oIr
  show decide ((if e = P.n then w else P.kd e) = 0) = _
  rw [if_neg (by omega)]
theorem oEv_iw {p e : Nat} (he : e < P.n) : oIw (oEv P t w a v) p e = oIw P p e := by
  unfold oIw
  show decide ((if e = P.n then w else P.kd e) = 1 ∧ (if e = P.n then a else P.pl e) = p) = _
  rw [if_neg (by omega), if_neg (by omega)]
theorem oEv_irn : oIr (oEv P t w a v) P.n = decide (w = 0) := by
  unfold oIr
  show decide ((if P.n = P.n then w else P.kd P.n) = 0) = _
  rw [if_pos rfl]
theorem oEv_iwn {p : Nat} : oIw (oEv P t w a v) p P.n = decide (w = 1 ∧ a = p) := by
  unfold oIw
  show decide ((if P.n = P.n then w else P.kd P.n) = 1 ∧ (if P.n = P.n then a else P.pl P.n) = p) = _
  rw [if_pos rfl, if_pos rfl]
theorem oEv_cR : ocR (oEv P t w a v) (P.n + 1) = ocR P P.n + (if w = 0 then 1 else 0) := by
  rw [ocR_cn, ocR_cn]
  simp only [oCn]
  rw [oCn_ext P.n (fun j hj => oEv_ir hj), oEv_irn]
  simp only [decide_eq_true_eq]
theorem oEv_W {p : Nat} : oW (oEv P t w a v) p = oW P p + (if w = 1 ∧ a = p then 1 else 0) := by
  show ocW (oEv P t w a v) p (P.n + 1) = ocW P p P.n + _
  rw [ocW_cn, ocW_cn]
  simp only [oCn]
  rw [oCn_ext P.n (fun j hj => oEv_iw hj), oEv_iwn]
  simp only [decide_eq_true_eq]
theorem oEv_Rd {i : Nat} (hi : i < ocR P P.n) : oRd (oEv P t w a v) i = oRd P i := by
  show oKt (oIr (oEv P t w a v)) (P.n + 1) i = oKt (oIr P) P.n i
  simp only [oKt]
  rw [oCn_ext P.n (fun j hj => oEv_ir hj), if_neg (by rw [← ocR_cn]; omega)]
  exact oKt_ext P.n (fun j hj => oEv_ir hj)
theorem oEv_Rdn (hw : w = 0) : oRd (oEv P t w a v) (ocR P P.n) = P.n := by
  show oKt (oIr (oEv P t w a v)) (P.n + 1) (ocR P P.n) = P.n
  simp only [oKt]
  rw [oCn_ext P.n (fun j hj => oEv_ir hj), if_pos ⟨by rw [oEv_irn]; exact decide_eq_true hw, by rw [← ocR_cn]⟩]
theorem oEv_Wr {p j : Nat} (hj : j < oW P p) : oWr (oEv P t w a v) p j = oWr P p j := by
  show oKt (oIw (oEv P t w a v) p) (P.n + 1) j = oKt (oIw P p) P.n j
  simp only [oKt]
  unfold oW at hj
  rw [oCn_ext P.n (fun j hj => oEv_iw hj), if_neg (by rw [← ocW_cn]; omega)]
  exact oKt_ext P.n (fun j hj => oEv_iw hj)
theorem oEv_Wrn (hw : w = 1) : oWr (oEv P t w a v) a (oW P a) = P.n := by
  show oKt (oIw (oEv P t w a v) a) (P.n + 1) (oW P a) = P.n
  simp only [oKt]
  rw [oCn_ext P.n (fun j hj => oEv_iw hj), if_pos ⟨by rw [oEv_iwn]; exact decide_eq_true ⟨hw, rfl⟩, by rw [← ocW_cn]; rfl⟩]
theorem oEv_dp {e b : Nat} : (oEv P t w a v).dp e b = if e = P.n ∨ b = P.n then false else P.dp e b := rfl
/-- the class changes only what holds the program -/
def oFC1 (σ σ' : ox_S) : Prop := ∀ o, o ≠ 1 → o < 9 ∨ 21 < o → σ' o = σ o
set_option maxHeartbeats 1000000 in
theorem ot_append {x : Int32} (h : oC σ P) (hn12 : P.n < 12) (ht : t < P.T) (hw : w ≤ 2) (hx : w < 2 → x = nI a ∧ a < 4) : oT L k 25 0 [some (.ref 1), some (.int (nI t)), some (.int (nI w)), some (.int x), some (.int v), none] [] σ (fun o σ' => o = .inl (some (.int (nI P.n))) ∧ oC σ' (oEv P t w a v) ∧ oFC1 σ σ') := by
  obtain ⟨⟨hT, hn, hok⟩, a2, a3, a4, a5, a6, a7, a8, a9⟩ := id h
  have n12 : ¬ (nI P.n < 0 ∨ 12 ≤ (nI P.n).toNatClampNeg) := ox_ix (by omega) (by decide)
  have hc : (nI P.n).toNatClampNeg = P.n := nI_clamp (by omega)
  have hR := ocR_le P P.n
  have hWle : ∀ p, oW P p ≤ P.n := fun p => ocW_le P p P.n
  have fin : ∀ (τ : ox_S), (∀ o, o ≠ 1 → o < 9 ∨ 21 < o → τ o = σ o) → τ 1 0 = σ 1 0 → τ 1 1 = σ 1 1 → (∀ e, e ≠ P.n → τ 9 e = σ 9 e ∧ τ 10 e = σ 10 e ∧ τ 11 e = σ 11 e ∧ τ 12 e = σ 12 e ∧ τ 13 e = σ 13 e) → τ 9 P.n = nI t → τ 10 P.n = nI w → τ 11 P.n = (if w < 2 then nI a else -1) → τ 12 P.n = v → τ 13 P.n = 0 → τ 1 2 = nI (ocR (oEv P t w a v) (P.n + 1)) → (∀ i, i < ocR (oEv P t w a v) (P.n + 1) → τ 14 i = nI (oRd (oEv P t w a v) i)) → (∀ p, p < 4 → τ 15 p = nI (oW (oEv P t w a v) p)) → (∀ p, p < 4 → ∀ b, b < 12 → oBit (τ 16 p) b = (decide (b < P.n + 1) && oIw (oEv P t w a v) p b)) → (∀ p, p < 4 → ∀ j, j < oW (oEv P t w a v) p → τ (18 + p) j = nI (oWr (oEv P t w a v) p j)) →
      oT L k 25 127 [some (.ref 1), some (.int (nI t)), some (.int (nI w)), some (.int x), some (.int v), some (.int (nI P.n))] [] τ (fun o σ' => o = .inl (some (.int (nI P.n))) ∧ oC σ' (oEv P t w a v) ∧ oFC1 σ σ') := by
    intro τ f1 f2 f3 f4 f5 f6 f7 f8 f9 f10 f11 f12 f13 f14
    have e1 : τ 1 1 + Int32.ofInt 1 = nI (P.n + 1) := by rw [f3, a3, ox_inc]
    refine oT_N 7 rfl (oT_Ret rfl rfl rfl ⟨rfl, ⟨oEv_ok ⟨hT, hn, hok⟩ hn12 ht hw (fun q => (hx q).2), ?_, ?_, ?_, fun e he => ?_, fun i hi => ?_, fun p hp => ?_, fun p hp => ?_, fun p hp j hj => ?_⟩, fun o o1 o2 => ?_⟩)
    · rw [ox_up_at, if_neg (by decide), f2]; exact a2
    · rw [ox_up_at, if_pos rfl]; exact e1
    · rw [ox_up_at, if_neg (by decide)]; exact f10
    · have he' : e < P.n + 1 := he
      rw [ox_up_ne (by decide), ox_up_ne (by decide), ox_up_ne (by decide), ox_up_ne (by decide), ox_up_ne (by decide)]
      show τ 9 e = nI (if e = P.n then t else P.th e) ∧ τ 10 e = nI (if e = P.n then w else P.kd e) ∧ τ 11 e = (if (if e = P.n then w else P.kd e) < 2 then nI (if e = P.n then a else P.pl e) else -1) ∧ τ 12 e = (if e = P.n then v else P.vl e) ∧ ∀ b, b < 12 → oBit (τ 13 e) b = (decide (b < P.n + 1) && (if e = P.n ∨ b = P.n then false else P.dp e b))
      by_cases q : e = P.n
      · subst q
        rw [if_pos rfl, if_pos rfl, if_pos rfl, if_pos rfl]
        refine ⟨f5, f6, f7, f8, fun b hb => ?_⟩
        rw [f9, oBit_0, if_pos (Or.inl rfl), Bool.and_false]
      · rw [if_neg q, if_neg q, if_neg q, if_neg q]
        obtain ⟨g1, g2, g3, g4, g5⟩ := f4 e q
        obtain ⟨i1, i2, i3, i4, i5⟩ := a5 e (by omega)
        refine ⟨by rw [g1]; exact i1, by rw [g2]; exact i2, by rw [g3]; exact i3, by rw [g4]; exact i4, fun b hb => ?_⟩
        rw [g5, i5 b hb]
        by_cases q2 : b = P.n
        · rw [if_pos (Or.inr q2), Bool.and_false, decide_eq_false (show ¬ b < P.n by omega), Bool.false_and]
        · rw [if_neg (show ¬ (e = P.n ∨ b = P.n) by omega), show decide (b < P.n + 1) = decide (b < P.n) from by simp only [decide_eq_decide]; omega]
    · rw [ox_up_ne (by decide)]; exact f11 i hi
    · rw [ox_up_ne (by decide)]; exact f12 p hp
    · rw [ox_up_ne (by decide)]; exact f13 p hp
    · rw [ox_up_ne (by omega)]; exact f14 p hp j hj
    · rw [ox_up_ne o1]; exact f1 o o1 o2
  refine oT_N 7 rfl (oT_Is (o := 9) (n := σ 1 1) (x := nI t) rfl ⟨rfl, by decide⟩ (by rw [a3]; exact n12) ?_)
  rw [a3, hc]
  refine oT_N 4 rfl (oT_Is (o := 10) (n := nI P.n) (x := nI w) rfl ⟨rfl, by decide⟩ n12 ?_)
  rw [hc]
  have rest : ∀ y, y = (if w < 2 then nI a else -1) → oT L k 25 39 [some (.ref 1), some (.int (nI t)), some (.int (nI w)), some (.int x), some (.int v), some (.int (nI P.n))] [] (ox_up (ox_up (ox_up σ 9 P.n (nI t)) 10 P.n (nI w)) 11 P.n y) (fun o σ' => o = .inl (some (.int (nI P.n))) ∧ oC σ' (oEv P t w a v) ∧ oFC1 σ σ') := fun y hy => by
    refine oT_N 4 rfl (oT_Is (o := 12) (n := nI P.n) (x := v) rfl ⟨rfl, by decide⟩ n12 ?_)
    rw [hc]
    refine oT_N 4 rfl (oT_Is (o := 13) (n := nI P.n) (x := 0) rfl ⟨rfl, by decide⟩ n12 ?_)
    rw [hc]
    have u0 : ∀ o, o < 9 ∨ 13 < o → ox_up (ox_up (ox_up (ox_up (ox_up σ 9 P.n (nI t)) 10 P.n (nI w)) 11 P.n y) 12 P.n v) 13 P.n 0 o = σ o := fun o ho => by rw [ox_up_ne (by omega), ox_up_ne (by omega), ox_up_ne (by omega), ox_up_ne (by omega), ox_up_ne (by omega)]
    have u1 : ∀ e, e ≠ P.n → ox_up (ox_up (ox_up (ox_up (ox_up σ 9 P.n (nI t)) 10 P.n (nI w)) 11 P.n y) 12 P.n v) 13 P.n 0 9 e = σ 9 e ∧ ox_up (ox_up (ox_up (ox_up (ox_up σ 9 P.n (nI t)) 10 P.n (nI w)) 11 P.n y) 12 P.n v) 13 P.n 0 10 e = σ 10 e ∧ ox_up (ox_up (ox_up (ox_up (ox_up σ 9 P.n (nI t)) 10 P.n (nI w)) 11 P.n y) 12 P.n v) 13 P.n 0 11 e = σ 11 e ∧ ox_up (ox_up (ox_up (ox_up (ox_up σ 9 P.n (nI t)) 10 P.n (nI w)) 11 P.n y) 12 P.n v) 13 P.n 0 12 e = σ 12 e ∧ ox_up (ox_up (ox_up (ox_up (ox_up σ 9 P.n (nI t)) 10 P.n (nI w)) 11 P.n y) 12 P.n v) 13 P.n 0 13 e = σ 13 e := fun e he => by
      refine ⟨?_, ?_, ?_, ?_, ?_⟩
      · rw [ox_up_ne (by decide), ox_up_ne (by decide), ox_up_ne (by decide), ox_up_ne (by decide), ox_up_at, if_neg he]
      · rw [ox_up_ne (by decide), ox_up_ne (by decide), ox_up_ne (by decide), ox_up_at, if_neg he, ox_up_ne (by decide)]
      · rw [ox_up_ne (by decide), ox_up_ne (by decide), ox_up_at, if_neg he, ox_up_ne (by decide), ox_up_ne (by decide)]
      · rw [ox_up_ne (by decide), ox_up_at, if_neg he, ox_up_ne (by decide), ox_up_ne (by decide), ox_up_ne (by decide)]
      · rw [ox_up_at, if_neg he, ox_up_ne (by decide), ox_up_ne (by decide), ox_up_ne (by decide), ox_up_ne (by decide)]
    have u2 : ox_up (ox_up (ox_up (ox_up (ox_up σ 9 P.n (nI t)) 10 P.n (nI w)) 11 P.n y) 12 P.n v) 13 P.n 0 9 P.n = nI t ∧ ox_up (ox_up (ox_up (ox_up (ox_up σ 9 P.n (nI t)) 10 P.n (nI w)) 11 P.n y) 12 P.n v) 13 P.n 0 10 P.n = nI w ∧ ox_up (ox_up (ox_up (ox_up (ox_up σ 9 P.n (nI t)) 10 P.n (nI w)) 11 P.n y) 12 P.n v) 13 P.n 0 11 P.n = y ∧ ox_up (ox_up (ox_up (ox_up (ox_up σ 9 P.n (nI t)) 10 P.n (nI w)) 11 P.n y) 12 P.n v) 13 P.n 0 12 P.n = v ∧ ox_up (ox_up (ox_up (ox_up (ox_up σ 9 P.n (nI t)) 10 P.n (nI w)) 11 P.n y) 12 P.n v) 13 P.n 0 13 P.n = 0 := by
      refine ⟨?_, ?_, ?_, ?_, ?_⟩
      · rw [ox_up_ne (by decide), ox_up_ne (by decide), ox_up_ne (by decide), ox_up_ne (by decide), ox_up_at, if_pos rfl]
      · rw [ox_up_ne (by decide), ox_up_ne (by decide), ox_up_ne (by decide), ox_up_at, if_pos rfl]
      · rw [ox_up_ne (by decide), ox_up_ne (by decide), ox_up_at, if_pos rfl]
      · rw [ox_up_ne (by decide), ox_up_at, if_pos rfl]
      · rw [ox_up_at, if_pos rfl]
    generalize ox_up (ox_up (ox_up (ox_up (ox_up σ 9 P.n (nI t)) 10 P.n (nI w)) 11 P.n y) 12 P.n v) 13 P.n 0 = τ at u0 u1 u2
    obtain ⟨v1, v2, v3, v4, v5⟩ := u2
    have w0 : ¬ w = 1 → (∀ p, p < 4 → τ 15 p = nI (oW (oEv P t w a v) p)) ∧ (∀ p, p < 4 → ∀ b, b < 12 → oBit (τ 16 p) b = (decide (b < P.n + 1) && oIw (oEv P t w a v) p b)) ∧ (∀ p, p < 4 → ∀ j, j < oW (oEv P t w a v) p → τ (18 + p) j = nI (oWr (oEv P t w a v) p j)) := fun hw1 => by
      have eW : ∀ p, oW (oEv P t w a v) p = oW P p := fun p => by rw [oEv_W, if_neg (by omega)]; rfl
      refine ⟨fun p hp => by rw [eW, u0 15 (by decide)]; exact a7 p hp, fun p hp b hb => ?_, fun p hp j hj => ?_⟩
      · rw [u0 16 (by decide), a8 p hp b hb]
        by_cases q : b = P.n
        · rw [q, oEv_iwn, decide_eq_false (show ¬ P.n < P.n by omega), decide_eq_false (show ¬ (w = 1 ∧ a = p) by omega), Bool.and_false]
          rfl
        · rw [show decide (b < P.n + 1) = decide (b < P.n) from by simp only [decide_eq_decide]; omega]
          by_cases q2 : b < P.n
          · rw [oEv_iw q2]
          · rw [decide_eq_false q2]
            rfl
      · rw [eW] at hj
        rw [oEv_Wr hj, u0 _ (by omega)]
        exact a9 p hp j hj
    have r0 : ¬ w = 0 → τ 1 2 = nI (ocR (oEv P t w a v) (P.n + 1)) ∧ ∀ i, i < ocR (oEv P t w a v) (P.n + 1) → τ 14 i = nI (oRd (oEv P t w a v) i) := fun hw0 => by
      have eR : ocR (oEv P t w a v) (P.n + 1) = ocR P P.n := by rw [oEv_cR, if_neg hw0]; rfl
      rw [eR]
      refine ⟨by rw [u0 1 (by decide)]; exact a4, fun i hi => ?_⟩
      rw [oEv_Rd hi, u0 14 (by decide)]
      exact a6 i hi
    refine oT_N 2 rfl (oT_eq w 0 rfl rfl (by omega) (by decide) (fun q0 => ?_) (fun q0 => ?_))
    · have e2 : τ 1 2 = nI (ocR P P.n) := by rw [u0 1 (by decide)]; exact a4
      have eR : ocR (oEv P t w a v) (P.n + 1) = ocR P P.n + 1 := by rw [oEv_cR, if_pos q0]
      refine oT_N 5 rfl (oT_Is (o := 14) (n := τ 1 2) (x := nI P.n) rfl ⟨rfl, by decide⟩ (by rw [e2]; exact ox_ix (N := 12) (by omega) (by decide)) ?_)
      rw [e2, nI_clamp (by omega)]
      obtain ⟨w1, w2, w3⟩ := w0 (by omega)
      refine oT_N 7 rfl (fin _ (fun o o1 o2 => ?_) ?_ ?_ (fun e he => ?_) ?_ ?_ ?_ ?_ ?_ ?_ (fun i hi => ?_) (fun p hp => ?_) (fun p hp => ?_) (fun p hp j hj => ?_))
      · rw [ox_up_ne o1, ox_up_ne (by omega)]; exact u0 o (by omega)
      · rw [ox_up_at, if_neg (by decide), ox_up_ne (by decide), u0 1 (by decide)]
      · rw [ox_up_at, if_neg (by decide), ox_up_ne (by decide), u0 1 (by decide)]
      · rw [ox_up_ne (by decide), ox_up_ne (by decide), ox_up_ne (by decide), ox_up_ne (by decide), ox_up_ne (by decide), ox_up_ne (by decide), ox_up_ne (by decide), ox_up_ne (by decide), ox_up_ne (by decide), ox_up_ne (by decide)]; exact u1 e he
      · rw [ox_up_ne (by decide), ox_up_ne (by decide)]; exact v1
      · rw [ox_up_ne (by decide), ox_up_ne (by decide)]; exact v2
      · rw [ox_up_ne (by decide), ox_up_ne (by decide), v3]; exact hy
      · rw [ox_up_ne (by decide), ox_up_ne (by decide)]; exact v4
      · rw [ox_up_ne (by decide), ox_up_ne (by decide)]; exact v5
      · rw [ox_up_at, if_pos rfl, ox_up_ne (by decide), e2, ox_inc, eR]
      · rw [eR] at hi
        rw [ox_up_ne (by decide), ox_up_at]
        by_cases q : i = ocR P P.n
        · rw [if_pos q, q, oEv_Rdn q0]
        · rw [if_neg q, oEv_Rd (by omega), u0 14 (by decide)]
          exact a6 i (by omega)
      · rw [ox_up_ne (by decide), ox_up_ne (by decide)]; exact w1 p hp
      · rw [ox_up_ne (by decide), ox_up_ne (by decide)]; exact w2 p hp
      · rw [ox_up_ne (by omega), ox_up_ne (by omega)]; exact w3 p hp j hj
    · obtain ⟨r1, r2⟩ := r0 q0
      refine oT_N 3 rfl (oT_eq w 1 rfl rfl (by omega) (by decide) (fun q1 => ?_) (fun q1 => ?_))
      · obtain ⟨x1, x2⟩ := hx (by omega)
        subst x1
        have ha4 : ¬ (nI a < 0 ∨ 4 ≤ (nI a).toNatClampNeg) := ox_ix (by omega) (by decide)
        have hca : (nI a).toNatClampNeg = a := nI_clamp (by omega)
        obtain ⟨-, -, -, -, -, -, k1, k2, k3⟩ := ox_k34 a x2
        have hWa := hWle a
        have e15 : τ 15 a = nI (oW P a) := by rw [u0 15 (by decide)]; exact a7 a x2
        refine oT_N 3 rfl (oT_A (o := 17) (n := nI a) rfl ⟨rfl, by decide⟩ ha4 ?_)
        rw [hca]
        refine oT_N 3 rfl (oT_I (o := 15) (n := nI a) rfl (Or.inl ⟨rfl, by decide⟩) ha4 ?_)
        rw [hca, e15]
        refine oT_N 1 rfl (oT_Is (o := 18 + a) (n := nI (oW P a)) (x := nI P.n) rfl ⟨k1, k2⟩ (ox_ixL k2 k3 (by omega) (by decide)) ?_)
        rw [nI_clamp (by omega)]
        refine oT_N 4 rfl (oT_I (o := 15) (n := nI a) rfl (Or.inl ⟨rfl, by decide⟩) ha4 ?_)
        rw [hca, ox_up_ne (by omega), e15]
        refine oT_N 2 rfl (oT_Is (o := 15) (n := nI a) (x := nI (oW P a) + Int32.ofInt 1) rfl ⟨rfl, by decide⟩ ha4 ?_)
        rw [hca, ox_inc]
        refine oT_N 4 rfl (oT_I (o := 16) (n := nI a) rfl (Or.inl ⟨rfl, by decide⟩) ha4 ?_)
        rw [hca, ox_up_ne (by decide), ox_up_ne (by omega), u0 16 (by decide)]
        refine oT_N 4 rfl (oT_Is (o := 16) (n := nI a) (x := σ 16 a ||| o1 P.n) rfl ⟨rfl, by decide⟩ ha4 ?_)
        rw [hca]
        have z : ∀ o, o ≠ 15 → o ≠ 16 → o ≠ 18 + a → ox_up (ox_up (ox_up τ (18 + a) (oW P a) (nI P.n)) 15 a (nI (oW P a + 1))) 16 a (σ 16 a ||| o1 P.n) o = τ o := fun o q1 q2 q3 => by rw [ox_up_ne q2, ox_up_ne q1, ox_up_ne q3]
        have z15 : ∀ q, ox_up (ox_up (ox_up τ (18 + a) (oW P a) (nI P.n)) 15 a (nI (oW P a + 1))) 16 a (σ 16 a ||| o1 P.n) 15 q = if q = a then nI (oW P a + 1) else σ 15 q := fun q => by
          rw [ox_up_ne (by decide), ox_up_at, ox_up_ne (by omega), u0 15 (by decide)]
        have z16 : ∀ q, ox_up (ox_up (ox_up τ (18 + a) (oW P a) (nI P.n)) 15 a (nI (oW P a + 1))) 16 a (σ 16 a ||| o1 P.n) 16 q = if q = a then σ 16 a ||| o1 P.n else σ 16 q := fun q => by
          rw [ox_up_at, ox_up_ne (by decide), ox_up_ne (by omega), u0 16 (by decide)]
        have z18 : ∀ p q, p < 4 → ox_up (ox_up (ox_up τ (18 + a) (oW P a) (nI P.n)) 15 a (nI (oW P a + 1))) 16 a (σ 16 a ||| o1 P.n) (18 + p) q = if p = a ∧ q = oW P a then nI P.n else σ (18 + p) q := fun p q hp => by
          rw [ox_up_ne (by omega), ox_up_ne (by omega)]
          by_cases e : p = a
          · subst e
            rw [ox_up_at, u0 _ (by omega)]
            by_cases e2 : q = oW P p
            · rw [if_pos e2, if_pos ⟨rfl, e2⟩]
            · rw [if_neg e2, if_neg (fun e3 => e2 e3.2)]
          · rw [ox_up_ne (by omega), if_neg (fun e3 => e e3.1), u0 _ (by omega)]
        generalize ox_up (ox_up (ox_up τ (18 + a) (oW P a) (nI P.n)) 15 a (nI (oW P a + 1))) 16 a (σ 16 a ||| o1 P.n) = τ2 at z z15 z16 z18
        refine fin τ2 (fun o o1 o2 => ?_) ?_ ?_ (fun e he => ?_) ?_ ?_ ?_ ?_ ?_ ?_ (fun i hi => ?_) (fun p hp => ?_) (fun p hp b hb => ?_) (fun p hp j hj => ?_)
        · rw [z o (by omega) (by omega) (by omega)]; exact u0 o (by omega)
        · rw [z 1 (by decide) (by decide) (by omega), u0 1 (by decide)]
        · rw [z 1 (by decide) (by decide) (by omega), u0 1 (by decide)]
        · rw [z 9 (by decide) (by decide) (by omega), z 10 (by decide) (by decide) (by omega), z 11 (by decide) (by decide) (by omega), z 12 (by decide) (by decide) (by omega), z 13 (by decide) (by decide) (by omega)]
          exact u1 e he
        · rw [z 9 (by decide) (by decide) (by omega)]; exact v1
        · rw [z 10 (by decide) (by decide) (by omega)]; exact v2
        · rw [z 11 (by decide) (by decide) (by omega), v3]; exact hy
        · rw [z 12 (by decide) (by decide) (by omega)]; exact v4
        · rw [z 13 (by decide) (by decide) (by omega)]; exact v5
        · rw [z 1 (by decide) (by decide) (by omega)]; exact r1
        · rw [z 14 (by decide) (by decide) (by omega)]; exact r2 i hi
        · rw [z15, oEv_W]
          by_cases q : p = a
          · rw [if_pos q, if_pos ⟨q1, q.symm⟩, q]
          · rw [if_neg q, if_neg (fun e => q e.2.symm)]
            exact a7 p hp
        · rw [z16]
          by_cases q : b = P.n
          · rw [q, oEv_iwn, decide_eq_true (show P.n < P.n + 1 by omega), Bool.true_and]
            by_cases q2 : p = a
            · rw [if_pos q2, oBit_or, oBit_1 hn12, decide_eq_true rfl, Bool.or_true, decide_eq_true ⟨q1, q2.symm⟩]
            · rw [if_neg q2, a8 p hp _ (by omega), decide_eq_false (show ¬ P.n < P.n by omega), decide_eq_false (fun e => q2 e.2.symm)]
              rfl
          · have hold : (decide (b < P.n + 1) && oIw (oEv P t w a v) p b) = (decide (b < P.n) && oIw P p b) := by
              rw [show decide (b < P.n + 1) = decide (b < P.n) from by simp only [decide_eq_decide]; omega]
              by_cases q2 : b < P.n
              · rw [oEv_iw q2]
              · rw [decide_eq_false q2]
                rfl
            rw [hold, ← a8 p hp b hb]
            by_cases q2 : p = a
            · rw [if_pos q2, oBit_or, oBit_1 hn12, decide_eq_false q, Bool.or_false, q2]
            · rw [if_neg q2]
        · rw [z18 p j hp]
          by_cases q : p = a ∧ j = oW P a
          · rw [if_pos q, q.1, q.2, oEv_Wrn q1]
          · rw [if_neg q]
            rw [oEv_W] at hj
            have hj2 : j < oW P p := by
              by_cases q2 : p = a
              · rw [if_pos ⟨q1, q2.symm⟩] at hj
                have : j ≠ oW P p := fun e => q ⟨q2, by rw [← q2]; exact e⟩
                omega
              · rw [if_neg (fun e => q2 e.2.symm)] at hj
                exact hj
            rw [oEv_Wr hj2]
            exact a9 p hp j hj2
      · obtain ⟨w1, w2, w3⟩ := w0 q1
        exact fin τ (fun o o1 o2 => u0 o (by omega)) (by rw [u0 1 (by decide)]) (by rw [u0 1 (by decide)]) u1 v1 v2 (by rw [v3]; exact hy) v4 v5 r1 r2 w1 w2 w3
  refine oT_N 6 rfl (oT_eq w 2 rfl rfl (by omega) (by decide) (fun q => ?_) (fun q => ?_))
  · refine oT_N 2 rfl (oT_Is (o := 11) (n := nI P.n) (x := Int32.ofInt (-1)) rfl ⟨rfl, by decide⟩ n12 ?_)
    rw [hc]
    exact rest _ (by rw [if_neg (by omega)]; rfl)
  · refine oT_N 1 rfl (oT_Is (o := 11) (n := nI P.n) (x := x) rfl ⟨rfl, by decide⟩ n12 ?_)
    rw [hc]
    exact rest _ (by rw [if_pos (by omega)]; exact (hx (by omega)).1)
end OXZ
