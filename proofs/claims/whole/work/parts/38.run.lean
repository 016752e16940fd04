theorem oPk_lt {P : oPr} {x i : Nat} : oPk P x i < 1 + oW P (P.pl (oRd P i)) := Nat.mod_lt _ (by omega)
/-- a source is none or a write -/
theorem oSc_or {P : oPr} {x i : Nat} : (oPk P x i = 0 ∧ oSc P x i = -1) ∨ (oPk P x i ≠ 0 ∧ oPk P x i - 1 < oW P (P.pl (oRd P i)) ∧ oSc P x i = nI (oWr P (P.pl (oRd P i)) (oPk P x i - 1))) := by
  have := oPk_lt (P := P) (x := x) (i := i)
  by_cases e : oPk P x i = 0
  · exact Or.inl ⟨e, if_pos e⟩
  · exact Or.inr ⟨e, by omega, if_neg e⟩
/-- what the i-th read reads -/
def oVc (P : oPr) (x i : Nat) : Int32 := if oPk P x i = 0 then 0 else P.vl (oWr P (P.pl (oRd P i)) (oPk P x i - 1))
/-- the place of a write in its order -/
def oRk (P : oPr) (x e : Nat) : Nat := oKt (fun j => decide (oOd P x (P.pl e) j = e)) (oW P (P.pl e)) 0
theorem oRk_of {P : oPr} {x p j : Nat} (h : j < oW P p) : oRk P x (oOd P x p j) = j := by
  unfold oRk
  rw [(oOd_w h).2.2]
  have h0 : oCn (fun j' => decide (oOd P x p j' = oOd P x p j)) j = 0 := oCn_0 j (fun j' hj' => by
    cases e : decide (oOd P x p j' = oOd P x p j) with
    | false => rfl
    | true =>
      have := oOd_inj (by omega) h (of_decide_eq_true e)
      omega)
  have := oKt_of (f := fun j' => decide (oOd P x p j' = oOd P x p j)) (n := oW P p) h (decide_eq_true rfl)
  rw [h0] at this
  exact this
/-- a state that holds what execution x chooses -/
def oXs (P : oPr) (x : Nat) : ox_S := fun o q => if o = 52 then oSc P x q else nI (oRk P x q)
theorem oGv_ext2 {P : oPr} {σ τ : ox_S} {r a b : Nat} (h : P.ok) (ha : a < P.n) (hb : b < P.n) (h52 : ∀ e, e < P.n → P.kd e = 0 → τ 52 (ocR P e) = σ 52 (ocR P e)) (h55 : ∀ e, e < P.n → P.kd e = 1 → τ 55 e = σ 55 e) (hw : ∀ e, e < P.n → P.kd e = 0 → σ 52 (ocR P e) < 0 ∨ ∃ w, w < P.n ∧ P.kd w = 1 ∧ σ 52 (ocR P e) = nI w) : oGv P τ r a b = oGv P σ r a b := by
  have hn := h.2.1
  have hfr : oFr P τ a b = oFr P σ a b := by
    unfold oFr
    by_cases q : P.kd b = 0
    · rw [h52 b hb q]
    · simp [q]
  unfold oGv
  split
  · rfl
  · exact hfr
  · by_cases q : P.kd a = 1
    · by_cases q2 : P.kd b = 1
      · rw [h55 a ha q, h55 b hb q2]
      · simp [q2]
    · simp [q]
  · by_cases q : P.kd a = 0
    · by_cases q2 : P.kd b = 1
      · rw [h52 a ha q, h55 b hb q2]
        rcases hw a ha q with e | ⟨w, w1, w2, w3⟩
        · simp [e]
        · rw [w3, nI_clamp (by omega), h55 w w1 w2]
      · simp [q2]
    · simp [q]
  · rw [hfr]
  · rfl
  · rfl
  · rfl
  · rfl
theorem oXs_w {P : oPr} {x e : Nat} (h : P.ok) (he : e < P.n) (hk : P.kd e = 0) : oXs P x 52 (ocR P e) < 0 ∨ ∃ w, w < P.n ∧ P.kd w = 1 ∧ oXs P x 52 (ocR P e) = nI w := by
  show oSc P x (ocR P e) < 0 ∨ ∃ w, w < P.n ∧ P.kd w = 1 ∧ oSc P x (ocR P e) = nI w
  rcases oSc_or (P := P) (x := x) (i := ocR P e) with ⟨-, q⟩ | ⟨-, q1, q2⟩
  · rw [q]
    exact Or.inl (by decide)
  · obtain ⟨w1, w2, -⟩ := oWr_sp q1
    exact Or.inr ⟨_, w1, w2, q2⟩
theorem oCh_gv {P : oPr} {σ τ : ox_S} {x r a b : Nat} (h : P.ok) (ha : a < P.n) (hb : b < P.n) (hc : oCh P x σ τ) : oGv P τ r a b = oGv P (oXs P x) r a b := by
  obtain ⟨c1, c2, c3, c4, c5⟩ := hc
  refine oGv_ext2 h ha hb (fun e he hk => ?_) (fun e he hk => ?_) (fun e he hk => oXs_w h he hk)
  · exact c2 _ (oRd_of he hk).2
  · obtain ⟨j, j1, j2⟩ := oOd_on (x := x) he hk rfl
    have hp := (h.2.2 e he).2.2 (by omega)
    have e1 := c5 (P.pl e) j hp j1
    rw [j2] at e1
    rw [e1]
    show _ = nI (oRk P x e)
    have := oRk_of (x := x) j1
    rw [j2] at this
    rw [this]
theorem oIR_gv {n R : Nat} {M : oMo} {gv gv' v : Nat → Nat → Nat → Bool} {W : Nat → Prop} (h : oIR n M gv R W v) (hg : ∀ r a b, a < n → b < n → gv r a b = gv' r a b) : oIR n M gv' R W v := fun r hr hw a b ha hb => by
  obtain ⟨h1, h2⟩ := h r hr hw a b ha hb
  exact ⟨fun q => by rw [← hg r a b ha hb]; exact h1 q, h2⟩
theorem oPt_ext {n : Nat} {f g : Nat → Nat → Bool} (h : ∀ a b, a < n → b < n → f a b = g a b) : ∀ (j a b : Nat), a < n → b < n → oPt n f j a b → oPt n g j a b
  | 0, _, _, _, _, q => q
  | j + 1, a, b, ha, hb, ⟨c, c1, c2, c3⟩ => ⟨c, c1, oPt_ext h j a c ha c1 c2, by rw [← h c b c1 hb]; exact c3⟩
theorem oRg_ext {n : Nat} {f g : Nat → Nat → Bool} (h : ∀ a b, a < n → b < n → f a b = g a b) : oRg n f ↔ oRg n g :=
  ⟨fun ⟨j, a, h1, h2, h3, h4⟩ => ⟨j, a, h1, h2, h3, oPt_ext h j a a h3 h3 h4⟩, fun ⟨j, a, h1, h2, h3, h4⟩ => ⟨j, a, h1, h2, h3, oPt_ext (fun a b ha hb => (h a b ha hb).symm) j a a h3 h3 h4⟩⟩
/-- v is right for execution x in all relations of which W holds -/
def oRv (P : oPr) (M : oMo) (x : Nat) (W : Nat → Prop) (v : Nat → Nat → Nat → Bool) : Prop := oIR P.n M (oGv P (oXs P x)) M.R W v
/-- al takes the executions that break no rule -/
def oAw (P : oPr) (M : oMo) (al : Nat → Bool) : Prop := ∀ x v, oRv P M x (fun _ => True) v → (al x = true ↔ ∀ i, i < M.Q → ¬ oRg P.n (v (M.rl i)))
theorem oAw_ex (P : oPr) (M : oMo) (hM : M.ok) : ∃ al, oAw P M al := by
  refine ⟨fun x => @decide (∃ v, oRv P M x (fun _ => True) v ∧ ∀ i, i < M.Q → ¬ oRg P.n (v (M.rl i))) (Classical.propDecidable _), fun x v hv => ?_⟩
  refine (@decide_eq_true_iff _ (Classical.propDecidable _)).trans ⟨?_, ?_⟩
  · rintro ⟨v', h1, h2⟩ i hi
    have e := oIR_one (W := fun _ => True) (W' := fun _ => True) hM (Nat.le_refl _) (fun _ _ _ _ => ⟨trivial, trivial⟩) (fun _ _ => trivial) hv h1
    rw [oRg_ext (fun a b ha hb => e (M.rl i) (hM.2.2.2.2 i hi) trivial a b ha hb)]
    exact h2 i hi
  · intro h
    exact ⟨v, hv, h⟩
theorem oBk_neg {n : Nat} {M : oMo} {v : Nat → Nat → Nat → Bool} {b : Int32} (hQ : M.Q ≤ 8) (h : oBk n M v b) : b < 0 ↔ ∀ i, i < M.Q → ¬ oRg n (v (M.rl i)) := by
  rcases h with ⟨h1, h2⟩ | ⟨i, h1, h2, h3, h4⟩
  · exact ⟨fun _ => h2, fun _ => by rw [h1]; decide⟩
  · exact ⟨fun q => by rw [h2] at q; exact absurd q (nI_pos (by omega)), fun q => absurd h3 (q i h1)⟩
/-- the reference, between the executions of a run -/
def oRn (σ σ' : ox_S) : Prop := (∀ o, o < 7 ∨ (7 < o ∧ o < 52) ∨ 62 < o → σ' o = σ o) ∧ (∀ q, q ≠ 0 → (q < 20 ∨ 23 < q) → σ' 7 q = σ 7 q) ∧ oZ1 σ' 56 5760 ∧ oZ1 σ' 57 1872
theorem oMm_ext {M : oMo} {σ τ : ox_S} (h : oMm σ M) (h1 : τ 7 8 = σ 7 8) (h2 : τ 7 12 = σ 7 12) (h3 : ∀ o, 48 ≤ o → o ≤ 51 → τ o = σ o) : oMm τ M := by
  obtain ⟨a1, a2, a3, a4, a5⟩ := h
  refine ⟨a1, by rw [h1]; exact a2, by rw [h2]; exact a3, fun r q1 q2 => ?_, fun i hi => ?_⟩
  · rw [h3 48 (by decide) (by decide), h3 49 (by decide) (by decide), h3 50 (by decide) (by decide)]
    exact a4 r q1 q2
  · rw [h3 51 (by decide) (by decide)]
    exact a5 i hi
/-- what 'run' leaves -/
def oRu (P : oPr) (al : Nat → Bool) (X : Nat) (σ σ' : ox_S) : Prop :=
  oRn σ σ' ∧ σ' 7 0 = 0 ∧ oLi σ' (ocR P P.n) al (oVc P) X ∧ σ' 7 21 = nI (oNx P) ∧ σ' 7 22 = nI (oCn al X) ∧ σ' 7 23 = nI (ocR P P.n)
set_option maxHeartbeats 1000000 in
theorem ot_mrun {L k : Nat} {σ : ox_S} {P : oPr} {M : oMo} {al : Nat → Bool} (h : oM σ P) (hm : oMm σ M) (hz : oZ1 σ 56 5760) (hz7 : oZ1 σ 57 1872) (hal : oAw P M al) (hk : 6 ≤ k) (hk9 : k ≤ 9) :
    oT L k 81 0 [some (.ref 7), none, none] [] σ (fun o σ' => if oNx P ≤ 5000 then o = .inl (some (.int (σ' 7 20))) ∧ oRu P al (oNx P) σ σ' else (∃ v, o = .inl (some (.int v))) ∧ σ' = ox_up σ 7 0 1) := by
  obtain ⟨k, rfl⟩ : ∃ k', k = k' + 1 := ⟨k - 1, by omega⟩
  have hok := h.1
  have hMok := hm.1
  have hR := ocR_le P P.n
  have hn := hok.2.1
  refine oT_N 1 rfl (oT_V rfl rfl rfl rfl (by omega) (by omega) (ot_executions h (by omega) (by omega)) (fun x σ2 h => by cases h.1) (fun v σ2 hv => ?_))
  obtain ⟨hv, rfl⟩ := hv
  cases hv
  by_cases hN : oNx P ≤ 5000
  · rw [if_pos hN]
    refine oT_N 5 rfl (oT_le (oNx P) 5000 rfl rfl (by omega) (by decide) (fun _ => ?_) (fun q => by omega))
    refine oT_N 2 rfl (oT_V rfl rfl rfl rfl (by omega) (by omega) ot_throwing (fun x σ2 h => by cases h.1) (fun v σ3 hv => ?_))
    obtain ⟨hv, rfl⟩ := hv
    cases hv
    refine oT_N 1 rfl (oT_If (fun _ => ?_) (fun q => absurd (show (if oth (Int32.ofInt 0) (Int32.ofInt 0) = 0 then (0 : Int32) else 1) = 0 by decide) q))
    -- the executions
    have loop : ∀ (d X : Nat) (τ : ox_S), X + d = oNx P → oRu P al X σ2 τ → oT L (k + 1) 81 52 [some (.ref 7), some (.int (nI (oNx P))), some (.int (nI X))] [] τ (fun o σ' => if oNx P ≤ 5000 then o = .inl (some (.int (σ' 7 20))) ∧ oRu P al (oNx P) σ2 σ' else (∃ v, o = .inl (some (.int v))) ∧ σ' = ox_up σ2 7 0 1) := by
      intro d
      induction d with
      | zero =>
        intro X τ hX hI
        obtain rfl : X = oNx P := by omega
        refine oT_N 3 rfl (oT_le (oNx P) (oNx P) rfl rfl (by omega) (by omega) (fun _ => ?_) (fun q => by omega))
        refine oT_N 2 rfl (oT_Ret rfl rfl rfl ?_)
        rw [if_pos hN]
        exact ⟨rfl, hI⟩
      | succ d ih =>
        intro X τ hX hI
        obtain ⟨⟨n1, n2, n3, n4⟩, i0, i1, i2, i3, i4⟩ := hI
        have hM : oM τ P := oM_ext h (n2 1 (by decide) (by decide)) (n2 2 (by decide) (by decide)) (fun o q1 q2 => n1 o (by omega))
        have hMm : oMm τ M := oMm_ext hm (n2 8 (by decide) (by decide)) (n2 12 (by decide) (by decide)) (fun o q1 q2 => n1 o (by omega))
        refine oT_N 3 rfl (oT_le (oNx P) X rfl rfl (by omega) (by omega) (fun q => by omega) (fun _ => ?_))
        refine oT_N 2 rfl (oT_V rfl rfl rfl rfl (by omega) (by omega) (ot_choose hM hN (by omega) (by omega) (by omega)) (fun x σ2 h => by cases h.1) (fun v τ1 hv => ?_))
        obtain ⟨hv, hc⟩ := hv
        cases hv
        have c1 := hc.1
        have hM1 : oM τ1 P := oM_ext hM (by rw [c1 7 (by decide)]) (by rw [c1 7 (by decide)]) (fun o q1 q2 => c1 o (by omega))
        have hMm1 : oMm τ1 M := oMm_ext hMm (by rw [c1 7 (by decide)]) (by rw [c1 7 (by decide)]) (fun o q1 q2 => c1 o (by omega))
        have hsr : oSr τ1 P := fun e he hk => by
          rw [hc.2.1 _ (oRd_of he hk).2]
          rcases oXs_w (x := X) hok he hk with q | ⟨w, q1, q2, q3⟩
          · exact Or.inl q
          · exact Or.inr ⟨w, by omega, q3⟩
        refine oT_N 1 rfl (oT_V rfl rfl rfl rfl (by omega) (by omega) (ot_relate hM1 hMm1 hsr (by unfold oZ1; rw [c1 56 (by decide)]; exact n3) (by omega) (by omega)) (fun x σ2 h => by cases h.1) (fun v τ2 hv => ?_))
        obtain ⟨hv, r1, r2, r3⟩ := hv
        cases hv
        have hv : oRv P M X (fun _ => True) (oB τ2) := oIR_gv r3 (fun r a b ha hb => oCh_gv hok ha hb hc)
        have hMm2 : oMm τ2 M := oMm_ext hMm1 (by rw [r1 7 (by decide)]) (by rw [r1 7 (by decide)]) (fun o q1 q2 => r1 o (by omega))
        refine oT_N 1 rfl (oT_V (PostC := fun o τ3 => ∃ b, o = .inl (some (.int b)) ∧ (∀ o, o ≠ 57 → τ3 o = τ2 o) ∧ oZ1 τ3 57 1872 ∧ oBk P.n M (oB τ2) b) rfl rfl rfl rfl (by omega) (by omega) (ot_broken hMm2 r2 (by unfold oZ1; rw [r1 57 (by decide), c1 57 (by decide)]; exact n4) (by rw [r1 7 (by decide)]; exact hM1.2.2.1) hn (by omega) (by omega) (fun b τ3 q1 q2 q3 => ⟨b, rfl, q1, q2, q3⟩)) (fun x σ2 h => by obtain ⟨b, h, -⟩ := h; cases h) (fun v τ3 hv => ?_))
        obtain ⟨b, hv', b1, b2, b3⟩ := hv
        cases hv'
        have hb := oBk_neg hMok.2.2.1 b3
        have o3 : ∀ o, o < 52 ∨ (57 < o) → τ3 o = τ o := fun o ho => by rw [b1 o (by omega), r1 o (by omega), c1 o (by omega)]
        have z56 : oZ1 τ3 56 5760 := by unfold oZ1; rw [b1 56 (by decide)]; exact r2
        have o7 : τ3 7 = τ 7 := o3 7 (by decide)
        have hl3 : oLi τ3 (ocR P P.n) al (oVc P) X := oLi_ext i1 (by rw [o7]) (fun o q1 q2 => o3 o (by omega))
        refine oT_N 1 rfl (oT_If (fun (q : b < 0) => ?_) (fun (q : ¬ b < 0) => ?_))
        · have ha : al X = true := (hal X _ hv).mpr (hb.mp q)
          have hsrc : ∀ i, i < ocR P P.n → (ox_up τ3 7 22 (τ3 7 22 + Int32.ofInt 1) 52 i = -1 ∧ oVc P X i = 0) ∨ ∃ e, e < 12 ∧ ox_up τ3 7 22 (τ3 7 22 + Int32.ofInt 1) 52 i = nI e ∧ ox_up τ3 7 22 (τ3 7 22 + Int32.ofInt 1) 46 e = oVc P X i := fun i hi => by
            rw [ox_up_ne (by decide), ox_up_ne (by decide), b1 52 (by decide), r1 52 (by decide), hc.2.1 i hi, o3 46 (by decide)]
            rcases oSc_or (P := P) (x := X) (i := i) with ⟨q1, q2⟩ | ⟨q1, q2, q3⟩
            · exact Or.inl ⟨q2, if_pos q1⟩
            · obtain ⟨w1, w2, -⟩ := oWr_sp q2
              refine Or.inr ⟨_, by omega, q3, ?_⟩
              rw [(hM.2.2.2 _ w1).2.2.2.1]
              exact (if_neg q1).symm
          refine oT_N 8 rfl (oT_V rfl rfl rfl rfl (by omega) (by omega) (ot_take (R := ocR P P.n) (X := X) (al := al) (vec := oVc P) (by rw [ox_up_at, if_neg (by decide), o7]; exact i4) (by omega) (by omega) ha (oLi_ext hl3 (by rw [ox_up_at, if_neg (by decide)]) (fun o q1 q2 => ox_up_ne (by omega))) hsrc (by omega) (by omega)) (fun x σ2 h => by cases h.1) (fun v τ4 hv => ?_))
          obtain ⟨hv, t1, t2, t3⟩ := hv
          cases hv
          have e := ih (X + 1) τ4 (by omega) ⟨⟨fun o ho => by rw [t1 o (by omega), ox_up_ne (by omega), o3 o (by omega)]; exact n1 o ho, fun q q1 q2 => by rw [t2 q (by omega), ox_up_at, if_neg (show ¬ q = 22 by omega), o7]; exact n2 q q1 q2, by unfold oZ1; rw [t1 56 (by decide), ox_up_ne (by decide)]; exact z56, by unfold oZ1; rw [t1 57 (by decide), ox_up_ne (by decide)]; exact b2⟩, by rw [t2 0 (by decide), ox_up_at, if_neg (by decide), o7]; exact i0, t3, by rw [t2 21 (by decide), ox_up_at, if_neg (by decide), o7]; exact i2, by
            rw [t2 22 (by decide), ox_up_at, if_pos rfl, o7, i3, ox_inc]
            simp [oCn, ha], by rw [t2 23 (by decide), ox_up_at, if_neg (by decide), o7]; exact i4⟩
          rw [← ox_inc X] at e
          exact oT_N 2 rfl e
        · have ha : al X = false := by
            cases e : al X with
            | false => rfl
            | true => exact absurd (hb.mpr ((hal X _ hv).mp e)) q
          have e := ih (X + 1) τ3 (by omega) ⟨⟨fun o ho => by
              rcases Nat.lt_or_ge o 52 with q2 | q2
              · rw [o3 o (by omega)]; exact n1 o ho
              · rw [o3 o (by omega)]; exact n1 o ho, fun q q1 q2 => by rw [o7]; exact n2 q q1 q2, z56, b2⟩, by rw [o7]; exact i0, oLi_skip hl3 ha, by rw [o7]; exact i2, by
            rw [o7, i3]
            simp [oCn, ha], by rw [o7]; exact i4⟩
          rw [← ox_inc X] at e
          exact oT_N 3 rfl e
    refine oT_N 11 rfl (oT_V rfl rfl rfl rfl (by omega) (by omega) (ot_reads (P := P) (oM_ext h ?_ ?_ ?_)) (fun x σ2 h => by cases h.1) (fun v σ3 hv => ?_))
    · rfl
    · rfl
    · intro o q1 q2
      rw [ox_up_ne (by omega), ox_up_ne (by omega), ox_up_ne (by omega), ox_up_ne (by omega)]
    · obtain ⟨hv, rfl⟩ := hv
      cases hv
      refine oT_N 3 rfl (loop (oNx P) 0 _ (by omega) ?_)
      refine ⟨⟨fun o ho => ?_, fun q q1 q2 => ?_, ?_, ?_⟩, rfl, ⟨0, fun _ => 0, fun _ _ => 0, fun _ => 0, fun _ => 0, ⟨fun k k' q1 q2 => by omega, fun k hk => by omega, fun x hx => by omega⟩, Nat.le_refl _, rfl, fun k hk => by omega⟩, rfl, rfl, rfl⟩
      · rw [ox_up_ne (by omega), ox_up_ne (by omega), ox_up_ne (by omega), ox_up_ne (by omega), ox_up_ne (by omega)]
      · rw [ox_up_at, if_neg (show ¬ q = 23 by omega), ox_up_at, if_neg (show ¬ q = 22 by omega), ox_up_at, if_neg (show ¬ q = 21 by omega), ox_up_at, if_neg (show ¬ q = 20 by omega), ox_up_at, if_neg q1]
      · unfold oZ1
        rw [ox_up_ne (by decide), ox_up_ne (by decide), ox_up_ne (by decide), ox_up_ne (by decide), ox_up_ne (by decide)]
        exact hz
      · unfold oZ1
        rw [ox_up_ne (by decide), ox_up_ne (by decide), ox_up_ne (by decide), ox_up_ne (by decide), ox_up_ne (by decide)]
        exact hz7
  · rw [if_neg hN]
    refine oT_N 5 rfl (oT_le 5001 5000 rfl rfl (by decide) (by decide) (fun q => by omega) (fun _ => ?_))
    refine oT_N 3 rfl (oT_V rfl rfl rfl rfl (by omega) (by omega) ot_throwing (fun x σ2 h => by cases h.1) (fun v σ3 hv => ?_))
    obtain ⟨hv, rfl⟩ := hv
    cases hv
    refine oT_N 1 rfl (oT_If (fun q => absurd q (by decide)) (fun _ => ?_))
    refine oT_N 1 rfl (oT_Ret rfl rfl rfl ?_)
    rw [if_neg hN]
    exact ⟨⟨_, rfl⟩, rfl⟩
