section OZF
variable {L : Nat} {σ : ox_S} {Post : ox_O → ox_S → Nat → Nat → Prop}
theorem ol_ring {i c w : Nat} {l5 l6 : Option Value} (hc : c ≤ 600000) (hw : w ≤ 7000000) (h : oKk σ) (K : ∀ τ, oKk τ → oU L 10 114 1077 [some (.ref 174), some (.ref 0), some (.ref 7), some (.ref 8), some (.int (nI i)), l5, l6] [] τ c w Post) : oU L 10 114 970 [some (.ref 174), some (.ref 0), some (.ref 7), some (.ref 8), some (.int (nI i)), l5, l6] [] σ c w Post := by
  obtain ⟨P, M, T, S, h1, h2⟩ := h
  refine oU_N 1 rfl (oU_V rfl rfl rfl rfl hc hw (ot_ring h1.2.2.2) (fun x σ2 h => by cases h.1) (fun v σ2 hv => ?_))
  obtain ⟨hv, rfl⟩ := hv
  cases hv
  refine oU_N 1 rfl (oU_V rfl rfl rfl rfl hc hw (ot_mring h2.2.2.2.2.2) (fun x σ2 h => by cases h.1) (fun v σ3 hv => ?_))
  obtain ⟨hv, rfl⟩ := hv
  cases hv
  exact oU_N 1 rfl (oU_If (fun _ => K _ ⟨P, M, T, S, oKc_ext h1 (fun o ho => ox_up_ne (by omega)), oKr_0 h2⟩) (fun (q : ¬ nI S.m = nI S.m) => absurd rfl q))
theorem ol_count {i c w : Nat} {l5 l6 : Option Value} (hi : i + 4 < L) (hL : L ≤ 2560) (hc : c ≤ 600000) (hw : w ≤ 7000000) (h : oKk σ) (K : ∀ τ, oKk τ → oU L 10 114 1077 [some (.ref 174), some (.ref 0), some (.ref 7), some (.ref 8), some (.int (nI i)), l5, l6] [] τ c w Post) : oU L 10 114 1039 [some (.ref 174), some (.ref 0), some (.ref 7), some (.ref 8), some (.int (nI i)), l5, l6] [] σ c w Post := by
  obtain ⟨P, M, T, S, h1, h2⟩ := h
  refine oU_N 5 rfl (oU_I (o := 174) (n := nI i + nI 1) rfl (Or.inr rfl) (ox_174 (by omega) hL) ?_)
  rw [ox_c174 (show i + 1 < L by omega) hL]
  refine oU_V rfl rfl rfl rfl hc hw (ot_count h1.1 h1.2.1 h1.2.2.1) (fun x σ2 h => by cases h.1) (fun v σ2 hv => ?_)
  obtain ⟨hv, rfl⟩ := hv
  cases hv
  refine oU_N 5 rfl (oU_I (o := 174) (n := nI i + nI 1) rfl (Or.inr rfl) (ox_174 (by omega) hL) ?_)
  rw [ox_c174 (show i + 1 < L by omega) hL]
  refine oU_V rfl rfl rfl rfl hc hw (ot_mcount h2.1 h2.2.1 h2.2.2.2.2.1 (by decide) (by decide)) (fun x σ2 h => by cases h.1) (fun v σ3 hv => ?_)
  obtain ⟨hv, rfl⟩ := hv
  cases hv
  exact oU_N 1 rfl (oU_If (fun _ => K _ ⟨P, M, T, S, oKc_ext h1 (fun o ho => ox_up_ne (by omega)), oKr_0 h2⟩) (fun (q : ¬ oCt P M T (σ2 174 (i + 1)) = oCt P M T (σ2 174 (i + 1))) => absurd rfl q))
theorem ol_clear {i c w : Nat} {l5 l6 : Option Value} (hc : c ≤ 600000) (hw : w ≤ 7000000) (h : oKk σ) (K : ∀ τ, oKk τ → oU L 10 114 1077 [some (.ref 174), some (.ref 0), some (.ref 7), some (.ref 8), some (.int (nI i)), l5, l6] [] τ c w Post) : oU L 10 114 1064 [some (.ref 174), some (.ref 0), some (.ref 7), some (.ref 8), some (.int (nI i)), l5, l6] [] σ c w Post := by
  obtain ⟨P, M, T, S, h1, h2⟩ := h
  refine oU_N 1 rfl (oU_V rfl rfl rfl rfl hc hw (ot_clear h1.1 (by decide) (by decide)) (fun x σ2 h => by cases h.1) (fun v σ2 hv => ?_))
  obtain ⟨hv, m1, f1⟩ := hv
  cases hv
  have hr : oKr σ2 P M T S := oKr_ext h2 (fun q _ => by rw [f1 7 (by decide) (by decide)]) (fun o q1 q2 => f1 o (by omega) (by omega))
  refine oU_N 1 rfl (oU_V rfl rfl rfl rfl hc hw (ot_mclear' hr.1) (fun x σ2 h => by cases h.1) (fun v σ3 hv => ?_))
  obtain ⟨hv, n0, n1, n2⟩ := hv
  cases hv
  exact oU_N 1 rfl (oU_If (fun _ => K _ ⟨oP0 P, M, T, S, oKc_ext (oKc_P h1 m1 f1) (fun o ho => n2.1 o (by omega)), oKr_P hr n1 n2⟩) (fun (q : ¬ nI P.n = nI P.n) => absurd rfl q))
theorem ox_5 {L i : Nat} (hL : L ≤ 2560) (hi : i ≤ 3000) : nI L - nI 5 < nI i ↔ L < i + 5 := by
  rcases Nat.lt_or_ge L 5 with q | q
  · constructor
    · intro _; omega
    · intro _
      have h1 := pk_sneg (a := L) (b := 5) (by decide) q
      exact Int32.lt_of_lt_of_le h1 (nI_pos' (by omega))
  · rw [pk_sub q, nI_ltI (by omega) (by omega)]
    omega
set_option maxHeartbeats 4000000 in
theorem ol_loop (hL : L ≤ 2560) : ∀ (d i c w : Nat) (σ : ox_S) (l5 l6 : Option Value), L < i + 5 * d + 5 → i ≤ 2560 → c + d ≤ 600000 → w + 6 * d ≤ 7000000 → oKk σ → oU L 10 114 23 [some (.ref 174), some (.ref 0), some (.ref 7), some (.ref 8), some (.int (nI i)), l5, l6] [] σ c w (fun o _ _ _ => o = .inl (some (.int 1))) := by
  intro d
  induction d with
  | zero =>
    intro i c w σ l5 l6 hd hi hc hw h
    refine oU_N 6 rfl (oU_If (fun _ => ?_) (fun (q : ¬ nI L - nI 5 < nI i) => absurd ((ox_5 hL (by omega)).mpr (by omega)) q))
    exact oU_N 1 rfl (oU_Ret rfl rfl rfl rfl)
  | succ d ih =>
    intro i c w σ l5 l6 hd hi hc hw h
    refine oU_N 6 rfl (oU_If (fun _ => ?_) (fun (q : ¬ nI L - nI 5 < nI i) => ?_))
    · exact oU_N 1 rfl (oU_Ret rfl rfl rfl rfl)
    · have hi5 : i + 4 < L := Nat.lt_of_not_le (fun e => q ((ox_5 hL (by omega)).mpr (by omega)))
      have next : ∀ (τ : ox_S) (c' w' : Nat) (l5 l6 : Option Value), oKk τ → c' ≤ c + 1 → w' ≤ w + 6 → oU L 10 114 1077 [some (.ref 174), some (.ref 0), some (.ref 7), some (.ref 8), some (.int (nI i)), l5, l6] [] τ c' w' (fun o _ _ _ => o = .inl (some (.int 1))) := fun τ c' w' l5 l6 hk q1 q2 => by
        have e := ih (i + 5) c' w' τ l5 l6 (by omega) (by omega) (by omega) (by omega) hk
        rw [show nI (i + 5) = nI i + Int32.ofInt 5 from (nI_add i 5).symm] at e
        exact oU_N 2 rfl e
      have next0 : ∀ (τ : ox_S), oKk τ → oU L 10 114 1077 [some (.ref 174), some (.ref 0), some (.ref 7), some (.ref 8), some (.int (nI i)), l5, l6] [] τ c w (fun o _ _ _ => o = .inl (some (.int 1))) := fun τ hk => next τ c w l5 l6 hk (by omega) (by omega)
      refine oU_N 2 rfl (oU_I (o := 174) (n := nI i) rfl (Or.inr rfl) (nI_in (show i < ox_n L 174 from (by show i < L; omega)) (show ox_n L 174 < 2 ^ 31 from (by show L < 2 ^ 31; omega))) ?_)
      rw [nI_clamp (show i < 2 ^ 31 by omega)]
      obtain ⟨j, hj, ej⟩ := pk_andE (σ 174 i) (m := (Int8.ofInt 31).toInt32) 5 (by decide)
      refine oU_N 2 rfl ?_
      rw [ej]
      obtain ⟨P, M, T, S, h1, h2⟩ := id h
      match j, hj with
      | 0, _ => exact oU_N 1 rfl (ol_thread hi5 hL (by omega) (by omega) (oq_thread h1 h2) next)
      | 1, _ => exact oU_N 1 rfl (ol_event hi5 hL (by omega) (by omega) (oq_event h1 h2) next)
      | 2, _ => exact oU_N 1 rfl (ol_depends hi5 hL (by omega) (by omega) (oq_depends h1 h2) next)
      | 3, _ => exact oU_N 1 rfl (ol_make hi5 hL (by omega) (by omega) (oq_make h1 h2) next)
      | 4, _ => exact oU_N 1 rfl (ol_rule hi5 hL (by omega) (by omega) (oq_rule h1 h2) next)
      | 5, _ => exact oU_N 1 rfl (ol_given hi5 hL (by omega) (by omega) (oq_given h1 h2) next)
      | 6, _ => exact oU_N 1 rfl (ol_run hi5 hL (by omega) (by omega) (oq_run h1 h2) next)
      | 7, _ => exact oU_N 1 rfl (ol_outcome hi5 hL (by omega) (by omega) (oq_outcome h1 h2) next)
      | 8, _ => exact oU_N 1 rfl (ol_witness hi5 hL (by omega) (by omega) (oq_witness h1 h2) next)
      | 9, _ => exact oU_N 1 rfl (ol_look hi5 hL (by omega) (by omega) (oq_look h1 h2) next)
      | 10, _ => exact oU_N 1 rfl (ol_source hi5 hL (by omega) (by omega) (oq_source h1 h2) next)
      | 11, _ => exact oU_N 1 rfl (ol_order hi5 hL (by omega) (by omega) (oq_order h1 h2) next)
      | 12, _ => exact oU_N 1 rfl (ol_related hi5 hL (by omega) (by omega) (oq_related h1 h2) next)
      | 13, _ => exact oU_N 1 rfl (ol_ring (by omega) (by omega) h next0)
      | 14, _ => exact oU_N 1 rfl (ol_ringAt hi5 hL (by omega) (by omega) (oq_ringAt h1 h2) next)
      | 15, _ => exact oU_N 1 rfl (ol_count hi5 hL (by omega) (by omega) h next0)
      | 16, _ => exact oU_N 1 rfl (ol_clear (by omega) (by omega) h next0)
      | j + 17, hj =>
        refine oU_TsD (x := nI (j + 17)) rfl (Or.inr ?_) (by decide) (next0 σ h)
        rw [nI_toInt (by omega)]
        omega
end OZF
