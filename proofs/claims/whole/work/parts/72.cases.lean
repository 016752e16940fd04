/-- what a helper leaves, once more -/
theorem oHp_u {PostC : ox_O → ox_S → Prop} {cd : Nat → Int32} {o : ox_O} {τ : ox_S} {c w : Nat} (h : oHp PostC cd o τ c w) (hcd : ∀ x, cd x ≠ 0) : c ≤ 1 ∧ w ≤ 6 ∧ ∃ kk o1 σ1, o = .inl (some (.int kk)) ∧ PostC o1 σ1 ∧ (∀ o, o ≠ 8 → τ o = σ1 o) ∧ ((∃ v, o1 = .inl (some (.int v)) ∧ kk = 0 ∧ τ 8 0 = v) ∨ ∃ x, o1 = .inr x ∧ kk = cd x ∧ kk ≠ 0) := by
  obtain ⟨h1, h2, ⟨v, σ1, h3, h4, rfl⟩ | ⟨x, σ1, h3, h4, rfl⟩⟩ := h
  · exact ⟨h1, h2, 0, _, σ1, h4, h3, fun o ho => ox_up_ne ho, Or.inl ⟨v, rfl, rfl, by rw [ox_up_at, if_pos rfl]⟩⟩
  · exact ⟨h1, h2, cd x, _, τ, h4, h3, fun _ _ => rfl, Or.inr ⟨x, rfl, rfl, hcd x⟩⟩
theorem oU_TsD {L k mi pc c w : Nat} {ls : List (Option Value)} {r : List Value} {σ : ox_S} {Post : ox_O → ox_S → Nat → Nat → Prop} {x : Int32} {dflt lo hi : Int} {offs : Array Int} {e2 : Nat × Nat × Nat} (hI : ox_I mi pc = some (.tableswitch dflt lo hi offs, e2)) (h : x.toInt < lo ∨ hi < x.toInt) (hp : 0 ≤ (pc : Int) + dflt) (K : oU L k mi ((pc : Int) + dflt).toNat ls r σ c w Post) : oU L k mi pc ls (.int x :: r) σ c w Post :=
  oU_N 1 (by simp only [ox_sN, hI, ox_s1, ox_1, if_pos h, if_pos hp]) K
theorem ox_lc {x y : Int64} (h : x = y) : lg_cmp x y = 0 := by
  subst h
  simp [lg_cmp]
theorem ox_j (i j : Nat) : nI i + Int32.ofNat j = nI (i + j) := nI_add i j
section OZE
variable {L : Nat} {σ : ox_S} {Post : ox_O → ox_S → Nat → Nat → Prop}
theorem ox_174 {L i j : Nat} (h : i + j < L) (hL : L ≤ 2560) : ¬ (nI i + nI j < 0 ∨ ox_n L 174 ≤ (nI i + nI j).toNatClampNeg) := by
  rw [nI_add]
  exact nI_in (show i + j < ox_n L 174 from h) (show ox_n L 174 < 2 ^ 31 from (by show L < 2 ^ 31; omega))
theorem ox_c174 {L i j : Nat} (h : i + j < L) (hL : L ≤ 2560) : (nI i + nI j).toNatClampNeg = i + j := by
  rw [nI_add]
  exact nI_clamp (by omega)
theorem ol_thread {i c w : Nat} {l5 l6 : Option Value} (hi : i + 4 < L) (hL : L ≤ 2560) (hc : c ≤ 600000 - 1) (hw : w ≤ 7000000 - 6) (hop : oOp L 32 53 σ [] 0 0 (fun _ => 1) (oClv (fun x => x = 0))) (K : ∀ τ c' w' l5 l6, oKk τ → c' ≤ c + 1 → w' ≤ w + 6 → oU L 10 114 1077 [some (.ref 174), some (.ref 0), some (.ref 7), some (.ref 8), some (.int (nI i)), l5, l6] [] τ c' w' Post) : oU L 10 114 120 [some (.ref 174), some (.ref 0), some (.ref 7), some (.ref 8), some (.int (nI i)), l5, l6] [] σ c w Post := by
  obtain ⟨PostC, hcall, hcl, href⟩ := hop
  refine oU_N 2 rfl (oU_S rfl rfl rfl (by omega) (by omega) (ot_h100 hcall (fun o σ' q => (hcl o σ' q).1)) (fun x σ' c' w' q => by obtain ⟨-, -, kk, o1, σ1, q, -⟩ := oHp_u q (by intro x; show (1 : Int32) ≠ 0; decide); cases q) (fun v τ c' w' q => ?_))
  obtain ⟨q1, q2, kk, o1, σ1, q3, q4, q5, q6⟩ := oHp_u q (by intro x; show (1 : Int32) ≠ 0; decide)
  cases q3
  have e174 : τ 174 = σ 174 := by rw [q5 174 (by decide)]; exact (hcl o1 σ1 q4).2
  have hr := href o1 σ1 τ q4 q5
  show oU L 10 114 125 [some (.ref 174), some (.ref 0), some (.ref 7), some (.ref 8), some (.int (nI i)), l5, l6] [.int kk] τ (c + c') (w + w') Post
  refine oU_N 2 rfl (oU_V rfl rfl rfl rfl (by omega) (by omega) hr (fun x σ2 h => by obtain ⟨b, h, -⟩ := h; cases h) (fun v σ2 hv => ?_))
  obtain ⟨b, hv, ag, e8, kk2⟩ := hv
  cases hv
  show oU L 10 114 131 [some (.ref 174), some (.ref 0), some (.ref 7), some (.ref 8), some (.int (nI i)), some (.int kk), l6] [.int b] σ2 (c + c') (w + w') Post
  refine oU_N 2 rfl (oU_V rfl rfl rfl rfl (by omega) (by omega) ot_thrown (fun x σ2 h => by cases h.1) (fun v σ3 hv => ?_))
  obtain ⟨hv, rfl⟩ := hv
  cases hv
  show oU L 10 114 137 [some (.ref 174), some (.ref 0), some (.ref 7), some (.ref 8), some (.int (nI i)), some (.int kk), some (.int b)] [.int (σ3 7 0)] σ3 (c + c') (w + w') Post
  have fin : oU L 10 114 161 [some (.ref 174), some (.ref 0), some (.ref 7), some (.ref 8), some (.int (nI i)), some (.int kk), some (.int b)] [] σ3 (c + c') (w + w') Post := oU_N 1 rfl (K σ3 _ _ _ _ kk2 (by omega) (by omega))
  refine oU_N 2 rfl (oU_If (fun _ => ?_) (fun (q : ¬ σ3 7 0 = kk) => absurd ?_ q))
  · rcases q6 with ⟨v, rfl, rfl, q8⟩ | ⟨x, rfl, -, q9⟩
    · obtain ⟨g1, g2⟩ := ag.1 v rfl
      refine oU_N 2 rfl (oU_If (fun _ => ?_) (fun (q : ¬ (0 : Int32) = 0) => absurd rfl q))
      refine oU_N 2 rfl (oU_Ll (o := 8) (n := nI 0) rfl ⟨rfl, by decide⟩ (ox_ix (N := 1) (by decide) (by decide)) ?_)
      rw [show (nI 0).toNatClampNeg = 0 from rfl, show σ3 8 0 = b by rw [e8, q8, g2]]
      refine oU_N 4 rfl (oU_If (fun _ => fin) (fun (q : ¬ lg_cmp b.toInt64 b.toInt64 = 0) => absurd (ox_lc rfl) q))
    · exact oU_N 2 rfl (oU_If (fun (q : kk = 0) => absurd q q9) (fun _ => fin))
  · rcases q6 with ⟨v, rfl, rfl, -⟩ | ⟨x, rfl, q9, -⟩
    · exact (ag.1 v rfl).1
    · rw [q9]; exact ag.2 x rfl
theorem ol_event {i c w : Nat} {l5 l6 : Option Value} (hi : i + 4 < L) (hL : L ≤ 2560) (hc : c ≤ 600000 - 1) (hw : w ≤ 7000000 - 6) (hop : oOp L 33 54 σ [some (.int (σ 174 (i + 1))), some (.int (σ 174 (i + 2))), some (.int (σ 174 (i + 3))), some (.int (σ 174 (i + 4)))] 0 2 (fun x => if x = 1 then 1 else 2) (oClv (fun x => x = 1 ∨ x = 0))) (K : ∀ τ c' w' l5 l6, oKk τ → c' ≤ c + 1 → w' ≤ w + 6 → oU L 10 114 1077 [some (.ref 174), some (.ref 0), some (.ref 7), some (.ref 8), some (.int (nI i)), l5, l6] [] τ c' w' Post) : oU L 10 114 164 [some (.ref 174), some (.ref 0), some (.ref 7), some (.ref 8), some (.int (nI i)), l5, l6] [] σ c w Post := by
  obtain ⟨PostC, hcall, hcl, href⟩ := hop
  refine oU_N 5 rfl (oU_I (o := 174) (n := nI i + nI 1) rfl (Or.inr rfl) (ox_174 (by omega) hL) ?_)
  rw [ox_c174 (show i + 1 < L by omega) hL]
  refine oU_N 4 rfl (oU_I (o := 174) (n := nI i + nI 2) rfl (Or.inr rfl) (ox_174 (by omega) hL) ?_)
  rw [ox_c174 (show i + 2 < L by omega) hL]
  refine oU_N 4 rfl (oU_I (o := 174) (n := nI i + nI 3) rfl (Or.inr rfl) (ox_174 (by omega) hL) ?_)
  rw [ox_c174 (show i + 3 < L by omega) hL]
  refine oU_N 4 rfl (oU_I (o := 174) (n := nI i + nI 4) rfl (Or.inr rfl) (ox_174 (by omega) hL) ?_)
  rw [ox_c174 (show i + 4 < L by omega) hL]
  refine oU_N 1 rfl (oU_S rfl rfl rfl (by omega) (by omega) (ot_h101 hcall (fun o σ' q => (hcl o σ' q).1)) (fun x σ' c' w' q => by obtain ⟨-, -, kk, o1, σ1, q, -⟩ := oHp_u q (by intro x; show (if x = 1 then (1 : Int32) else 2) ≠ 0; split <;> decide); cases q) (fun v τ c' w' q => ?_))
  obtain ⟨q1, q2, kk, o1, σ1, q3, q4, q5, q6⟩ := oHp_u q (by intro x; show (if x = 1 then (1 : Int32) else 2) ≠ 0; split <;> decide)
  cases q3
  have e174 : τ 174 = σ 174 := by rw [q5 174 (by decide)]; exact (hcl o1 σ1 q4).2
  have hr := href o1 σ1 τ q4 q5
  rw [← e174] at hr
  show oU L 10 114 193 [some (.ref 174), some (.ref 0), some (.ref 7), some (.ref 8), some (.int (nI i)), l5, l6] [.int kk] τ (c + c') (w + w') Post
  refine oU_N 6 rfl (oU_I (o := 174) (n := nI i + nI 1) rfl (Or.inr rfl) (ox_174 (by omega) hL) ?_)
  rw [ox_c174 (show i + 1 < L by omega) hL]
  refine oU_N 4 rfl (oU_I (o := 174) (n := nI i + nI 2) rfl (Or.inr rfl) (ox_174 (by omega) hL) ?_)
  rw [ox_c174 (show i + 2 < L by omega) hL]
  refine oU_N 4 rfl (oU_I (o := 174) (n := nI i + nI 3) rfl (Or.inr rfl) (ox_174 (by omega) hL) ?_)
  rw [ox_c174 (show i + 3 < L by omega) hL]
  refine oU_N 4 rfl (oU_I (o := 174) (n := nI i + nI 4) rfl (Or.inr rfl) (ox_174 (by omega) hL) ?_)
  rw [ox_c174 (show i + 4 < L by omega) hL]
  refine oU_V rfl rfl rfl rfl (by omega) (by omega) hr (fun x σ2 h => by obtain ⟨b, h, -⟩ := h; cases h) (fun v σ2 hv => ?_)
  obtain ⟨b, hv, ag, e8, kk2⟩ := hv
  cases hv
  show oU L 10 114 223 [some (.ref 174), some (.ref 0), some (.ref 7), some (.ref 8), some (.int (nI i)), some (.int kk), l6] [.int b] σ2 (c + c') (w + w') Post
  refine oU_N 2 rfl (oU_V rfl rfl rfl rfl (by omega) (by omega) ot_thrown (fun x σ2 h => by cases h.1) (fun v σ3 hv => ?_))
  obtain ⟨hv, rfl⟩ := hv
  cases hv
  show oU L 10 114 229 [some (.ref 174), some (.ref 0), some (.ref 7), some (.ref 8), some (.int (nI i)), some (.int kk), some (.int b)] [.int (σ3 7 0)] σ3 (c + c') (w + w') Post
  have fin : oU L 10 114 253 [some (.ref 174), some (.ref 0), some (.ref 7), some (.ref 8), some (.int (nI i)), some (.int kk), some (.int b)] [] σ3 (c + c') (w + w') Post := oU_N 1 rfl (K σ3 _ _ _ _ kk2 (by omega) (by omega))
  refine oU_N 2 rfl (oU_If (fun _ => ?_) (fun (q : ¬ σ3 7 0 = kk) => absurd ?_ q))
  · rcases q6 with ⟨v, rfl, rfl, q8⟩ | ⟨x, rfl, -, q9⟩
    · obtain ⟨g1, g2⟩ := ag.1 v rfl
      refine oU_N 2 rfl (oU_If (fun _ => ?_) (fun (q : ¬ (0 : Int32) = 0) => absurd rfl q))
      refine oU_N 2 rfl (oU_Ll (o := 8) (n := nI 0) rfl ⟨rfl, by decide⟩ (ox_ix (N := 1) (by decide) (by decide)) ?_)
      rw [show (nI 0).toNatClampNeg = 0 from rfl, show σ3 8 0 = b by rw [e8, q8, g2]]
      refine oU_N 4 rfl (oU_If (fun _ => fin) (fun (q : ¬ lg_cmp b.toInt64 b.toInt64 = 0) => absurd (ox_lc rfl) q))
    · exact oU_N 2 rfl (oU_If (fun (q : kk = 0) => absurd q q9) (fun _ => fin))
  · rcases q6 with ⟨v, rfl, rfl, -⟩ | ⟨x, rfl, q9, -⟩
    · exact (ag.1 v rfl).1
    · rw [q9]; exact ag.2 x rfl
theorem ol_depends {i c w : Nat} {l5 l6 : Option Value} (hi : i + 4 < L) (hL : L ≤ 2560) (hc : c ≤ 600000 - 1) (hw : w ≤ 7000000 - 6) (hop : oOp L 34 56 σ [some (.int (σ 174 (i + 1))), some (.int (σ 174 (i + 2)))] 1 2 (fun _ => 1) (oClb (fun x => x = 1))) (K : ∀ τ c' w' l5 l6, oKk τ → c' ≤ c + 1 → w' ≤ w + 6 → oU L 10 114 1077 [some (.ref 174), some (.ref 0), some (.ref 7), some (.ref 8), some (.int (nI i)), l5, l6] [] τ c' w' Post) : oU L 10 114 256 [some (.ref 174), some (.ref 0), some (.ref 7), some (.ref 8), some (.int (nI i)), l5, l6] [] σ c w Post := by
  obtain ⟨PostC, hcall, hcl, href⟩ := hop
  refine oU_N 5 rfl (oU_I (o := 174) (n := nI i + nI 1) rfl (Or.inr rfl) (ox_174 (by omega) hL) ?_)
  rw [ox_c174 (show i + 1 < L by omega) hL]
  refine oU_N 4 rfl (oU_I (o := 174) (n := nI i + nI 2) rfl (Or.inr rfl) (ox_174 (by omega) hL) ?_)
  rw [ox_c174 (show i + 2 < L by omega) hL]
  refine oU_N 1 rfl (oU_S rfl rfl rfl (by omega) (by omega) (ot_h102 hcall (fun o σ' q => (hcl o σ' q).1)) (fun x σ' c' w' q => by obtain ⟨-, -, kk, o1, σ1, q, -⟩ := oHp_u q (by intro x; show (1 : Int32) ≠ 0; decide); cases q) (fun v τ c' w' q => ?_))
  obtain ⟨q1, q2, kk, o1, σ1, q3, q4, q5, q6⟩ := oHp_u q (by intro x; show (1 : Int32) ≠ 0; decide)
  cases q3
  have e174 : τ 174 = σ 174 := by rw [q5 174 (by decide)]; exact (hcl o1 σ1 q4).2
  have hr := href o1 σ1 τ q4 q5
  rw [← e174] at hr
  show oU L 10 114 273 [some (.ref 174), some (.ref 0), some (.ref 7), some (.ref 8), some (.int (nI i)), l5, l6] [.int kk] τ (c + c') (w + w') Post
  refine oU_N 6 rfl (oU_I (o := 174) (n := nI i + nI 1) rfl (Or.inr rfl) (ox_174 (by omega) hL) ?_)
  rw [ox_c174 (show i + 1 < L by omega) hL]
  refine oU_N 4 rfl (oU_I (o := 174) (n := nI i + nI 2) rfl (Or.inr rfl) (ox_174 (by omega) hL) ?_)
  rw [ox_c174 (show i + 2 < L by omega) hL]
  refine oU_V rfl rfl rfl rfl (by omega) (by omega) hr (fun x σ2 h => by obtain ⟨b, h, -⟩ := h; cases h) (fun v σ2 hv => ?_)
  obtain ⟨b, hv, ag, e8, kk2⟩ := hv
  cases hv
  show oU L 10 114 291 [some (.ref 174), some (.ref 0), some (.ref 7), some (.ref 8), some (.int (nI i)), some (.int kk), l6] [.int b] σ2 (c + c') (w + w') Post
  refine oU_N 2 rfl (oU_V rfl rfl rfl rfl (by omega) (by omega) ot_thrown (fun x σ2 h => by cases h.1) (fun v σ3 hv => ?_))
  obtain ⟨hv, rfl⟩ := hv
  cases hv
  show oU L 10 114 297 [some (.ref 174), some (.ref 0), some (.ref 7), some (.ref 8), some (.int (nI i)), some (.int kk), some (.int b)] [.int (σ3 7 0)] σ3 (c + c') (w + w') Post
  have fin : oU L 10 114 328 [some (.ref 174), some (.ref 0), some (.ref 7), some (.ref 8), some (.int (nI i)), some (.int kk), some (.int b)] [] σ3 (c + c') (w + w') Post := oU_N 1 rfl (K σ3 _ _ _ _ kk2 (by omega) (by omega))
  refine oU_N 2 rfl (oU_If (fun _ => ?_) (fun (q : ¬ σ3 7 0 = kk) => absurd ?_ q))
  · rcases q6 with ⟨v, rfl, rfl, q8⟩ | ⟨x, rfl, -, q9⟩
    · obtain ⟨g1, g2⟩ := ag.1 v rfl
      refine oU_N 2 rfl (oU_If (fun _ => ?_) (fun (q : ¬ (0 : Int32) = 0) => absurd rfl q))
      refine oU_N 2 rfl (oU_Ll (o := 8) (n := nI 0) rfl ⟨rfl, by decide⟩ (ox_ix (N := 1) (by decide) (by decide)) ?_)
      rw [show (nI 0).toNatClampNeg = 0 from rfl, show σ3 8 0 = b by rw [e8, q8, g2]]
      have hbt : ∃ t : Bool, b = if t then 1 else 0 := by
        rcases (hcl _ σ1 q4).1 with ⟨t, e⟩ | ⟨x, e, -⟩
        · cases e
          exact ⟨t, g2⟩
        · cases e
      obtain ⟨t, ht⟩ := hbt
      refine oU_N 2 rfl (oU_If (fun (q : b = 0) => ?_) (fun (q : ¬ b = 0) => ?_))
      · refine oU_N 3 rfl (oU_If (fun _ => fin) (fun (q2 : ¬ lg_cmp b.toInt64 (Int64.ofNat 0) = 0) => absurd (ox_lc ?_) q2))
        rw [q]
        decide
      · have hb1 : b = 1 := by
          cases t with
          | true => exact ht
          | false => exact absurd ht q
        refine oU_N 4 rfl (oU_If (fun _ => fin) (fun (q2 : ¬ lg_cmp b.toInt64 (Int64.ofNat 1) = 0) => absurd (ox_lc ?_) q2))
        rw [hb1]
        decide
    · exact oU_N 2 rfl (oU_If (fun (q : kk = 0) => absurd q q9) (fun _ => fin))
  · rcases q6 with ⟨v, rfl, rfl, -⟩ | ⟨x, rfl, q9, -⟩
    · exact (ag.1 v rfl).1
    · rw [q9]; exact ag.2 x rfl
theorem ol_make {i c w : Nat} {l5 l6 : Option Value} (hi : i + 4 < L) (hL : L ≤ 2560) (hc : c ≤ 600000 - 1) (hw : w ≤ 7000000 - 6) (hop : oOp L 35 59 σ [some (.int (σ 174 (i + 1))), some (.int (σ 174 (i + 2))), some (.int (σ 174 (i + 3)))] 0 1 (fun x => if x = 1 then 1 else 2) (oClv (fun x => x = 1 ∨ x = 0))) (K : ∀ τ c' w' l5 l6, oKk τ → c' ≤ c + 1 → w' ≤ w + 6 → oU L 10 114 1077 [some (.ref 174), some (.ref 0), some (.ref 7), some (.ref 8), some (.int (nI i)), l5, l6] [] τ c' w' Post) : oU L 10 114 331 [some (.ref 174), some (.ref 0), some (.ref 7), some (.ref 8), some (.int (nI i)), l5, l6] [] σ c w Post := by
  obtain ⟨PostC, hcall, hcl, href⟩ := hop
  refine oU_N 5 rfl (oU_I (o := 174) (n := nI i + nI 1) rfl (Or.inr rfl) (ox_174 (by omega) hL) ?_)
  rw [ox_c174 (show i + 1 < L by omega) hL]
  refine oU_N 4 rfl (oU_I (o := 174) (n := nI i + nI 2) rfl (Or.inr rfl) (ox_174 (by omega) hL) ?_)
  rw [ox_c174 (show i + 2 < L by omega) hL]
  refine oU_N 4 rfl (oU_I (o := 174) (n := nI i + nI 3) rfl (Or.inr rfl) (ox_174 (by omega) hL) ?_)
  rw [ox_c174 (show i + 3 < L by omega) hL]
  refine oU_N 1 rfl (oU_S rfl rfl rfl (by omega) (by omega) (ot_h103 hcall (fun o σ' q => (hcl o σ' q).1)) (fun x σ' c' w' q => by obtain ⟨-, -, kk, o1, σ1, q, -⟩ := oHp_u q (by intro x; show (if x = 1 then (1 : Int32) else 2) ≠ 0; split <;> decide); cases q) (fun v τ c' w' q => ?_))
  obtain ⟨q1, q2, kk, o1, σ1, q3, q4, q5, q6⟩ := oHp_u q (by intro x; show (if x = 1 then (1 : Int32) else 2) ≠ 0; split <;> decide)
  cases q3
  have e174 : τ 174 = σ 174 := by rw [q5 174 (by decide)]; exact (hcl o1 σ1 q4).2
  have hr := href o1 σ1 τ q4 q5
  rw [← e174] at hr
  show oU L 10 114 354 [some (.ref 174), some (.ref 0), some (.ref 7), some (.ref 8), some (.int (nI i)), l5, l6] [.int kk] τ (c + c') (w + w') Post
  refine oU_N 6 rfl (oU_I (o := 174) (n := nI i + nI 1) rfl (Or.inr rfl) (ox_174 (by omega) hL) ?_)
  rw [ox_c174 (show i + 1 < L by omega) hL]
  refine oU_N 4 rfl (oU_I (o := 174) (n := nI i + nI 2) rfl (Or.inr rfl) (ox_174 (by omega) hL) ?_)
  rw [ox_c174 (show i + 2 < L by omega) hL]
  refine oU_N 4 rfl (oU_I (o := 174) (n := nI i + nI 3) rfl (Or.inr rfl) (ox_174 (by omega) hL) ?_)
  rw [ox_c174 (show i + 3 < L by omega) hL]
  refine oU_V rfl rfl rfl rfl (by omega) (by omega) hr (fun x σ2 h => by obtain ⟨b, h, -⟩ := h; cases h) (fun v σ2 hv => ?_)
  obtain ⟨b, hv, ag, e8, kk2⟩ := hv
  cases hv
  show oU L 10 114 378 [some (.ref 174), some (.ref 0), some (.ref 7), some (.ref 8), some (.int (nI i)), some (.int kk), l6] [.int b] σ2 (c + c') (w + w') Post
  refine oU_N 2 rfl (oU_V rfl rfl rfl rfl (by omega) (by omega) ot_thrown (fun x σ2 h => by cases h.1) (fun v σ3 hv => ?_))
  obtain ⟨hv, rfl⟩ := hv
  cases hv
  show oU L 10 114 384 [some (.ref 174), some (.ref 0), some (.ref 7), some (.ref 8), some (.int (nI i)), some (.int kk), some (.int b)] [.int (σ3 7 0)] σ3 (c + c') (w + w') Post
  have fin : oU L 10 114 408 [some (.ref 174), some (.ref 0), some (.ref 7), some (.ref 8), some (.int (nI i)), some (.int kk), some (.int b)] [] σ3 (c + c') (w + w') Post := oU_N 1 rfl (K σ3 _ _ _ _ kk2 (by omega) (by omega))
  refine oU_N 2 rfl (oU_If (fun _ => ?_) (fun (q : ¬ σ3 7 0 = kk) => absurd ?_ q))
  · rcases q6 with ⟨v, rfl, rfl, q8⟩ | ⟨x, rfl, -, q9⟩
    · obtain ⟨g1, g2⟩ := ag.1 v rfl
      refine oU_N 2 rfl (oU_If (fun _ => ?_) (fun (q : ¬ (0 : Int32) = 0) => absurd rfl q))
      refine oU_N 2 rfl (oU_Ll (o := 8) (n := nI 0) rfl ⟨rfl, by decide⟩ (ox_ix (N := 1) (by decide) (by decide)) ?_)
      rw [show (nI 0).toNatClampNeg = 0 from rfl, show σ3 8 0 = b by rw [e8, q8, g2]]
      refine oU_N 4 rfl (oU_If (fun _ => fin) (fun (q : ¬ lg_cmp b.toInt64 b.toInt64 = 0) => absurd (ox_lc rfl) q))
    · exact oU_N 2 rfl (oU_If (fun (q : kk = 0) => absurd q q9) (fun _ => fin))
  · rcases q6 with ⟨v, rfl, rfl, -⟩ | ⟨x, rfl, q9, -⟩
    · exact (ag.1 v rfl).1
    · rw [q9]; exact ag.2 x rfl
theorem ol_rule {i c w : Nat} {l5 l6 : Option Value} (hi : i + 4 < L) (hL : L ≤ 2560) (hc : c ≤ 600000 - 1) (hw : w ≤ 7000000 - 6) (hop : oOp L 36 60 σ [some (.int (σ 174 (i + 1)))] 0 0 (fun x => if x = 1 then 1 else 2) (oClv (fun x => x = 1 ∨ x = 0))) (K : ∀ τ c' w' l5 l6, oKk τ → c' ≤ c + 1 → w' ≤ w + 6 → oU L 10 114 1077 [some (.ref 174), some (.ref 0), some (.ref 7), some (.ref 8), some (.int (nI i)), l5, l6] [] τ c' w' Post) : oU L 10 114 411 [some (.ref 174), some (.ref 0), some (.ref 7), some (.ref 8), some (.int (nI i)), l5, l6] [] σ c w Post := by
  obtain ⟨PostC, hcall, hcl, href⟩ := hop
  refine oU_N 5 rfl (oU_I (o := 174) (n := nI i + nI 1) rfl (Or.inr rfl) (ox_174 (by omega) hL) ?_)
  rw [ox_c174 (show i + 1 < L by omega) hL]
  refine oU_N 1 rfl (oU_S rfl rfl rfl (by omega) (by omega) (ot_h104 hcall (fun o σ' q => (hcl o σ' q).1)) (fun x σ' c' w' q => by obtain ⟨-, -, kk, o1, σ1, q, -⟩ := oHp_u q (by intro x; show (if x = 1 then (1 : Int32) else 2) ≠ 0; split <;> decide); cases q) (fun v τ c' w' q => ?_))
  obtain ⟨q1, q2, kk, o1, σ1, q3, q4, q5, q6⟩ := oHp_u q (by intro x; show (if x = 1 then (1 : Int32) else 2) ≠ 0; split <;> decide)
  cases q3
  have e174 : τ 174 = σ 174 := by rw [q5 174 (by decide)]; exact (hcl o1 σ1 q4).2
  have hr := href o1 σ1 τ q4 q5
  rw [← e174] at hr
  show oU L 10 114 422 [some (.ref 174), some (.ref 0), some (.ref 7), some (.ref 8), some (.int (nI i)), l5, l6] [.int kk] τ (c + c') (w + w') Post
  refine oU_N 6 rfl (oU_I (o := 174) (n := nI i + nI 1) rfl (Or.inr rfl) (ox_174 (by omega) hL) ?_)
  rw [ox_c174 (show i + 1 < L by omega) hL]
  refine oU_V rfl rfl rfl rfl (by omega) (by omega) hr (fun x σ2 h => by obtain ⟨b, h, -⟩ := h; cases h) (fun v σ2 hv => ?_)
  obtain ⟨b, hv, ag, e8, kk2⟩ := hv
  cases hv
  show oU L 10 114 434 [some (.ref 174), some (.ref 0), some (.ref 7), some (.ref 8), some (.int (nI i)), some (.int kk), l6] [.int b] σ2 (c + c') (w + w') Post
  refine oU_N 2 rfl (oU_V rfl rfl rfl rfl (by omega) (by omega) ot_thrown (fun x σ2 h => by cases h.1) (fun v σ3 hv => ?_))
  obtain ⟨hv, rfl⟩ := hv
  cases hv
  show oU L 10 114 440 [some (.ref 174), some (.ref 0), some (.ref 7), some (.ref 8), some (.int (nI i)), some (.int kk), some (.int b)] [.int (σ3 7 0)] σ3 (c + c') (w + w') Post
  have fin : oU L 10 114 464 [some (.ref 174), some (.ref 0), some (.ref 7), some (.ref 8), some (.int (nI i)), some (.int kk), some (.int b)] [] σ3 (c + c') (w + w') Post := oU_N 1 rfl (K σ3 _ _ _ _ kk2 (by omega) (by omega))
  refine oU_N 2 rfl (oU_If (fun _ => ?_) (fun (q : ¬ σ3 7 0 = kk) => absurd ?_ q))
  · rcases q6 with ⟨v, rfl, rfl, q8⟩ | ⟨x, rfl, -, q9⟩
    · obtain ⟨g1, g2⟩ := ag.1 v rfl
      refine oU_N 2 rfl (oU_If (fun _ => ?_) (fun (q : ¬ (0 : Int32) = 0) => absurd rfl q))
      refine oU_N 2 rfl (oU_Ll (o := 8) (n := nI 0) rfl ⟨rfl, by decide⟩ (ox_ix (N := 1) (by decide) (by decide)) ?_)
      rw [show (nI 0).toNatClampNeg = 0 from rfl, show σ3 8 0 = b by rw [e8, q8, g2]]
      refine oU_N 4 rfl (oU_If (fun _ => fin) (fun (q : ¬ lg_cmp b.toInt64 b.toInt64 = 0) => absurd (ox_lc rfl) q))
    · exact oU_N 2 rfl (oU_If (fun (q : kk = 0) => absurd q q9) (fun _ => fin))
  · rcases q6 with ⟨v, rfl, rfl, -⟩ | ⟨x, rfl, q9, -⟩
    · exact (ag.1 v rfl).1
    · rw [q9]; exact ag.2 x rfl
theorem ol_given {i c w : Nat} {l5 l6 : Option Value} (hi : i + 4 < L) (hL : L ≤ 2560) (hc : c ≤ 600000 - 1) (hw : w ≤ 7000000 - 6) (hop : oOp L 37 62 σ [some (.int (σ 174 (i + 1)))] 0 1 (fun _ => 1) (oClv (fun x => x = 1))) (K : ∀ τ c' w' l5 l6, oKk τ → c' ≤ c + 1 → w' ≤ w + 6 → oU L 10 114 1077 [some (.ref 174), some (.ref 0), some (.ref 7), some (.ref 8), some (.int (nI i)), l5, l6] [] τ c' w' Post) : oU L 10 114 467 [some (.ref 174), some (.ref 0), some (.ref 7), some (.ref 8), some (.int (nI i)), l5, l6] [] σ c w Post := by
  obtain ⟨PostC, hcall, hcl, href⟩ := hop
  refine oU_N 5 rfl (oU_I (o := 174) (n := nI i + nI 1) rfl (Or.inr rfl) (ox_174 (by omega) hL) ?_)
  rw [ox_c174 (show i + 1 < L by omega) hL]
  refine oU_N 1 rfl (oU_S rfl rfl rfl (by omega) (by omega) (ot_h105 hcall (fun o σ' q => (hcl o σ' q).1)) (fun x σ' c' w' q => by obtain ⟨-, -, kk, o1, σ1, q, -⟩ := oHp_u q (by intro x; show (1 : Int32) ≠ 0; decide); cases q) (fun v τ c' w' q => ?_))
  obtain ⟨q1, q2, kk, o1, σ1, q3, q4, q5, q6⟩ := oHp_u q (by intro x; show (1 : Int32) ≠ 0; decide)
  cases q3
  have e174 : τ 174 = σ 174 := by rw [q5 174 (by decide)]; exact (hcl o1 σ1 q4).2
  have hr := href o1 σ1 τ q4 q5
  rw [← e174] at hr
  show oU L 10 114 478 [some (.ref 174), some (.ref 0), some (.ref 7), some (.ref 8), some (.int (nI i)), l5, l6] [.int kk] τ (c + c') (w + w') Post
  refine oU_N 6 rfl (oU_I (o := 174) (n := nI i + nI 1) rfl (Or.inr rfl) (ox_174 (by omega) hL) ?_)
  rw [ox_c174 (show i + 1 < L by omega) hL]
  refine oU_V rfl rfl rfl rfl (by omega) (by omega) hr (fun x σ2 h => by obtain ⟨b, h, -⟩ := h; cases h) (fun v σ2 hv => ?_)
  obtain ⟨b, hv, ag, e8, kk2⟩ := hv
  cases hv
  show oU L 10 114 490 [some (.ref 174), some (.ref 0), some (.ref 7), some (.ref 8), some (.int (nI i)), some (.int kk), l6] [.int b] σ2 (c + c') (w + w') Post
  refine oU_N 2 rfl (oU_V rfl rfl rfl rfl (by omega) (by omega) ot_thrown (fun x σ2 h => by cases h.1) (fun v σ3 hv => ?_))
  obtain ⟨hv, rfl⟩ := hv
  cases hv
  show oU L 10 114 496 [some (.ref 174), some (.ref 0), some (.ref 7), some (.ref 8), some (.int (nI i)), some (.int kk), some (.int b)] [.int (σ3 7 0)] σ3 (c + c') (w + w') Post
  have fin : oU L 10 114 520 [some (.ref 174), some (.ref 0), some (.ref 7), some (.ref 8), some (.int (nI i)), some (.int kk), some (.int b)] [] σ3 (c + c') (w + w') Post := oU_N 1 rfl (K σ3 _ _ _ _ kk2 (by omega) (by omega))
  refine oU_N 2 rfl (oU_If (fun _ => ?_) (fun (q : ¬ σ3 7 0 = kk) => absurd ?_ q))
  · rcases q6 with ⟨v, rfl, rfl, q8⟩ | ⟨x, rfl, -, q9⟩
    · obtain ⟨g1, g2⟩ := ag.1 v rfl
      refine oU_N 2 rfl (oU_If (fun _ => ?_) (fun (q : ¬ (0 : Int32) = 0) => absurd rfl q))
      refine oU_N 2 rfl (oU_Ll (o := 8) (n := nI 0) rfl ⟨rfl, by decide⟩ (ox_ix (N := 1) (by decide) (by decide)) ?_)
      rw [show (nI 0).toNatClampNeg = 0 from rfl, show σ3 8 0 = b by rw [e8, q8, g2]]
      refine oU_N 4 rfl (oU_If (fun _ => fin) (fun (q : ¬ lg_cmp b.toInt64 b.toInt64 = 0) => absurd (ox_lc rfl) q))
    · exact oU_N 2 rfl (oU_If (fun (q : kk = 0) => absurd q q9) (fun _ => fin))
  · rcases q6 with ⟨v, rfl, rfl, -⟩ | ⟨x, rfl, q9, -⟩
    · exact (ag.1 v rfl).1
    · rw [q9]; exact ag.2 x rfl
theorem ol_run {i c w : Nat} {l5 l6 : Option Value} (hi : i + 4 < L) (hL : L ≤ 2560) (hc : c ≤ 600000 - 1) (hw : w ≤ 7000000 - 6) (hop : oOp L 38 81 σ [] 2 2 (fun _ => 1) (oClv (fun x => x = 0))) (K : ∀ τ c' w' l5 l6, oKk τ → c' ≤ c + 1 → w' ≤ w + 6 → oU L 10 114 1077 [some (.ref 174), some (.ref 0), some (.ref 7), some (.ref 8), some (.int (nI i)), l5, l6] [] τ c' w' Post) : oU L 10 114 523 [some (.ref 174), some (.ref 0), some (.ref 7), some (.ref 8), some (.int (nI i)), l5, l6] [] σ c w Post := by
  obtain ⟨PostC, hcall, hcl, href⟩ := hop
  refine oU_N 2 rfl (oU_S rfl rfl rfl (by omega) (by omega) (ot_h106 hcall (fun o σ' q => (hcl o σ' q).1)) (fun x σ' c' w' q => by obtain ⟨-, -, kk, o1, σ1, q, -⟩ := oHp_u q (by intro x; show (1 : Int32) ≠ 0; decide); cases q) (fun v τ c' w' q => ?_))
  obtain ⟨q1, q2, kk, o1, σ1, q3, q4, q5, q6⟩ := oHp_u q (by intro x; show (1 : Int32) ≠ 0; decide)
  cases q3
  have e174 : τ 174 = σ 174 := by rw [q5 174 (by decide)]; exact (hcl o1 σ1 q4).2
  have hr := href o1 σ1 τ q4 q5
  show oU L 10 114 528 [some (.ref 174), some (.ref 0), some (.ref 7), some (.ref 8), some (.int (nI i)), l5, l6] [.int kk] τ (c + c') (w + w') Post
  refine oU_N 2 rfl (oU_V rfl rfl rfl rfl (by omega) (by omega) hr (fun x σ2 h => by obtain ⟨b, h, -⟩ := h; cases h) (fun v σ2 hv => ?_))
  obtain ⟨b, hv, ag, e8, kk2⟩ := hv
  cases hv
  show oU L 10 114 534 [some (.ref 174), some (.ref 0), some (.ref 7), some (.ref 8), some (.int (nI i)), some (.int kk), l6] [.int b] σ2 (c + c') (w + w') Post
  refine oU_N 2 rfl (oU_V rfl rfl rfl rfl (by omega) (by omega) ot_thrown (fun x σ2 h => by cases h.1) (fun v σ3 hv => ?_))
  obtain ⟨hv, rfl⟩ := hv
  cases hv
  show oU L 10 114 540 [some (.ref 174), some (.ref 0), some (.ref 7), some (.ref 8), some (.int (nI i)), some (.int kk), some (.int b)] [.int (σ3 7 0)] σ3 (c + c') (w + w') Post
  have fin : oU L 10 114 564 [some (.ref 174), some (.ref 0), some (.ref 7), some (.ref 8), some (.int (nI i)), some (.int kk), some (.int b)] [] σ3 (c + c') (w + w') Post := oU_N 1 rfl (K σ3 _ _ _ _ kk2 (by omega) (by omega))
  refine oU_N 2 rfl (oU_If (fun _ => ?_) (fun (q : ¬ σ3 7 0 = kk) => absurd ?_ q))
  · rcases q6 with ⟨v, rfl, rfl, q8⟩ | ⟨x, rfl, -, q9⟩
    · obtain ⟨g1, g2⟩ := ag.1 v rfl
      refine oU_N 2 rfl (oU_If (fun _ => ?_) (fun (q : ¬ (0 : Int32) = 0) => absurd rfl q))
      refine oU_N 2 rfl (oU_Ll (o := 8) (n := nI 0) rfl ⟨rfl, by decide⟩ (ox_ix (N := 1) (by decide) (by decide)) ?_)
      rw [show (nI 0).toNatClampNeg = 0 from rfl, show σ3 8 0 = b by rw [e8, q8, g2]]
      refine oU_N 4 rfl (oU_If (fun _ => fin) (fun (q : ¬ lg_cmp b.toInt64 b.toInt64 = 0) => absurd (ox_lc rfl) q))
    · exact oU_N 2 rfl (oU_If (fun (q : kk = 0) => absurd q q9) (fun _ => fin))
  · rcases q6 with ⟨v, rfl, rfl, -⟩ | ⟨x, rfl, q9, -⟩
    · exact (ag.1 v rfl).1
    · rw [q9]; exact ag.2 x rfl
theorem ol_outcome {i c w : Nat} {l5 l6 : Option Value} (hi : i + 4 < L) (hL : L ≤ 2560) (hc : c ≤ 600000 - 1) (hw : w ≤ 7000000 - 6) (hop : oOp L 39 82 σ [some (.int (σ 174 (i + 1))), some (.int (σ 174 (i + 2)))] 0 0 (fun _ => 1) (oClv (fun x => x = 2))) (K : ∀ τ c' w' l5 l6, oKk τ → c' ≤ c + 1 → w' ≤ w + 6 → oU L 10 114 1077 [some (.ref 174), some (.ref 0), some (.ref 7), some (.ref 8), some (.int (nI i)), l5, l6] [] τ c' w' Post) : oU L 10 114 567 [some (.ref 174), some (.ref 0), some (.ref 7), some (.ref 8), some (.int (nI i)), l5, l6] [] σ c w Post := by
  obtain ⟨PostC, hcall, hcl, href⟩ := hop
  refine oU_N 5 rfl (oU_I (o := 174) (n := nI i + nI 1) rfl (Or.inr rfl) (ox_174 (by omega) hL) ?_)
  rw [ox_c174 (show i + 1 < L by omega) hL]
  refine oU_N 4 rfl (oU_I (o := 174) (n := nI i + nI 2) rfl (Or.inr rfl) (ox_174 (by omega) hL) ?_)
  rw [ox_c174 (show i + 2 < L by omega) hL]
  refine oU_N 1 rfl (oU_S rfl rfl rfl (by omega) (by omega) (ot_h107 hcall (fun o σ' q => (hcl o σ' q).1)) (fun x σ' c' w' q => by obtain ⟨-, -, kk, o1, σ1, q, -⟩ := oHp_u q (by intro x; show (1 : Int32) ≠ 0; decide); cases q) (fun v τ c' w' q => ?_))
  obtain ⟨q1, q2, kk, o1, σ1, q3, q4, q5, q6⟩ := oHp_u q (by intro x; show (1 : Int32) ≠ 0; decide)
  cases q3
  have e174 : τ 174 = σ 174 := by rw [q5 174 (by decide)]; exact (hcl o1 σ1 q4).2
  have hr := href o1 σ1 τ q4 q5
  rw [← e174] at hr
  show oU L 10 114 584 [some (.ref 174), some (.ref 0), some (.ref 7), some (.ref 8), some (.int (nI i)), l5, l6] [.int kk] τ (c + c') (w + w') Post
  refine oU_N 6 rfl (oU_I (o := 174) (n := nI i + nI 1) rfl (Or.inr rfl) (ox_174 (by omega) hL) ?_)
  rw [ox_c174 (show i + 1 < L by omega) hL]
  refine oU_N 4 rfl (oU_I (o := 174) (n := nI i + nI 2) rfl (Or.inr rfl) (ox_174 (by omega) hL) ?_)
  rw [ox_c174 (show i + 2 < L by omega) hL]
  refine oU_V rfl rfl rfl rfl (by omega) (by omega) hr (fun x σ2 h => by obtain ⟨b, h, -⟩ := h; cases h) (fun v σ2 hv => ?_)
  obtain ⟨b, hv, ag, e8, kk2⟩ := hv
  cases hv
  show oU L 10 114 602 [some (.ref 174), some (.ref 0), some (.ref 7), some (.ref 8), some (.int (nI i)), some (.int kk), l6] [.int b] σ2 (c + c') (w + w') Post
  refine oU_N 2 rfl (oU_V rfl rfl rfl rfl (by omega) (by omega) ot_thrown (fun x σ2 h => by cases h.1) (fun v σ3 hv => ?_))
  obtain ⟨hv, rfl⟩ := hv
  cases hv
  show oU L 10 114 608 [some (.ref 174), some (.ref 0), some (.ref 7), some (.ref 8), some (.int (nI i)), some (.int kk), some (.int b)] [.int (σ3 7 0)] σ3 (c + c') (w + w') Post
  have fin : oU L 10 114 632 [some (.ref 174), some (.ref 0), some (.ref 7), some (.ref 8), some (.int (nI i)), some (.int kk), some (.int b)] [] σ3 (c + c') (w + w') Post := oU_N 1 rfl (K σ3 _ _ _ _ kk2 (by omega) (by omega))
  refine oU_N 2 rfl (oU_If (fun _ => ?_) (fun (q : ¬ σ3 7 0 = kk) => absurd ?_ q))
  · rcases q6 with ⟨v, rfl, rfl, q8⟩ | ⟨x, rfl, -, q9⟩
    · obtain ⟨g1, g2⟩ := ag.1 v rfl
      refine oU_N 2 rfl (oU_If (fun _ => ?_) (fun (q : ¬ (0 : Int32) = 0) => absurd rfl q))
      refine oU_N 2 rfl (oU_Ll (o := 8) (n := nI 0) rfl ⟨rfl, by decide⟩ (ox_ix (N := 1) (by decide) (by decide)) ?_)
      rw [show (nI 0).toNatClampNeg = 0 from rfl, show σ3 8 0 = b by rw [e8, q8, g2]]
      refine oU_N 4 rfl (oU_If (fun _ => fin) (fun (q : ¬ lg_cmp b.toInt64 b.toInt64 = 0) => absurd (ox_lc rfl) q))
    · exact oU_N 2 rfl (oU_If (fun (q : kk = 0) => absurd q q9) (fun _ => fin))
  · rcases q6 with ⟨v, rfl, rfl, -⟩ | ⟨x, rfl, q9, -⟩
    · exact (ag.1 v rfl).1
    · rw [q9]; exact ag.2 x rfl
theorem ol_witness {i c w : Nat} {l5 l6 : Option Value} (hi : i + 4 < L) (hL : L ≤ 2560) (hc : c ≤ 600000 - 1) (hw : w ≤ 7000000 - 6) (hop : oOp L 40 83 σ [some (.int (σ 174 (i + 1))), some (.int (σ 174 (i + 2)))] 0 0 (fun _ => 1) (oClv (fun x => x = 2))) (K : ∀ τ c' w' l5 l6, oKk τ → c' ≤ c + 1 → w' ≤ w + 6 → oU L 10 114 1077 [some (.ref 174), some (.ref 0), some (.ref 7), some (.ref 8), some (.int (nI i)), l5, l6] [] τ c' w' Post) : oU L 10 114 635 [some (.ref 174), some (.ref 0), some (.ref 7), some (.ref 8), some (.int (nI i)), l5, l6] [] σ c w Post := by
  obtain ⟨PostC, hcall, hcl, href⟩ := hop
  refine oU_N 5 rfl (oU_I (o := 174) (n := nI i + nI 1) rfl (Or.inr rfl) (ox_174 (by omega) hL) ?_)
  rw [ox_c174 (show i + 1 < L by omega) hL]
  refine oU_N 4 rfl (oU_I (o := 174) (n := nI i + nI 2) rfl (Or.inr rfl) (ox_174 (by omega) hL) ?_)
  rw [ox_c174 (show i + 2 < L by omega) hL]
  refine oU_N 1 rfl (oU_S rfl rfl rfl (by omega) (by omega) (ot_h108 hcall (fun o σ' q => (hcl o σ' q).1)) (fun x σ' c' w' q => by obtain ⟨-, -, kk, o1, σ1, q, -⟩ := oHp_u q (by intro x; show (1 : Int32) ≠ 0; decide); cases q) (fun v τ c' w' q => ?_))
  obtain ⟨q1, q2, kk, o1, σ1, q3, q4, q5, q6⟩ := oHp_u q (by intro x; show (1 : Int32) ≠ 0; decide)
  cases q3
  have e174 : τ 174 = σ 174 := by rw [q5 174 (by decide)]; exact (hcl o1 σ1 q4).2
  have hr := href o1 σ1 τ q4 q5
  rw [← e174] at hr
  show oU L 10 114 652 [some (.ref 174), some (.ref 0), some (.ref 7), some (.ref 8), some (.int (nI i)), l5, l6] [.int kk] τ (c + c') (w + w') Post
  refine oU_N 6 rfl (oU_I (o := 174) (n := nI i + nI 1) rfl (Or.inr rfl) (ox_174 (by omega) hL) ?_)
  rw [ox_c174 (show i + 1 < L by omega) hL]
  refine oU_N 4 rfl (oU_I (o := 174) (n := nI i + nI 2) rfl (Or.inr rfl) (ox_174 (by omega) hL) ?_)
  rw [ox_c174 (show i + 2 < L by omega) hL]
  refine oU_V rfl rfl rfl rfl (by omega) (by omega) hr (fun x σ2 h => by obtain ⟨b, h, -⟩ := h; cases h) (fun v σ2 hv => ?_)
  obtain ⟨b, hv, ag, e8, kk2⟩ := hv
  cases hv
  show oU L 10 114 670 [some (.ref 174), some (.ref 0), some (.ref 7), some (.ref 8), some (.int (nI i)), some (.int kk), l6] [.int b] σ2 (c + c') (w + w') Post
  refine oU_N 2 rfl (oU_V rfl rfl rfl rfl (by omega) (by omega) ot_thrown (fun x σ2 h => by cases h.1) (fun v σ3 hv => ?_))
  obtain ⟨hv, rfl⟩ := hv
  cases hv
  show oU L 10 114 676 [some (.ref 174), some (.ref 0), some (.ref 7), some (.ref 8), some (.int (nI i)), some (.int kk), some (.int b)] [.int (σ3 7 0)] σ3 (c + c') (w + w') Post
  have fin : oU L 10 114 700 [some (.ref 174), some (.ref 0), some (.ref 7), some (.ref 8), some (.int (nI i)), some (.int kk), some (.int b)] [] σ3 (c + c') (w + w') Post := oU_N 1 rfl (K σ3 _ _ _ _ kk2 (by omega) (by omega))
  refine oU_N 2 rfl (oU_If (fun _ => ?_) (fun (q : ¬ σ3 7 0 = kk) => absurd ?_ q))
  · rcases q6 with ⟨v, rfl, rfl, q8⟩ | ⟨x, rfl, -, q9⟩
    · obtain ⟨g1, g2⟩ := ag.1 v rfl
      refine oU_N 2 rfl (oU_If (fun _ => ?_) (fun (q : ¬ (0 : Int32) = 0) => absurd rfl q))
      refine oU_N 2 rfl (oU_Ll (o := 8) (n := nI 0) rfl ⟨rfl, by decide⟩ (ox_ix (N := 1) (by decide) (by decide)) ?_)
      rw [show (nI 0).toNatClampNeg = 0 from rfl, show σ3 8 0 = b by rw [e8, q8, g2]]
      refine oU_N 4 rfl (oU_If (fun _ => fin) (fun (q : ¬ lg_cmp b.toInt64 b.toInt64 = 0) => absurd (ox_lc rfl) q))
    · exact oU_N 2 rfl (oU_If (fun (q : kk = 0) => absurd q q9) (fun _ => fin))
  · rcases q6 with ⟨v, rfl, rfl, -⟩ | ⟨x, rfl, q9, -⟩
    · exact (ag.1 v rfl).1
    · rw [q9]; exact ag.2 x rfl
theorem ol_look {i c w : Nat} {l5 l6 : Option Value} (hi : i + 4 < L) (hL : L ≤ 2560) (hc : c ≤ 600000 - 1) (hw : w ≤ 7000000 - 6) (hop : oOp L 41 85 σ [some (.int (σ 174 (i + 1)))] 2 3 (fun x => if x = 2 then 1 else 2) (oClv (fun x => x = 2 ∨ x = 0))) (K : ∀ τ c' w' l5 l6, oKk τ → c' ≤ c + 1 → w' ≤ w + 6 → oU L 10 114 1077 [some (.ref 174), some (.ref 0), some (.ref 7), some (.ref 8), some (.int (nI i)), l5, l6] [] τ c' w' Post) : oU L 10 114 703 [some (.ref 174), some (.ref 0), some (.ref 7), some (.ref 8), some (.int (nI i)), l5, l6] [] σ c w Post := by
  obtain ⟨PostC, hcall, hcl, href⟩ := hop
  refine oU_N 5 rfl (oU_I (o := 174) (n := nI i + nI 1) rfl (Or.inr rfl) (ox_174 (by omega) hL) ?_)
  rw [ox_c174 (show i + 1 < L by omega) hL]
  refine oU_N 1 rfl (oU_S rfl rfl rfl (by omega) (by omega) (ot_h109 hcall (fun o σ' q => (hcl o σ' q).1)) (fun x σ' c' w' q => by obtain ⟨-, -, kk, o1, σ1, q, -⟩ := oHp_u q (by intro x; show (if x = 2 then (1 : Int32) else 2) ≠ 0; split <;> decide); cases q) (fun v τ c' w' q => ?_))
  obtain ⟨q1, q2, kk, o1, σ1, q3, q4, q5, q6⟩ := oHp_u q (by intro x; show (if x = 2 then (1 : Int32) else 2) ≠ 0; split <;> decide)
  cases q3
  have e174 : τ 174 = σ 174 := by rw [q5 174 (by decide)]; exact (hcl o1 σ1 q4).2
  have hr := href o1 σ1 τ q4 q5
  rw [← e174] at hr
  show oU L 10 114 714 [some (.ref 174), some (.ref 0), some (.ref 7), some (.ref 8), some (.int (nI i)), l5, l6] [.int kk] τ (c + c') (w + w') Post
  refine oU_N 6 rfl (oU_I (o := 174) (n := nI i + nI 1) rfl (Or.inr rfl) (ox_174 (by omega) hL) ?_)
  rw [ox_c174 (show i + 1 < L by omega) hL]
  refine oU_V rfl rfl rfl rfl (by omega) (by omega) hr (fun x σ2 h => by obtain ⟨b, h, -⟩ := h; cases h) (fun v σ2 hv => ?_)
  obtain ⟨b, hv, ag, e8, kk2⟩ := hv
  cases hv
  show oU L 10 114 726 [some (.ref 174), some (.ref 0), some (.ref 7), some (.ref 8), some (.int (nI i)), some (.int kk), l6] [.int b] σ2 (c + c') (w + w') Post
  refine oU_N 2 rfl (oU_V rfl rfl rfl rfl (by omega) (by omega) ot_thrown (fun x σ2 h => by cases h.1) (fun v σ3 hv => ?_))
  obtain ⟨hv, rfl⟩ := hv
  cases hv
  show oU L 10 114 732 [some (.ref 174), some (.ref 0), some (.ref 7), some (.ref 8), some (.int (nI i)), some (.int kk), some (.int b)] [.int (σ3 7 0)] σ3 (c + c') (w + w') Post
  have fin : oU L 10 114 756 [some (.ref 174), some (.ref 0), some (.ref 7), some (.ref 8), some (.int (nI i)), some (.int kk), some (.int b)] [] σ3 (c + c') (w + w') Post := oU_N 1 rfl (K σ3 _ _ _ _ kk2 (by omega) (by omega))
  refine oU_N 2 rfl (oU_If (fun _ => ?_) (fun (q : ¬ σ3 7 0 = kk) => absurd ?_ q))
  · rcases q6 with ⟨v, rfl, rfl, q8⟩ | ⟨x, rfl, -, q9⟩
    · obtain ⟨g1, g2⟩ := ag.1 v rfl
      refine oU_N 2 rfl (oU_If (fun _ => ?_) (fun (q : ¬ (0 : Int32) = 0) => absurd rfl q))
      refine oU_N 2 rfl (oU_Ll (o := 8) (n := nI 0) rfl ⟨rfl, by decide⟩ (ox_ix (N := 1) (by decide) (by decide)) ?_)
      rw [show (nI 0).toNatClampNeg = 0 from rfl, show σ3 8 0 = b by rw [e8, q8, g2]]
      refine oU_N 4 rfl (oU_If (fun _ => fin) (fun (q : ¬ lg_cmp b.toInt64 b.toInt64 = 0) => absurd (ox_lc rfl) q))
    · exact oU_N 2 rfl (oU_If (fun (q : kk = 0) => absurd q q9) (fun _ => fin))
  · rcases q6 with ⟨v, rfl, rfl, -⟩ | ⟨x, rfl, q9, -⟩
    · exact (ag.1 v rfl).1
    · rw [q9]; exact ag.2 x rfl
theorem ol_source {i c w : Nat} {l5 l6 : Option Value} (hi : i + 4 < L) (hL : L ≤ 2560) (hc : c ≤ 600000 - 1) (hw : w ≤ 7000000 - 6) (hop : oOp L 42 86 σ [some (.int (σ 174 (i + 1)))] 0 0 (fun _ => 1) (oClv (fun x => x = 2))) (K : ∀ τ c' w' l5 l6, oKk τ → c' ≤ c + 1 → w' ≤ w + 6 → oU L 10 114 1077 [some (.ref 174), some (.ref 0), some (.ref 7), some (.ref 8), some (.int (nI i)), l5, l6] [] τ c' w' Post) : oU L 10 114 759 [some (.ref 174), some (.ref 0), some (.ref 7), some (.ref 8), some (.int (nI i)), l5, l6] [] σ c w Post := by
  obtain ⟨PostC, hcall, hcl, href⟩ := hop
  refine oU_N 5 rfl (oU_I (o := 174) (n := nI i + nI 1) rfl (Or.inr rfl) (ox_174 (by omega) hL) ?_)
  rw [ox_c174 (show i + 1 < L by omega) hL]
  refine oU_N 1 rfl (oU_S rfl rfl rfl (by omega) (by omega) (ot_h110 hcall (fun o σ' q => (hcl o σ' q).1)) (fun x σ' c' w' q => by obtain ⟨-, -, kk, o1, σ1, q, -⟩ := oHp_u q (by intro x; show (1 : Int32) ≠ 0; decide); cases q) (fun v τ c' w' q => ?_))
  obtain ⟨q1, q2, kk, o1, σ1, q3, q4, q5, q6⟩ := oHp_u q (by intro x; show (1 : Int32) ≠ 0; decide)
  cases q3
  have e174 : τ 174 = σ 174 := by rw [q5 174 (by decide)]; exact (hcl o1 σ1 q4).2
  have hr := href o1 σ1 τ q4 q5
  rw [← e174] at hr
  show oU L 10 114 770 [some (.ref 174), some (.ref 0), some (.ref 7), some (.ref 8), some (.int (nI i)), l5, l6] [.int kk] τ (c + c') (w + w') Post
  refine oU_N 6 rfl (oU_I (o := 174) (n := nI i + nI 1) rfl (Or.inr rfl) (ox_174 (by omega) hL) ?_)
  rw [ox_c174 (show i + 1 < L by omega) hL]
  refine oU_V rfl rfl rfl rfl (by omega) (by omega) hr (fun x σ2 h => by obtain ⟨b, h, -⟩ := h; cases h) (fun v σ2 hv => ?_)
  obtain ⟨b, hv, ag, e8, kk2⟩ := hv
  cases hv
  show oU L 10 114 782 [some (.ref 174), some (.ref 0), some (.ref 7), some (.ref 8), some (.int (nI i)), some (.int kk), l6] [.int b] σ2 (c + c') (w + w') Post
  refine oU_N 2 rfl (oU_V rfl rfl rfl rfl (by omega) (by omega) ot_thrown (fun x σ2 h => by cases h.1) (fun v σ3 hv => ?_))
  obtain ⟨hv, rfl⟩ := hv
  cases hv
  show oU L 10 114 788 [some (.ref 174), some (.ref 0), some (.ref 7), some (.ref 8), some (.int (nI i)), some (.int kk), some (.int b)] [.int (σ3 7 0)] σ3 (c + c') (w + w') Post
  have fin : oU L 10 114 812 [some (.ref 174), some (.ref 0), some (.ref 7), some (.ref 8), some (.int (nI i)), some (.int kk), some (.int b)] [] σ3 (c + c') (w + w') Post := oU_N 1 rfl (K σ3 _ _ _ _ kk2 (by omega) (by omega))
  refine oU_N 2 rfl (oU_If (fun _ => ?_) (fun (q : ¬ σ3 7 0 = kk) => absurd ?_ q))
  · rcases q6 with ⟨v, rfl, rfl, q8⟩ | ⟨x, rfl, -, q9⟩
    · obtain ⟨g1, g2⟩ := ag.1 v rfl
      refine oU_N 2 rfl (oU_If (fun _ => ?_) (fun (q : ¬ (0 : Int32) = 0) => absurd rfl q))
      refine oU_N 2 rfl (oU_Ll (o := 8) (n := nI 0) rfl ⟨rfl, by decide⟩ (ox_ix (N := 1) (by decide) (by decide)) ?_)
      rw [show (nI 0).toNatClampNeg = 0 from rfl, show σ3 8 0 = b by rw [e8, q8, g2]]
      refine oU_N 4 rfl (oU_If (fun _ => fin) (fun (q : ¬ lg_cmp b.toInt64 b.toInt64 = 0) => absurd (ox_lc rfl) q))
    · exact oU_N 2 rfl (oU_If (fun (q : kk = 0) => absurd q q9) (fun _ => fin))
  · rcases q6 with ⟨v, rfl, rfl, -⟩ | ⟨x, rfl, q9, -⟩
    · exact (ag.1 v rfl).1
    · rw [q9]; exact ag.2 x rfl
theorem ol_order {i c w : Nat} {l5 l6 : Option Value} (hi : i + 4 < L) (hL : L ≤ 2560) (hc : c ≤ 600000 - 1) (hw : w ≤ 7000000 - 6) (hop : oOp L 43 87 σ [some (.int (σ 174 (i + 1))), some (.int (σ 174 (i + 2)))] 0 0 (fun _ => 1) (oClv (fun x => x = 2))) (K : ∀ τ c' w' l5 l6, oKk τ → c' ≤ c + 1 → w' ≤ w + 6 → oU L 10 114 1077 [some (.ref 174), some (.ref 0), some (.ref 7), some (.ref 8), some (.int (nI i)), l5, l6] [] τ c' w' Post) : oU L 10 114 815 [some (.ref 174), some (.ref 0), some (.ref 7), some (.ref 8), some (.int (nI i)), l5, l6] [] σ c w Post := by
  obtain ⟨PostC, hcall, hcl, href⟩ := hop
  refine oU_N 5 rfl (oU_I (o := 174) (n := nI i + nI 1) rfl (Or.inr rfl) (ox_174 (by omega) hL) ?_)
  rw [ox_c174 (show i + 1 < L by omega) hL]
  refine oU_N 4 rfl (oU_I (o := 174) (n := nI i + nI 2) rfl (Or.inr rfl) (ox_174 (by omega) hL) ?_)
  rw [ox_c174 (show i + 2 < L by omega) hL]
  refine oU_N 1 rfl (oU_S rfl rfl rfl (by omega) (by omega) (ot_h111 hcall (fun o σ' q => (hcl o σ' q).1)) (fun x σ' c' w' q => by obtain ⟨-, -, kk, o1, σ1, q, -⟩ := oHp_u q (by intro x; show (1 : Int32) ≠ 0; decide); cases q) (fun v τ c' w' q => ?_))
  obtain ⟨q1, q2, kk, o1, σ1, q3, q4, q5, q6⟩ := oHp_u q (by intro x; show (1 : Int32) ≠ 0; decide)
  cases q3
  have e174 : τ 174 = σ 174 := by rw [q5 174 (by decide)]; exact (hcl o1 σ1 q4).2
  have hr := href o1 σ1 τ q4 q5
  rw [← e174] at hr
  show oU L 10 114 832 [some (.ref 174), some (.ref 0), some (.ref 7), some (.ref 8), some (.int (nI i)), l5, l6] [.int kk] τ (c + c') (w + w') Post
  refine oU_N 6 rfl (oU_I (o := 174) (n := nI i + nI 1) rfl (Or.inr rfl) (ox_174 (by omega) hL) ?_)
  rw [ox_c174 (show i + 1 < L by omega) hL]
  refine oU_N 4 rfl (oU_I (o := 174) (n := nI i + nI 2) rfl (Or.inr rfl) (ox_174 (by omega) hL) ?_)
  rw [ox_c174 (show i + 2 < L by omega) hL]
  refine oU_V rfl rfl rfl rfl (by omega) (by omega) hr (fun x σ2 h => by obtain ⟨b, h, -⟩ := h; cases h) (fun v σ2 hv => ?_)
  obtain ⟨b, hv, ag, e8, kk2⟩ := hv
  cases hv
  show oU L 10 114 850 [some (.ref 174), some (.ref 0), some (.ref 7), some (.ref 8), some (.int (nI i)), some (.int kk), l6] [.int b] σ2 (c + c') (w + w') Post
  refine oU_N 2 rfl (oU_V rfl rfl rfl rfl (by omega) (by omega) ot_thrown (fun x σ2 h => by cases h.1) (fun v σ3 hv => ?_))
  obtain ⟨hv, rfl⟩ := hv
  cases hv
  show oU L 10 114 856 [some (.ref 174), some (.ref 0), some (.ref 7), some (.ref 8), some (.int (nI i)), some (.int kk), some (.int b)] [.int (σ3 7 0)] σ3 (c + c') (w + w') Post
  have fin : oU L 10 114 880 [some (.ref 174), some (.ref 0), some (.ref 7), some (.ref 8), some (.int (nI i)), some (.int kk), some (.int b)] [] σ3 (c + c') (w + w') Post := oU_N 1 rfl (K σ3 _ _ _ _ kk2 (by omega) (by omega))
  refine oU_N 2 rfl (oU_If (fun _ => ?_) (fun (q : ¬ σ3 7 0 = kk) => absurd ?_ q))
  · rcases q6 with ⟨v, rfl, rfl, q8⟩ | ⟨x, rfl, -, q9⟩
    · obtain ⟨g1, g2⟩ := ag.1 v rfl
      refine oU_N 2 rfl (oU_If (fun _ => ?_) (fun (q : ¬ (0 : Int32) = 0) => absurd rfl q))
      refine oU_N 2 rfl (oU_Ll (o := 8) (n := nI 0) rfl ⟨rfl, by decide⟩ (ox_ix (N := 1) (by decide) (by decide)) ?_)
      rw [show (nI 0).toNatClampNeg = 0 from rfl, show σ3 8 0 = b by rw [e8, q8, g2]]
      refine oU_N 4 rfl (oU_If (fun _ => fin) (fun (q : ¬ lg_cmp b.toInt64 b.toInt64 = 0) => absurd (ox_lc rfl) q))
    · exact oU_N 2 rfl (oU_If (fun (q : kk = 0) => absurd q q9) (fun _ => fin))
  · rcases q6 with ⟨v, rfl, rfl, -⟩ | ⟨x, rfl, q9, -⟩
    · exact (ag.1 v rfl).1
    · rw [q9]; exact ag.2 x rfl
theorem ol_related {i c w : Nat} {l5 l6 : Option Value} (hi : i + 4 < L) (hL : L ≤ 2560) (hc : c ≤ 600000 - 1) (hw : w ≤ 7000000 - 6) (hop : oOp L 44 88 σ [some (.int (σ 174 (i + 1))), some (.int (σ 174 (i + 2))), some (.int (σ 174 (i + 3)))] 0 0 (fun _ => 1) (oClb (fun x => x = 2))) (K : ∀ τ c' w' l5 l6, oKk τ → c' ≤ c + 1 → w' ≤ w + 6 → oU L 10 114 1077 [some (.ref 174), some (.ref 0), some (.ref 7), some (.ref 8), some (.int (nI i)), l5, l6] [] τ c' w' Post) : oU L 10 114 883 [some (.ref 174), some (.ref 0), some (.ref 7), some (.ref 8), some (.int (nI i)), l5, l6] [] σ c w Post := by
  obtain ⟨PostC, hcall, hcl, href⟩ := hop
  refine oU_N 5 rfl (oU_I (o := 174) (n := nI i + nI 1) rfl (Or.inr rfl) (ox_174 (by omega) hL) ?_)
  rw [ox_c174 (show i + 1 < L by omega) hL]
  refine oU_N 4 rfl (oU_I (o := 174) (n := nI i + nI 2) rfl (Or.inr rfl) (ox_174 (by omega) hL) ?_)
  rw [ox_c174 (show i + 2 < L by omega) hL]
  refine oU_N 4 rfl (oU_I (o := 174) (n := nI i + nI 3) rfl (Or.inr rfl) (ox_174 (by omega) hL) ?_)
  rw [ox_c174 (show i + 3 < L by omega) hL]
  refine oU_N 1 rfl (oU_S rfl rfl rfl (by omega) (by omega) (ot_h112 hcall (fun o σ' q => (hcl o σ' q).1)) (fun x σ' c' w' q => by obtain ⟨-, -, kk, o1, σ1, q, -⟩ := oHp_u q (by intro x; show (1 : Int32) ≠ 0; decide); cases q) (fun v τ c' w' q => ?_))
  obtain ⟨q1, q2, kk, o1, σ1, q3, q4, q5, q6⟩ := oHp_u q (by intro x; show (1 : Int32) ≠ 0; decide)
  cases q3
  have e174 : τ 174 = σ 174 := by rw [q5 174 (by decide)]; exact (hcl o1 σ1 q4).2
  have hr := href o1 σ1 τ q4 q5
  rw [← e174] at hr
  show oU L 10 114 906 [some (.ref 174), some (.ref 0), some (.ref 7), some (.ref 8), some (.int (nI i)), l5, l6] [.int kk] τ (c + c') (w + w') Post
  refine oU_N 6 rfl (oU_I (o := 174) (n := nI i + nI 1) rfl (Or.inr rfl) (ox_174 (by omega) hL) ?_)
  rw [ox_c174 (show i + 1 < L by omega) hL]
  refine oU_N 4 rfl (oU_I (o := 174) (n := nI i + nI 2) rfl (Or.inr rfl) (ox_174 (by omega) hL) ?_)
  rw [ox_c174 (show i + 2 < L by omega) hL]
  refine oU_N 4 rfl (oU_I (o := 174) (n := nI i + nI 3) rfl (Or.inr rfl) (ox_174 (by omega) hL) ?_)
  rw [ox_c174 (show i + 3 < L by omega) hL]
  refine oU_V rfl rfl rfl rfl (by omega) (by omega) hr (fun x σ2 h => by obtain ⟨b, h, -⟩ := h; cases h) (fun v σ2 hv => ?_)
  obtain ⟨b, hv, ag, e8, kk2⟩ := hv
  cases hv
  show oU L 10 114 930 [some (.ref 174), some (.ref 0), some (.ref 7), some (.ref 8), some (.int (nI i)), some (.int kk), l6] [.int b] σ2 (c + c') (w + w') Post
  refine oU_N 2 rfl (oU_V rfl rfl rfl rfl (by omega) (by omega) ot_thrown (fun x σ2 h => by cases h.1) (fun v σ3 hv => ?_))
  obtain ⟨hv, rfl⟩ := hv
  cases hv
  show oU L 10 114 936 [some (.ref 174), some (.ref 0), some (.ref 7), some (.ref 8), some (.int (nI i)), some (.int kk), some (.int b)] [.int (σ3 7 0)] σ3 (c + c') (w + w') Post
  have fin : oU L 10 114 967 [some (.ref 174), some (.ref 0), some (.ref 7), some (.ref 8), some (.int (nI i)), some (.int kk), some (.int b)] [] σ3 (c + c') (w + w') Post := oU_N 1 rfl (K σ3 _ _ _ _ kk2 (by omega) (by omega))
  refine oU_N 2 rfl (oU_If (fun _ => ?_) (fun (q : ¬ σ3 7 0 = kk) => absurd ?_ q))
  · rcases q6 with ⟨v, rfl, rfl, q8⟩ | ⟨x, rfl, -, q9⟩
    · obtain ⟨g1, g2⟩ := ag.1 v rfl
      refine oU_N 2 rfl (oU_If (fun _ => ?_) (fun (q : ¬ (0 : Int32) = 0) => absurd rfl q))
      refine oU_N 2 rfl (oU_Ll (o := 8) (n := nI 0) rfl ⟨rfl, by decide⟩ (ox_ix (N := 1) (by decide) (by decide)) ?_)
      rw [show (nI 0).toNatClampNeg = 0 from rfl, show σ3 8 0 = b by rw [e8, q8, g2]]
      have hbt : ∃ t : Bool, b = if t then 1 else 0 := by
        rcases (hcl _ σ1 q4).1 with ⟨t, e⟩ | ⟨x, e, -⟩
        · cases e
          exact ⟨t, g2⟩
        · cases e
      obtain ⟨t, ht⟩ := hbt
      refine oU_N 2 rfl (oU_If (fun (q : b = 0) => ?_) (fun (q : ¬ b = 0) => ?_))
      · refine oU_N 3 rfl (oU_If (fun _ => fin) (fun (q2 : ¬ lg_cmp b.toInt64 (Int64.ofNat 0) = 0) => absurd (ox_lc ?_) q2))
        rw [q]
        decide
      · have hb1 : b = 1 := by
          cases t with
          | true => exact ht
          | false => exact absurd ht q
        refine oU_N 4 rfl (oU_If (fun _ => fin) (fun (q2 : ¬ lg_cmp b.toInt64 (Int64.ofNat 1) = 0) => absurd (ox_lc ?_) q2))
        rw [hb1]
        decide
    · exact oU_N 2 rfl (oU_If (fun (q : kk = 0) => absurd q q9) (fun _ => fin))
  · rcases q6 with ⟨v, rfl, rfl, -⟩ | ⟨x, rfl, q9, -⟩
    · exact (ag.1 v rfl).1
    · rw [q9]; exact ag.2 x rfl
theorem ol_ringAt {i c w : Nat} {l5 l6 : Option Value} (hi : i + 4 < L) (hL : L ≤ 2560) (hc : c ≤ 600000 - 1) (hw : w ≤ 7000000 - 6) (hop : oOp L 46 90 σ [some (.int (σ 174 (i + 1)))] 0 0 (fun _ => 1) (oClv (fun x => x = 2))) (K : ∀ τ c' w' l5 l6, oKk τ → c' ≤ c + 1 → w' ≤ w + 6 → oU L 10 114 1077 [some (.ref 174), some (.ref 0), some (.ref 7), some (.ref 8), some (.int (nI i)), l5, l6] [] τ c' w' Post) : oU L 10 114 983 [some (.ref 174), some (.ref 0), some (.ref 7), some (.ref 8), some (.int (nI i)), l5, l6] [] σ c w Post := by
  obtain ⟨PostC, hcall, hcl, href⟩ := hop
  refine oU_N 5 rfl (oU_I (o := 174) (n := nI i + nI 1) rfl (Or.inr rfl) (ox_174 (by omega) hL) ?_)
  rw [ox_c174 (show i + 1 < L by omega) hL]
  refine oU_N 1 rfl (oU_S rfl rfl rfl (by omega) (by omega) (ot_h113 hcall (fun o σ' q => (hcl o σ' q).1)) (fun x σ' c' w' q => by obtain ⟨-, -, kk, o1, σ1, q, -⟩ := oHp_u q (by intro x; show (1 : Int32) ≠ 0; decide); cases q) (fun v τ c' w' q => ?_))
  obtain ⟨q1, q2, kk, o1, σ1, q3, q4, q5, q6⟩ := oHp_u q (by intro x; show (1 : Int32) ≠ 0; decide)
  cases q3
  have e174 : τ 174 = σ 174 := by rw [q5 174 (by decide)]; exact (hcl o1 σ1 q4).2
  have hr := href o1 σ1 τ q4 q5
  rw [← e174] at hr
  show oU L 10 114 994 [some (.ref 174), some (.ref 0), some (.ref 7), some (.ref 8), some (.int (nI i)), l5, l6] [.int kk] τ (c + c') (w + w') Post
  refine oU_N 6 rfl (oU_I (o := 174) (n := nI i + nI 1) rfl (Or.inr rfl) (ox_174 (by omega) hL) ?_)
  rw [ox_c174 (show i + 1 < L by omega) hL]
  refine oU_V rfl rfl rfl rfl (by omega) (by omega) hr (fun x σ2 h => by obtain ⟨b, h, -⟩ := h; cases h) (fun v σ2 hv => ?_)
  obtain ⟨b, hv, ag, e8, kk2⟩ := hv
  cases hv
  show oU L 10 114 1006 [some (.ref 174), some (.ref 0), some (.ref 7), some (.ref 8), some (.int (nI i)), some (.int kk), l6] [.int b] σ2 (c + c') (w + w') Post
  refine oU_N 2 rfl (oU_V rfl rfl rfl rfl (by omega) (by omega) ot_thrown (fun x σ2 h => by cases h.1) (fun v σ3 hv => ?_))
  obtain ⟨hv, rfl⟩ := hv
  cases hv
  show oU L 10 114 1012 [some (.ref 174), some (.ref 0), some (.ref 7), some (.ref 8), some (.int (nI i)), some (.int kk), some (.int b)] [.int (σ3 7 0)] σ3 (c + c') (w + w') Post
  have fin : oU L 10 114 1036 [some (.ref 174), some (.ref 0), some (.ref 7), some (.ref 8), some (.int (nI i)), some (.int kk), some (.int b)] [] σ3 (c + c') (w + w') Post := oU_N 1 rfl (K σ3 _ _ _ _ kk2 (by omega) (by omega))
  refine oU_N 2 rfl (oU_If (fun _ => ?_) (fun (q : ¬ σ3 7 0 = kk) => absurd ?_ q))
  · rcases q6 with ⟨v, rfl, rfl, q8⟩ | ⟨x, rfl, -, q9⟩
    · obtain ⟨g1, g2⟩ := ag.1 v rfl
      refine oU_N 2 rfl (oU_If (fun _ => ?_) (fun (q : ¬ (0 : Int32) = 0) => absurd rfl q))
      refine oU_N 2 rfl (oU_Ll (o := 8) (n := nI 0) rfl ⟨rfl, by decide⟩ (ox_ix (N := 1) (by decide) (by decide)) ?_)
      rw [show (nI 0).toNatClampNeg = 0 from rfl, show σ3 8 0 = b by rw [e8, q8, g2]]
      refine oU_N 4 rfl (oU_If (fun _ => fin) (fun (q : ¬ lg_cmp b.toInt64 b.toInt64 = 0) => absurd (ox_lc rfl) q))
    · exact oU_N 2 rfl (oU_If (fun (q : kk = 0) => absurd q q9) (fun _ => fin))
  · rcases q6 with ⟨v, rfl, rfl, -⟩ | ⟨x, rfl, q9, -⟩
    · exact (ag.1 v rfl).1
    · rw [q9]; exact ag.2 x rfl
end OZE
