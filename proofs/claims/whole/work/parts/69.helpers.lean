section OZB
variable {L : Nat} {σ : ox_S} {PostC : ox_O → ox_S → Prop}
theorem ot_h100 (hcall : oT L 8 32 0 [some (.ref 0)] [] σ PostC) (h1 : ∀ o σ', PostC o σ' → (∃ v, o = .inl (some (.int v))) ∨ ∃ x, o = .inr x ∧ (x = 0)) : oU L 9 100 0 [some (.ref 0), some (.ref 8), none] [] σ 0 0 (oHp PostC (fun _ => 1)) := by
  refine oU_N 3 rfl (oU_C rfl rfl rfl rfl (by decide) (by decide) hcall (fun v σ1 hp => ?_) (fun x σ1 hp => ?_))
  · rcases h1 _ _ hp with ⟨v1, e⟩ | ⟨x, e, -⟩
    · cases e
      refine oU_N 1 rfl (oU_Ls (o := 8) (n := nI 0) (v := v1.toInt64) rfl ⟨rfl, by decide⟩ (ox_ll v1) (ox_ix (N := 1) (by decide) (by decide)) ?_)
      rw [Int32.toInt32_toInt64, show (nI 0).toNatClampNeg = 0 from rfl]
      exact oU_N 2 rfl (oU_Ret rfl rfl rfl ⟨by decide, by decide, Or.inl ⟨v1, σ1, hp, rfl, rfl⟩⟩)
    · cases e
  · rcases h1 _ _ hp with ⟨v1, e⟩ | ⟨x, e, hx⟩
    · cases e
    · cases e
      subst hx
      exact ⟨_, _, rfl, rfl, oU_N 1 rfl (oU_Ret rfl rfl rfl ⟨by decide, by decide, Or.inr ⟨_, σ1, hp, rfl, rfl⟩⟩)⟩
theorem ot_h101 {a0 a1 a2 a3 : Int32} (hcall : oT L 8 33 0 [some (.ref 0), some (.int a0), some (.int a1), some (.int a2), some (.int a3)] [] σ PostC) (h1 : ∀ o σ', PostC o σ' → (∃ v, o = .inl (some (.int v))) ∨ ∃ x, o = .inr x ∧ (x = 1 ∨ x = 0)) : oU L 9 101 0 [some (.ref 0), some (.int a0), some (.int a1), some (.int a2), some (.int a3), some (.ref 8), none] [] σ 0 0 (oHp PostC (fun x => if x = 1 then 1 else 2)) := by
  refine oU_N 7 rfl (oU_C rfl rfl rfl rfl (by decide) (by decide) hcall (fun v σ1 hp => ?_) (fun x σ1 hp => ?_))
  · rcases h1 _ _ hp with ⟨v1, e⟩ | ⟨x, e, -⟩
    · cases e
      refine oU_N 1 rfl (oU_Ls (o := 8) (n := nI 0) (v := v1.toInt64) rfl ⟨rfl, by decide⟩ (ox_ll v1) (ox_ix (N := 1) (by decide) (by decide)) ?_)
      rw [Int32.toInt32_toInt64, show (nI 0).toNatClampNeg = 0 from rfl]
      exact oU_N 2 rfl (oU_Ret rfl rfl rfl ⟨by decide, by decide, Or.inl ⟨v1, σ1, hp, rfl, rfl⟩⟩)
    · cases e
  · rcases h1 _ _ hp with ⟨v1, e⟩ | ⟨x, e, hx⟩
    · cases e
    · cases e
      rcases hx with rfl | rfl
      · exact ⟨_, _, rfl, rfl, oU_N 1 rfl (oU_Ret rfl rfl rfl ⟨by decide, by decide, Or.inr ⟨_, σ1, hp, rfl, rfl⟩⟩)⟩
      · exact ⟨_, _, rfl, rfl, oU_N 1 rfl (oU_Ret rfl rfl rfl ⟨by decide, by decide, Or.inr ⟨_, σ1, hp, rfl, rfl⟩⟩)⟩
theorem ot_h102 {a0 a1 : Int32} (hcall : oT L 8 34 0 [some (.ref 0), some (.int a0), some (.int a1), none] [] σ PostC) (h1 : ∀ o σ', PostC o σ' → (∃ t : Bool, o = .inl (some (.int (if t then 1 else 0)))) ∨ ∃ x, o = .inr x ∧ (x = 1)) : oU L 9 102 0 [some (.ref 0), some (.int a0), some (.int a1), some (.ref 8), none] [] σ 0 0 (oHp PostC (fun _ => 1)) := by
  refine oU_N 5 rfl (oU_C rfl rfl rfl rfl (by decide) (by decide) hcall (fun v σ1 hp => ?_) (fun x σ1 hp => ?_))
  · rcases h1 _ _ hp with ⟨v1, e⟩ | ⟨x, e, -⟩
    · cases e
      cases v1 with
      | true =>
        refine oU_N 1 rfl (oU_If (fun (q : (1 : Int32) = 0) => absurd q (by decide)) (fun _ => ?_))
        refine oU_N 2 rfl (oU_Ls (o := 8) (n := nI 0) (v := Int64.ofNat 1) rfl ⟨rfl, by decide⟩ (by decide) (ox_ix (N := 1) (by decide) (by decide)) ?_)
        rw [show (nI 0).toNatClampNeg = 0 from rfl]
        exact oU_N 2 rfl (oU_Ret rfl rfl rfl ⟨by decide, by decide, Or.inl ⟨_, σ1, hp, rfl, rfl⟩⟩)
      | false =>
        refine oU_N 1 rfl (oU_If (fun _ => ?_) (fun (q : ¬ (0 : Int32) = 0) => absurd rfl q))
        refine oU_N 1 rfl (oU_Ls (o := 8) (n := nI 0) (v := Int64.ofNat 0) rfl ⟨rfl, by decide⟩ (by decide) (ox_ix (N := 1) (by decide) (by decide)) ?_)
        rw [show (nI 0).toNatClampNeg = 0 from rfl]
        exact oU_N 2 rfl (oU_Ret rfl rfl rfl ⟨by decide, by decide, Or.inl ⟨_, σ1, hp, rfl, rfl⟩⟩)
    · cases e
  · rcases h1 _ _ hp with ⟨v1, e⟩ | ⟨x, e, hx⟩
    · cases e
    · cases e
      subst hx
      exact ⟨_, _, rfl, rfl, oU_N 1 rfl (oU_Ret rfl rfl rfl ⟨by decide, by decide, Or.inr ⟨_, σ1, hp, rfl, rfl⟩⟩)⟩
theorem ot_h103 {a0 a1 a2 : Int32} (hcall : oT L 8 35 0 [some (.ref 0), some (.int a0), some (.int a1), some (.int a2)] [] σ PostC) (h1 : ∀ o σ', PostC o σ' → (∃ v, o = .inl (some (.int v))) ∨ ∃ x, o = .inr x ∧ (x = 1 ∨ x = 0)) : oU L 9 103 0 [some (.ref 0), some (.int a0), some (.int a1), some (.int a2), some (.ref 8), none] [] σ 0 0 (oHp PostC (fun x => if x = 1 then 1 else 2)) := by
  refine oU_N 6 rfl (oU_C rfl rfl rfl rfl (by decide) (by decide) hcall (fun v σ1 hp => ?_) (fun x σ1 hp => ?_))
  · rcases h1 _ _ hp with ⟨v1, e⟩ | ⟨x, e, -⟩
    · cases e
      refine oU_N 1 rfl (oU_Ls (o := 8) (n := nI 0) (v := v1.toInt64) rfl ⟨rfl, by decide⟩ (ox_ll v1) (ox_ix (N := 1) (by decide) (by decide)) ?_)
      rw [Int32.toInt32_toInt64, show (nI 0).toNatClampNeg = 0 from rfl]
      exact oU_N 2 rfl (oU_Ret rfl rfl rfl ⟨by decide, by decide, Or.inl ⟨v1, σ1, hp, rfl, rfl⟩⟩)
    · cases e
  · rcases h1 _ _ hp with ⟨v1, e⟩ | ⟨x, e, hx⟩
    · cases e
    · cases e
      rcases hx with rfl | rfl
      · exact ⟨_, _, rfl, rfl, oU_N 1 rfl (oU_Ret rfl rfl rfl ⟨by decide, by decide, Or.inr ⟨_, σ1, hp, rfl, rfl⟩⟩)⟩
      · exact ⟨_, _, rfl, rfl, oU_N 1 rfl (oU_Ret rfl rfl rfl ⟨by decide, by decide, Or.inr ⟨_, σ1, hp, rfl, rfl⟩⟩)⟩
theorem ot_h104 {a0 : Int32} (hcall : oT L 8 36 0 [some (.ref 0), some (.int a0)] [] σ PostC) (h1 : ∀ o σ', PostC o σ' → (∃ v, o = .inl (some (.int v))) ∨ ∃ x, o = .inr x ∧ (x = 1 ∨ x = 0)) : oU L 9 104 0 [some (.ref 0), some (.int a0), some (.ref 8), none] [] σ 0 0 (oHp PostC (fun x => if x = 1 then 1 else 2)) := by
  refine oU_N 4 rfl (oU_C rfl rfl rfl rfl (by decide) (by decide) hcall (fun v σ1 hp => ?_) (fun x σ1 hp => ?_))
  · rcases h1 _ _ hp with ⟨v1, e⟩ | ⟨x, e, -⟩
    · cases e
      refine oU_N 1 rfl (oU_Ls (o := 8) (n := nI 0) (v := v1.toInt64) rfl ⟨rfl, by decide⟩ (ox_ll v1) (ox_ix (N := 1) (by decide) (by decide)) ?_)
      rw [Int32.toInt32_toInt64, show (nI 0).toNatClampNeg = 0 from rfl]
      exact oU_N 2 rfl (oU_Ret rfl rfl rfl ⟨by decide, by decide, Or.inl ⟨v1, σ1, hp, rfl, rfl⟩⟩)
    · cases e
  · rcases h1 _ _ hp with ⟨v1, e⟩ | ⟨x, e, hx⟩
    · cases e
    · cases e
      rcases hx with rfl | rfl
      · exact ⟨_, _, rfl, rfl, oU_N 1 rfl (oU_Ret rfl rfl rfl ⟨by decide, by decide, Or.inr ⟨_, σ1, hp, rfl, rfl⟩⟩)⟩
      · exact ⟨_, _, rfl, rfl, oU_N 1 rfl (oU_Ret rfl rfl rfl ⟨by decide, by decide, Or.inr ⟨_, σ1, hp, rfl, rfl⟩⟩)⟩
theorem ot_h105 {a0 : Int32} (hcall : oT L 8 37 0 [some (.ref 0), some (.int a0)] [] σ PostC) (h1 : ∀ o σ', PostC o σ' → (∃ v, o = .inl (some (.int v))) ∨ ∃ x, o = .inr x ∧ (x = 1)) : oU L 9 105 0 [some (.ref 0), some (.int a0), some (.ref 8), none] [] σ 0 0 (oHp PostC (fun _ => 1)) := by
  refine oU_N 4 rfl (oU_C rfl rfl rfl rfl (by decide) (by decide) hcall (fun v σ1 hp => ?_) (fun x σ1 hp => ?_))
  · rcases h1 _ _ hp with ⟨v1, e⟩ | ⟨x, e, -⟩
    · cases e
      refine oU_N 1 rfl (oU_Ls (o := 8) (n := nI 0) (v := v1.toInt64) rfl ⟨rfl, by decide⟩ (ox_ll v1) (ox_ix (N := 1) (by decide) (by decide)) ?_)
      rw [Int32.toInt32_toInt64, show (nI 0).toNatClampNeg = 0 from rfl]
      exact oU_N 2 rfl (oU_Ret rfl rfl rfl ⟨by decide, by decide, Or.inl ⟨v1, σ1, hp, rfl, rfl⟩⟩)
    · cases e
  · rcases h1 _ _ hp with ⟨v1, e⟩ | ⟨x, e, hx⟩
    · cases e
    · cases e
      subst hx
      exact ⟨_, _, rfl, rfl, oU_N 1 rfl (oU_Ret rfl rfl rfl ⟨by decide, by decide, Or.inr ⟨_, σ1, hp, rfl, rfl⟩⟩)⟩
theorem ot_h106 (hcall : oT L 8 38 0 [some (.ref 0), none, none] [] σ PostC) (h1 : ∀ o σ', PostC o σ' → (∃ v, o = .inl (some (.int v))) ∨ ∃ x, o = .inr x ∧ (x = 0)) : oU L 9 106 0 [some (.ref 0), some (.ref 8), none] [] σ 0 0 (oHp PostC (fun _ => 1)) := by
  refine oU_N 3 rfl (oU_C rfl rfl rfl rfl (by decide) (by decide) hcall (fun v σ1 hp => ?_) (fun x σ1 hp => ?_))
  · rcases h1 _ _ hp with ⟨v1, e⟩ | ⟨x, e, -⟩
    · cases e
      refine oU_N 1 rfl (oU_Ls (o := 8) (n := nI 0) (v := v1.toInt64) rfl ⟨rfl, by decide⟩ (ox_ll v1) (ox_ix (N := 1) (by decide) (by decide)) ?_)
      rw [Int32.toInt32_toInt64, show (nI 0).toNatClampNeg = 0 from rfl]
      exact oU_N 2 rfl (oU_Ret rfl rfl rfl ⟨by decide, by decide, Or.inl ⟨v1, σ1, hp, rfl, rfl⟩⟩)
    · cases e
  · rcases h1 _ _ hp with ⟨v1, e⟩ | ⟨x, e, hx⟩
    · cases e
    · cases e
      subst hx
      exact ⟨_, _, rfl, rfl, oU_N 1 rfl (oU_Ret rfl rfl rfl ⟨by decide, by decide, Or.inr ⟨_, σ1, hp, rfl, rfl⟩⟩)⟩
theorem ot_h107 {a0 a1 : Int32} (hcall : oT L 8 39 0 [some (.ref 0), some (.int a0), some (.int a1)] [] σ PostC) (h1 : ∀ o σ', PostC o σ' → (∃ v, o = .inl (some (.int v))) ∨ ∃ x, o = .inr x ∧ (x = 2)) : oU L 9 107 0 [some (.ref 0), some (.int a0), some (.int a1), some (.ref 8), none] [] σ 0 0 (oHp PostC (fun _ => 1)) := by
  refine oU_N 5 rfl (oU_C rfl rfl rfl rfl (by decide) (by decide) hcall (fun v σ1 hp => ?_) (fun x σ1 hp => ?_))
  · rcases h1 _ _ hp with ⟨v1, e⟩ | ⟨x, e, -⟩
    · cases e
      refine oU_N 1 rfl (oU_Ls (o := 8) (n := nI 0) (v := v1.toInt64) rfl ⟨rfl, by decide⟩ (ox_ll v1) (ox_ix (N := 1) (by decide) (by decide)) ?_)
      rw [Int32.toInt32_toInt64, show (nI 0).toNatClampNeg = 0 from rfl]
      exact oU_N 2 rfl (oU_Ret rfl rfl rfl ⟨by decide, by decide, Or.inl ⟨v1, σ1, hp, rfl, rfl⟩⟩)
    · cases e
  · rcases h1 _ _ hp with ⟨v1, e⟩ | ⟨x, e, hx⟩
    · cases e
    · cases e
      subst hx
      exact ⟨_, _, rfl, rfl, oU_N 1 rfl (oU_Ret rfl rfl rfl ⟨by decide, by decide, Or.inr ⟨_, σ1, hp, rfl, rfl⟩⟩)⟩
theorem ot_h108 {a0 a1 : Int32} (hcall : oT L 8 40 0 [some (.ref 0), some (.int a0), some (.int a1)] [] σ PostC) (h1 : ∀ o σ', PostC o σ' → (∃ v, o = .inl (some (.int v))) ∨ ∃ x, o = .inr x ∧ (x = 2)) : oU L 9 108 0 [some (.ref 0), some (.int a0), some (.int a1), some (.ref 8), none] [] σ 0 0 (oHp PostC (fun _ => 1)) := by
  refine oU_N 5 rfl (oU_C rfl rfl rfl rfl (by decide) (by decide) hcall (fun v σ1 hp => ?_) (fun x σ1 hp => ?_))
  · rcases h1 _ _ hp with ⟨v1, e⟩ | ⟨x, e, -⟩
    · cases e
      refine oU_N 1 rfl (oU_Ls (o := 8) (n := nI 0) (v := v1.toInt64) rfl ⟨rfl, by decide⟩ (ox_ll v1) (ox_ix (N := 1) (by decide) (by decide)) ?_)
      rw [Int32.toInt32_toInt64, show (nI 0).toNatClampNeg = 0 from rfl]
      exact oU_N 2 rfl (oU_Ret rfl rfl rfl ⟨by decide, by decide, Or.inl ⟨v1, σ1, hp, rfl, rfl⟩⟩)
    · cases e
  · rcases h1 _ _ hp with ⟨v1, e⟩ | ⟨x, e, hx⟩
    · cases e
    · cases e
      subst hx
      exact ⟨_, _, rfl, rfl, oU_N 1 rfl (oU_Ret rfl rfl rfl ⟨by decide, by decide, Or.inr ⟨_, σ1, hp, rfl, rfl⟩⟩)⟩
theorem ot_h109 {a0 : Int32} (hcall : oT L 8 41 0 [some (.ref 0), some (.int a0), none, none] [] σ PostC) (h1 : ∀ o σ', PostC o σ' → (∃ v, o = .inl (some (.int v))) ∨ ∃ x, o = .inr x ∧ (x = 2 ∨ x = 0)) : oU L 9 109 0 [some (.ref 0), some (.int a0), some (.ref 8), none] [] σ 0 0 (oHp PostC (fun x => if x = 2 then 1 else 2)) := by
  refine oU_N 4 rfl (oU_C rfl rfl rfl rfl (by decide) (by decide) hcall (fun v σ1 hp => ?_) (fun x σ1 hp => ?_))
  · rcases h1 _ _ hp with ⟨v1, e⟩ | ⟨x, e, -⟩
    · cases e
      refine oU_N 1 rfl (oU_Ls (o := 8) (n := nI 0) (v := v1.toInt64) rfl ⟨rfl, by decide⟩ (ox_ll v1) (ox_ix (N := 1) (by decide) (by decide)) ?_)
      rw [Int32.toInt32_toInt64, show (nI 0).toNatClampNeg = 0 from rfl]
      exact oU_N 2 rfl (oU_Ret rfl rfl rfl ⟨by decide, by decide, Or.inl ⟨v1, σ1, hp, rfl, rfl⟩⟩)
    · cases e
  · rcases h1 _ _ hp with ⟨v1, e⟩ | ⟨x, e, hx⟩
    · cases e
    · cases e
      rcases hx with rfl | rfl
      · exact ⟨_, _, rfl, rfl, oU_N 1 rfl (oU_Ret rfl rfl rfl ⟨by decide, by decide, Or.inr ⟨_, σ1, hp, rfl, rfl⟩⟩)⟩
      · exact ⟨_, _, rfl, rfl, oU_N 1 rfl (oU_Ret rfl rfl rfl ⟨by decide, by decide, Or.inr ⟨_, σ1, hp, rfl, rfl⟩⟩)⟩
theorem ot_h110 {a0 : Int32} (hcall : oT L 8 42 0 [some (.ref 0), some (.int a0)] [] σ PostC) (h1 : ∀ o σ', PostC o σ' → (∃ v, o = .inl (some (.int v))) ∨ ∃ x, o = .inr x ∧ (x = 2)) : oU L 9 110 0 [some (.ref 0), some (.int a0), some (.ref 8), none] [] σ 0 0 (oHp PostC (fun _ => 1)) := by
  refine oU_N 4 rfl (oU_C rfl rfl rfl rfl (by decide) (by decide) hcall (fun v σ1 hp => ?_) (fun x σ1 hp => ?_))
  · rcases h1 _ _ hp with ⟨v1, e⟩ | ⟨x, e, -⟩
    · cases e
      refine oU_N 1 rfl (oU_Ls (o := 8) (n := nI 0) (v := v1.toInt64) rfl ⟨rfl, by decide⟩ (ox_ll v1) (ox_ix (N := 1) (by decide) (by decide)) ?_)
      rw [Int32.toInt32_toInt64, show (nI 0).toNatClampNeg = 0 from rfl]
      exact oU_N 2 rfl (oU_Ret rfl rfl rfl ⟨by decide, by decide, Or.inl ⟨v1, σ1, hp, rfl, rfl⟩⟩)
    · cases e
  · rcases h1 _ _ hp with ⟨v1, e⟩ | ⟨x, e, hx⟩
    · cases e
    · cases e
      subst hx
      exact ⟨_, _, rfl, rfl, oU_N 1 rfl (oU_Ret rfl rfl rfl ⟨by decide, by decide, Or.inr ⟨_, σ1, hp, rfl, rfl⟩⟩)⟩
theorem ot_h111 {a0 a1 : Int32} (hcall : oT L 8 43 0 [some (.ref 0), some (.int a0), some (.int a1)] [] σ PostC) (h1 : ∀ o σ', PostC o σ' → (∃ v, o = .inl (some (.int v))) ∨ ∃ x, o = .inr x ∧ (x = 2)) : oU L 9 111 0 [some (.ref 0), some (.int a0), some (.int a1), some (.ref 8), none] [] σ 0 0 (oHp PostC (fun _ => 1)) := by
  refine oU_N 5 rfl (oU_C rfl rfl rfl rfl (by decide) (by decide) hcall (fun v σ1 hp => ?_) (fun x σ1 hp => ?_))
  · rcases h1 _ _ hp with ⟨v1, e⟩ | ⟨x, e, -⟩
    · cases e
      refine oU_N 1 rfl (oU_Ls (o := 8) (n := nI 0) (v := v1.toInt64) rfl ⟨rfl, by decide⟩ (ox_ll v1) (ox_ix (N := 1) (by decide) (by decide)) ?_)
      rw [Int32.toInt32_toInt64, show (nI 0).toNatClampNeg = 0 from rfl]
      exact oU_N 2 rfl (oU_Ret rfl rfl rfl ⟨by decide, by decide, Or.inl ⟨v1, σ1, hp, rfl, rfl⟩⟩)
    · cases e
  · rcases h1 _ _ hp with ⟨v1, e⟩ | ⟨x, e, hx⟩
    · cases e
    · cases e
      subst hx
      exact ⟨_, _, rfl, rfl, oU_N 1 rfl (oU_Ret rfl rfl rfl ⟨by decide, by decide, Or.inr ⟨_, σ1, hp, rfl, rfl⟩⟩)⟩
theorem ot_h112 {a0 a1 a2 : Int32} (hcall : oT L 8 44 0 [some (.ref 0), some (.int a0), some (.int a1), some (.int a2)] [] σ PostC) (h1 : ∀ o σ', PostC o σ' → (∃ t : Bool, o = .inl (some (.int (if t then 1 else 0)))) ∨ ∃ x, o = .inr x ∧ (x = 2)) : oU L 9 112 0 [some (.ref 0), some (.int a0), some (.int a1), some (.int a2), some (.ref 8), none] [] σ 0 0 (oHp PostC (fun _ => 1)) := by
  refine oU_N 6 rfl (oU_C rfl rfl rfl rfl (by decide) (by decide) hcall (fun v σ1 hp => ?_) (fun x σ1 hp => ?_))
  · rcases h1 _ _ hp with ⟨v1, e⟩ | ⟨x, e, -⟩
    · cases e
      cases v1 with
      | true =>
        refine oU_N 1 rfl (oU_If (fun (q : (1 : Int32) = 0) => absurd q (by decide)) (fun _ => ?_))
        refine oU_N 2 rfl (oU_Ls (o := 8) (n := nI 0) (v := Int64.ofNat 1) rfl ⟨rfl, by decide⟩ (by decide) (ox_ix (N := 1) (by decide) (by decide)) ?_)
        rw [show (nI 0).toNatClampNeg = 0 from rfl]
        exact oU_N 2 rfl (oU_Ret rfl rfl rfl ⟨by decide, by decide, Or.inl ⟨_, σ1, hp, rfl, rfl⟩⟩)
      | false =>
        refine oU_N 1 rfl (oU_If (fun _ => ?_) (fun (q : ¬ (0 : Int32) = 0) => absurd rfl q))
        refine oU_N 1 rfl (oU_Ls (o := 8) (n := nI 0) (v := Int64.ofNat 0) rfl ⟨rfl, by decide⟩ (by decide) (ox_ix (N := 1) (by decide) (by decide)) ?_)
        rw [show (nI 0).toNatClampNeg = 0 from rfl]
        exact oU_N 2 rfl (oU_Ret rfl rfl rfl ⟨by decide, by decide, Or.inl ⟨_, σ1, hp, rfl, rfl⟩⟩)
    · cases e
  · rcases h1 _ _ hp with ⟨v1, e⟩ | ⟨x, e, hx⟩
    · cases e
    · cases e
      subst hx
      exact ⟨_, _, rfl, rfl, oU_N 1 rfl (oU_Ret rfl rfl rfl ⟨by decide, by decide, Or.inr ⟨_, σ1, hp, rfl, rfl⟩⟩)⟩
theorem ot_h113 {a0 : Int32} (hcall : oT L 8 46 0 [some (.ref 0), some (.int a0)] [] σ PostC) (h1 : ∀ o σ', PostC o σ' → (∃ v, o = .inl (some (.int v))) ∨ ∃ x, o = .inr x ∧ (x = 2)) : oU L 9 113 0 [some (.ref 0), some (.int a0), some (.ref 8), none] [] σ 0 0 (oHp PostC (fun _ => 1)) := by
  refine oU_N 4 rfl (oU_C rfl rfl rfl rfl (by decide) (by decide) hcall (fun v σ1 hp => ?_) (fun x σ1 hp => ?_))
  · rcases h1 _ _ hp with ⟨v1, e⟩ | ⟨x, e, -⟩
    · cases e
      refine oU_N 1 rfl (oU_Ls (o := 8) (n := nI 0) (v := v1.toInt64) rfl ⟨rfl, by decide⟩ (ox_ll v1) (ox_ix (N := 1) (by decide) (by decide)) ?_)
      rw [Int32.toInt32_toInt64, show (nI 0).toNatClampNeg = 0 from rfl]
      exact oU_N 2 rfl (oU_Ret rfl rfl rfl ⟨by decide, by decide, Or.inl ⟨v1, σ1, hp, rfl, rfl⟩⟩)
    · cases e
  · rcases h1 _ _ hp with ⟨v1, e⟩ | ⟨x, e, hx⟩
    · cases e
    · cases e
      subst hx
      exact ⟨_, _, rfl, rfl, oU_N 1 rfl (oU_Ret rfl rfl rfl ⟨by decide, by decide, Or.inr ⟨_, σ1, hp, rfl, rfl⟩⟩)⟩
end OZB
