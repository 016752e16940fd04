/-- is b in relation r with a, as the reference's 'in' says -/
def oB (σ : ox_S) (r a b : Nat) : Bool := decide (σ 56 (144 * r + 12 * a + b) = 1)
theorem ot_isB {L k r a b : Nat} {σ : ox_S} (hz : oZ1 σ 56 5760) (hr : r < 40) (ha : a < 12) (hb : b < 12) : oT L k 72 0 [some (.ref 7), some (.int (nI r)), some (.int (nI a)), some (.int (nI b))] [] σ (fun o σ' => o = .inl (some (.int (if oB σ r a b then 1 else 0))) ∧ σ' = σ) :=
  (ot_is hz hr ha hb).mono (fun o σ' h => by
    obtain ⟨rfl, rfl⟩ := h
    refine ⟨?_, rfl⟩
    rcases hz (144 * r + 12 * a + b) (by omega) with q | q <;> simp [oB, q])
/-- what a made relation says, by its how, over what it is made of -/
def oMd (σ : ox_S) (n h x y a b : Nat) : Bool := match h with
  | 0 => oB σ x a b || oB σ y a b
  | 1 => oB σ x a b && oB σ y a b
  | 2 => oB σ x a b && !(oB σ y a b)
  | 3 => oJn σ x y a b n
  | 4 => oB σ x b a
  | _ => oB σ x a b
theorem ox_b01 (x : Bool) : narrow .boolean (.int (if x then 1 else 0)) = .int (if x then 1 else 0) := by cases x <;> rfl
set_option maxHeartbeats 1000000 in
theorem ot_isMade {L k r h x y a b n : Nat} {σ : ox_S} (hz : oZ1 σ 56 5760) (hn : σ 7 2 = nI n) (hn12 : n ≤ 12) (hr : r < 40) (hh : h ≤ 5) (h48 : σ 48 r = nI h) (h49 : σ 49 r = nI x) (h50 : σ 50 r = nI y) (hx : x < 40) (hy : y < 40) (ha : a < 12) (hb : b < 12) (hk : 3 ≤ k) (hk9 : k ≤ 9) :
    oT L k 74 0 [some (.ref 7), some (.int (nI r)), some (.int (nI a)), some (.int (nI b)), none, none] [] σ (fun o σ' => o = .inl (some (.int (if oMd σ n h x y a b then 1 else 0))) ∧ σ' = σ) := by
  obtain ⟨k, rfl⟩ : ∃ k', k = k' + 1 := ⟨k - 1, by omega⟩
  have hrc : (nI r).toNatClampNeg = r := nI_clamp (by omega)
  refine oT_N 3 rfl (oT_I (o := 49) (n := nI r) rfl (Or.inl ⟨rfl, by decide⟩) (ox_ix (N := 40) hr (by decide)) ?_)
  rw [hrc, h49]
  refine oT_N 4 rfl (oT_I (o := 50) (n := nI r) rfl (Or.inl ⟨rfl, by decide⟩) (ox_ix (N := 40) hr (by decide)) ?_)
  rw [hrc, h50]
  refine oT_N 4 rfl (oT_I (o := 48) (n := nI r) rfl (Or.inl ⟨rfl, by decide⟩) (ox_ix (N := 40) hr (by decide)) ?_)
  rw [hrc, h48]
  match h, hh with
  | 0, _ =>
    refine oT_N 5 rfl (oT_V rfl rfl rfl rfl (by omega) (by omega) (ot_isB hz hx ha hb) (fun x σ2 h => by cases h.1) (fun v σ2 hv => ?_))
    obtain ⟨hv, rfl⟩ := hv
    cases hv
    cases h1 : oB σ2 x a b with
    | true =>
      refine oT_N 1 rfl (oT_If (fun (q : (1 : Int32) = 0) => absurd q (by decide)) (fun _ => ?_))
      refine oT_N 2 rfl (oT_Ret rfl rfl rfl ⟨?_, rfl⟩)
      simp [oMd, h1]
    | false =>
      refine oT_N 1 rfl (oT_If (fun _ => ?_) (fun (q : ¬ (0 : Int32) = 0) => absurd rfl q))
      refine oT_N 4 rfl (oT_V rfl rfl rfl rfl (by omega) (by omega) (ot_isB hz hy ha hb) (fun x σ2 h => by cases h.1) (fun v σ3 hv => ?_))
      obtain ⟨hv, rfl⟩ := hv
      cases hv
      cases h2 : oB σ3 y a b with
      | true =>
        refine oT_N 1 rfl (oT_If (fun (q : (1 : Int32) = 0) => absurd q (by decide)) (fun _ => ?_))
        refine oT_N 2 rfl (oT_Ret rfl rfl rfl ⟨?_, rfl⟩)
        simp [oMd, h2]
      | false =>
        refine oT_N 1 rfl (oT_If (fun _ => ?_) (fun (q : ¬ (0 : Int32) = 0) => absurd rfl q))
        refine oT_N 1 rfl (oT_Ret rfl rfl rfl ⟨?_, rfl⟩)
        simp [oMd, h1, h2]
  | 1, _ =>
    refine oT_N 5 rfl (oT_V rfl rfl rfl rfl (by omega) (by omega) (ot_isB hz hx ha hb) (fun x σ2 h => by cases h.1) (fun v σ2 hv => ?_))
    obtain ⟨hv, rfl⟩ := hv
    cases hv
    cases h1 : oB σ2 x a b with
    | false =>
      refine oT_N 1 rfl (oT_If (fun _ => ?_) (fun (q : ¬ (0 : Int32) = 0) => absurd rfl q))
      refine oT_N 1 rfl (oT_Ret rfl rfl rfl ⟨?_, rfl⟩)
      simp [oMd, h1]
    | true =>
      refine oT_N 1 rfl (oT_If (fun (q : (1 : Int32) = 0) => absurd q (by decide)) (fun _ => ?_))
      refine oT_N 4 rfl (oT_V rfl rfl rfl rfl (by omega) (by omega) (ot_isB hz hy ha hb) (fun x σ2 h => by cases h.1) (fun v σ3 hv => ?_))
      obtain ⟨hv, rfl⟩ := hv
      cases hv
      cases h2 : oB σ3 y a b with
      | true =>
        refine oT_N 1 rfl (oT_If (fun (q : (1 : Int32) = 0) => absurd q (by decide)) (fun _ => ?_))
        refine oT_N 2 rfl (oT_Ret rfl rfl rfl ⟨?_, rfl⟩)
        simp [oMd, h1, h2]
      | false =>
        refine oT_N 1 rfl (oT_If (fun _ => ?_) (fun (q : ¬ (0 : Int32) = 0) => absurd rfl q))
        refine oT_N 1 rfl (oT_Ret rfl rfl rfl ⟨?_, rfl⟩)
        simp [oMd, h2]
  | 2, _ =>
    refine oT_N 5 rfl (oT_V rfl rfl rfl rfl (by omega) (by omega) (ot_isB hz hx ha hb) (fun x σ2 h => by cases h.1) (fun v σ2 hv => ?_))
    obtain ⟨hv, rfl⟩ := hv
    cases hv
    cases h1 : oB σ2 x a b with
    | false =>
      refine oT_N 1 rfl (oT_If (fun _ => ?_) (fun (q : ¬ (0 : Int32) = 0) => absurd rfl q))
      refine oT_N 1 rfl (oT_Ret rfl rfl rfl ⟨?_, rfl⟩)
      simp [oMd, h1]
    | true =>
      refine oT_N 1 rfl (oT_If (fun (q : (1 : Int32) = 0) => absurd q (by decide)) (fun _ => ?_))
      refine oT_N 4 rfl (oT_V rfl rfl rfl rfl (by omega) (by omega) (ot_isB hz hy ha hb) (fun x σ2 h => by cases h.1) (fun v σ3 hv => ?_))
      obtain ⟨hv, rfl⟩ := hv
      cases hv
      cases h2 : oB σ3 y a b with
      | true =>
        refine oT_N 1 rfl (oT_If (fun (q : (1 : Int32) = 0) => absurd q (by decide)) (fun _ => ?_))
        refine oT_N 1 rfl (oT_Ret rfl rfl rfl ⟨?_, rfl⟩)
        simp [oMd, h2]
      | false =>
        refine oT_N 1 rfl (oT_If (fun _ => ?_) (fun (q : ¬ (0 : Int32) = 0) => absurd rfl q))
        refine oT_N 2 rfl (oT_Ret rfl rfl rfl ⟨?_, rfl⟩)
        simp [oMd, h1, h2]
  | 3, _ =>
    refine oT_N 6 rfl (oT_V rfl rfl rfl rfl (by omega) (by omega) (ot_isJoined hz hn hn12 hx hy ha hb (by omega) (by omega)) (fun x σ2 h => by cases h.1) (fun v σ2 hv => ?_))
    obtain ⟨hv, rfl⟩ := hv
    cases hv
    exact oT_Ret rfl rfl (ox_b01 _) ⟨rfl, rfl⟩
  | 4, _ =>
    refine oT_N 5 rfl (oT_V rfl rfl rfl rfl (by omega) (by omega) (ot_isB hz hx hb ha) (fun x σ2 h => by cases h.1) (fun v σ2 hv => ?_))
    obtain ⟨hv, rfl⟩ := hv
    cases hv
    exact oT_Ret rfl rfl (ox_b01 _) ⟨rfl, rfl⟩
  | 5, _ =>
    refine oT_N 5 rfl (oT_V rfl rfl rfl rfl (by omega) (by omega) (ot_isB hz hx ha hb) (fun x σ2 h => by cases h.1) (fun v σ2 hv => ?_))
    obtain ⟨hv, rfl⟩ := hv
    cases hv
    exact oT_Ret rfl rfl (ox_b01 _) ⟨rfl, rfl⟩
  | h + 6, hh => exact absurd hh (by omega)
