/-- a program: threads, events, and of each event its thread, kind, place, value, and what depends on it -/
abbrev oPr : Type := Nat × Nat × (Nat → Nat) × (Nat → Nat) × (Nat → Nat) × (Nat → Int32) × (Nat → Nat → Bool)
abbrev oPr.T (P : oPr) : Nat := P.1
abbrev oPr.n (P : oPr) : Nat := P.2.1
abbrev oPr.th (P : oPr) : Nat → Nat := P.2.2.1
abbrev oPr.kd (P : oPr) : Nat → Nat := P.2.2.2.1
abbrev oPr.pl (P : oPr) : Nat → Nat := P.2.2.2.2.1
abbrev oPr.vl (P : oPr) : Nat → Int32 := P.2.2.2.2.2.1
abbrev oPr.dp (P : oPr) : Nat → Nat → Bool := P.2.2.2.2.2.2
def oPr.ok (P : oPr) : Prop := P.T ≤ 4 ∧ P.n ≤ 12 ∧ ∀ e, e < P.n → P.th e < P.T ∧ P.kd e ≤ 2 ∧ (P.kd e < 2 → P.pl e < 4)
/-- the reference holds the program -/
def oM (σ : ox_S) (P : oPr) : Prop := P.ok ∧ σ 7 1 = nI P.T ∧ σ 7 2 = nI P.n ∧ ∀ e, e < P.n → σ 43 e = nI (P.th e) ∧ σ 44 e = nI (P.kd e) ∧ σ 45 e = (if P.kd e < 2 then nI (P.pl e) else -1) ∧ σ 46 e = P.vl e ∧ ∀ b, b < P.n → σ 47 (12 * e + b) = (if P.dp e b then 1 else 0)
/-- reads among the first m events; writes to p among them -/
def ocR (P : oPr) : Nat → Nat
  | 0 => 0
  | m + 1 => ocR P m + (if P.kd m = 0 then 1 else 0)
def ocW (P : oPr) (p : Nat) : Nat → Nat
  | 0 => 0
  | m + 1 => ocW P p m + (if P.kd m = 1 ∧ P.pl m = p then 1 else 0)
theorem ocR_le (P : oPr) : ∀ m, ocR P m ≤ m
  | 0 => Nat.le_refl 0
  | m + 1 => by
    have := ocR_le P m
    unfold ocR
    split <;> omega
theorem ocW_le (P : oPr) (p : Nat) : ∀ m, ocW P p m ≤ m
  | 0 => Nat.le_refl 0
  | m + 1 => by
    have := ocW_le P p m
    unfold ocW
    split <;> omega
theorem ox_add0 (x : Int32) : x + Int32.ofInt 0 = x := Int32.add_zero x
theorem ot_reads {L k : Nat} {σ : ox_S} {P : oPr} (h : oM σ P) : oT L k 63 0 [some (.ref 7), none, none] [] σ (fun o σ' => o = .inl (some (.int (nI (ocR P P.n)))) ∧ σ' = σ) := by
  obtain ⟨⟨hT, hn, hok⟩, h1, h2, h3⟩ := h
  refine oT_N 4 rfl ?_
  have loop : ∀ d i, i + d = P.n → oT L k 63 4 [some (.ref 7), some (.int (nI (ocR P i))), some (.int (nI i))] [] σ (fun o σ' => o = .inl (some (.int (nI (ocR P P.n)))) ∧ σ' = σ) := by
    intro d
    induction d with
    | zero =>
      intro i hi
      refine oT_N 4 rfl (oT_If (fun (h0 : σ 7 2 ≤ nI i) => ?_) (fun (h0 : ¬ σ 7 2 ≤ nI i) => ?_))
      · obtain rfl : i = P.n := by omega
        exact oT_N 1 rfl (oT_Ret rfl rfl rfl ⟨rfl, rfl⟩)
      · rw [h2] at h0
        exact absurd (nI_le (by omega) (by omega)) h0
    | succ d ih =>
      intro i hi
      have e := ih (i + 1) (by omega)
      obtain ⟨g1, g2, g3, -⟩ := h3 i (by omega)
      refine oT_N 4 rfl (oT_If (fun (h0 : σ 7 2 ≤ nI i) => ?_) (fun (h0 : ¬ σ 7 2 ≤ nI i) => ?_))
      · rw [h2] at h0
        exact absurd h0 (nI_ge (by omega) (by omega))
      · refine oT_N 4 rfl (oT_I (o := 44) (n := nI i) rfl (Or.inl ⟨rfl, by decide⟩) (ox_ix (N := 12) (by omega) (by decide)) ?_)
        rw [nI_clamp (show i < 2 ^ 31 by omega), g2]
        refine oT_N 1 rfl (oT_If (fun (h9 : nI (P.kd i) = 0) => ?_) (fun (h9 : ¬ nI (P.kd i) = 0) => ?_))
        · have hk : P.kd i = 0 := (nI_eq (by have := hok i (by omega); omega) (by decide)).mp h9
          refine oT_N 6 rfl ?_
          rw [show ocR P (i + 1) = ocR P i + 1 by simp only [ocR]; rw [if_pos hk], ← ox_inc i, ← ox_inc (ocR P i)] at e
          exact e
        · have hk : ¬ P.kd i = 0 := fun q => h9 (by rw [q]; rfl)
          refine oT_N 5 rfl ?_
          rw [show ocR P (i + 1) = ocR P i by simp only [ocR]; rw [if_neg hk]; rfl, ← ox_inc i] at e
          rw [← ox_add0 (nI (ocR P i))] at e
          exact e
  exact loop P.n 0 (by omega)
theorem ox_kdI {P : oPr} {e m : Nat} (h : P.kd e ≤ 2) (hm : m < 2 ^ 31) : nI (P.kd e) = nI m ↔ P.kd e = m := nI_eq (by omega) hm
theorem ox_plI {P : oPr} {e p : Nat} (hk : P.kd e < 2) (h : P.kd e < 2 → P.pl e < 4) (hp : p < 2 ^ 31) : (if P.kd e < 2 then nI (P.pl e) else -1) = nI p ↔ P.pl e = p := by
  rw [if_pos hk]
  exact nI_eq (by have := h hk; omega) hp
theorem ot_writes {L k : Nat} {σ : ox_S} {P : oPr} {p : Nat} (h : oM σ P) (hp : p < 2 ^ 31) : oT L k 64 0 [some (.ref 7), some (.int (nI p)), none, none] [] σ (fun o σ' => o = .inl (some (.int (nI (ocW P p P.n)))) ∧ σ' = σ) := by
  obtain ⟨⟨hT, hn, hok⟩, h1, h2, h3⟩ := h
  refine oT_N 4 rfl ?_
  have loop : ∀ d i, i + d = P.n → oT L k 64 4 [some (.ref 7), some (.int (nI p)), some (.int (nI (ocW P p i))), some (.int (nI i))] [] σ (fun o σ' => o = .inl (some (.int (nI (ocW P p P.n)))) ∧ σ' = σ) := by
    intro d
    induction d with
    | zero =>
      intro i hi
      refine oT_N 4 rfl (oT_If (fun (h0 : σ 7 2 ≤ nI i) => ?_) (fun (h0 : ¬ σ 7 2 ≤ nI i) => ?_))
      · obtain rfl : i = P.n := by omega
        exact oT_N 1 rfl (oT_Ret rfl rfl rfl ⟨rfl, rfl⟩)
      · rw [h2] at h0
        exact absurd (nI_le (by omega) (by omega)) h0
    | succ d ih =>
      intro i hi
      have e := ih (i + 1) (by omega)
      obtain ⟨g1, g2, g3, -⟩ := h3 i (by omega)
      obtain ⟨o1, o2, o3⟩ := hok i (by omega)
      refine oT_N 4 rfl (oT_If (fun (h0 : σ 7 2 ≤ nI i) => ?_) (fun (h0 : ¬ σ 7 2 ≤ nI i) => ?_))
      · rw [h2] at h0
        exact absurd h0 (nI_ge (by omega) (by omega))
      · refine oT_N 4 rfl (oT_I (o := 44) (n := nI i) rfl (Or.inl ⟨rfl, by decide⟩) (ox_ix (N := 12) (by omega) (by decide)) ?_)
        rw [nI_clamp (show i < 2 ^ 31 by omega), g2]
        have hno : ¬ (P.kd i = 1 ∧ P.pl i = p) → oT L k 64 4 [some (.ref 7), some (.int (nI p)), some (.int (nI (ocW P p i) + Int32.ofInt 0)), some (.int (nI i + Int32.ofInt 1))] [] σ (fun o σ' => o = .inl (some (.int (nI (ocW P p P.n)))) ∧ σ' = σ) := fun hk => by
          rw [show ocW P p (i + 1) = ocW P p i by simp only [ocW]; rw [if_neg hk]; rfl, ← ox_inc i] at e
          rw [ox_add0]
          exact e
        refine oT_N 2 rfl (oT_If (fun (h9 : nI (P.kd i) = nI 1) => ?_) (fun (h9 : ¬ nI (P.kd i) = nI 1) => ?_))
        · have hk : P.kd i = 1 := (ox_kdI o2 (by decide)).mp h9
          refine oT_N 3 rfl (oT_I (o := 45) (n := nI i) rfl (Or.inl ⟨rfl, by decide⟩) (ox_ix (N := 12) (by omega) (by decide)) ?_)
          rw [nI_clamp (show i < 2 ^ 31 by omega), g3]
          refine oT_N 2 rfl (oT_If (fun (h8 : (if P.kd i < 2 then nI (P.pl i) else -1) = nI p) => ?_) (fun (h8 : ¬ (if P.kd i < 2 then nI (P.pl i) else -1) = nI p) => ?_))
          · have hq := (ox_plI (by omega) o3 hp).mp h8
            refine oT_N 6 rfl ?_
            rw [show ocW P p (i + 1) = ocW P p i + 1 by simp only [ocW]; rw [if_pos ⟨hk, hq⟩], ← ox_inc i, ← ox_inc (ocW P p i)] at e
            exact e
          · exact oT_N 5 rfl (hno (fun q => h8 ((ox_plI (by omega) o3 hp).mpr q.2)))
        · exact oT_N 5 rfl (hno (fun q => h9 (by rw [q.1])))
  exact loop P.n 0 (by omega)
