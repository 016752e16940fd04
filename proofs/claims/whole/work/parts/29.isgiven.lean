/-- PROGRAM; of one place; FROM -/
def oPg (P : oPr) (a b : Nat) : Bool := decide (P.th a = P.th b) && decide (a < b)
def oAl (P : oPr) (a b : Nat) : Bool := decide (P.kd a ≠ 2) && decide (P.kd b ≠ 2) && decide (P.pl a = P.pl b)
def oFr (P : oPr) (σ : ox_S) (a b : Nat) : Bool := decide (P.kd b = 0) && decide (σ 52 (ocR P b) = nI a)
/-- the given relations, by the sources σ 52 and the ranks σ 55 -/
def oGv (P : oPr) (σ : ox_S) (r a b : Nat) : Bool := match r with
  | 0 => oPg P a b
  | 1 => oFr P σ a b
  | 2 => decide (P.kd a = 1) && decide (P.kd b = 1) && oAl P a b && decide (σ 55 a < σ 55 b)
  | 3 => decide (P.kd a = 0) && decide (P.kd b = 1) && oAl P a b && (decide (σ 52 (ocR P a) < 0) || decide (σ 55 (σ 52 (ocR P a)).toNatClampNeg < σ 55 b))
  | 4 => oFr P σ a b && decide (P.th a ≠ P.th b)
  | 5 => oPg P a b && oAl P a b
  | 6 => P.dp a b
  | 7 => oPg P a b && (oFn P a b && decide (P.kd a ≠ 2) && decide (P.kd b ≠ 2))
  | r => oPg P a b && decide (P.kd a = (r - 8) / 2) && decide (P.kd b = (r - 8) % 2)
/-- sources are events or none -/
def oSr (σ : ox_S) (P : oPr) : Prop := ∀ e, e < P.n → P.kd e = 0 → σ 52 (ocR P e) < 0 ∨ ∃ w, w < 12 ∧ σ 52 (ocR P e) = nI w
section OXG
variable {L k r a b : Nat} {σ : ox_S} {P : oPr} {Post : ox_O → ox_S → Prop}
/-- the first part of isGiven: up to its switch -/
theorem ot_isGiven0 (h : oM σ P) (ha : a < P.n) (hb : b < P.n) (hk : 1 ≤ k) (hk9 : k ≤ 8)
    (K : oT L (k + 1) 71 94 [some (.ref 7), some (.int (nI r)), some (.int (nI a)), some (.int (nI b)), some (.int (if oPg P a b then 1 else 0)), some (.int (if oAl P a b then 1 else 0)), some (.int (if oFr P σ a b then 1 else 0))] [] σ Post) :
    oT L (k + 1) 71 0 [some (.ref 7), some (.int (nI r)), some (.int (nI a)), some (.int (nI b)), none, none, none] [] σ Post := by
  obtain ⟨⟨hT, hn, hok⟩, h1, h2, h3⟩ := id h
  obtain ⟨ga1, ga2, ga3, -⟩ := h3 a ha
  obtain ⟨gb1, gb2, gb3, -⟩ := h3 b hb
  obtain ⟨oa1, oa2, oa3⟩ := hok a ha
  obtain ⟨ob1, ob2, ob3⟩ := hok b hb
  have hac : (nI a).toNatClampNeg = a := nI_clamp (by omega)
  have hbc : (nI b).toNatClampNeg = b := nI_clamp (by omega)
  have m92 : ∀ fr : Bool, oFr P σ a b = fr → oT L (k + 1) 71 92 [some (.ref 7), some (.int (nI r)), some (.int (nI a)), some (.int (nI b)), some (.int (if oPg P a b then 1 else 0)), some (.int (if oAl P a b then 1 else 0)), none] [.int (if fr then 1 else 0)] σ Post := fun fr hf => by
    subst hf
    exact oT_N 1 rfl K
  have m67 : ∀ al : Bool, oAl P a b = al → oT L (k + 1) 71 67 [some (.ref 7), some (.int (nI r)), some (.int (nI a)), some (.int (nI b)), some (.int (if oPg P a b then 1 else 0)), none, none] [.int (if al then 1 else 0)] σ Post := fun al hal => by
    subst hal
    refine oT_N 4 rfl (oT_I (o := 44) (n := nI b) rfl (Or.inl ⟨rfl, by decide⟩) (ox_ix (N := 12) (by omega) (by decide)) ?_)
    rw [hbc, gb2]
    refine oT_N 1 rfl (oT_If (fun (q : nI (P.kd b) = 0) => ?_) (fun (q : ¬ nI (P.kd b) = 0) => ?_))
    · have hkb : P.kd b = 0 := (nI_eq (by omega) (by decide)).mp q
      refine oT_N 2 rfl (oT_V rfl rfl rfl rfl (by omega) (by omega) (ot_sourceAt h hb) (fun x σ2 h => by cases h.1) (fun v σ2 hv => ?_))
      obtain ⟨hv, rfl⟩ := hv
      cases hv
      refine oT_N 2 rfl (oT_If (fun (q2 : σ2 52 (ocR P b) = nI a) => ?_) (fun (q2 : ¬ σ2 52 (ocR P b) = nI a) => ?_))
      · exact oT_N 2 rfl (m92 true (by simp [oFr, hkb, q2]))
      · exact oT_N 1 rfl (m92 false (by simp [oFr, q2]))
    · have hkb : ¬ P.kd b = 0 := fun e => q (by rw [e]; rfl)
      exact oT_N 1 rfl (m92 false (by simp [oFr, hkb]))
  have m25 : ∀ pg : Bool, oPg P a b = pg → oT L (k + 1) 71 25 [some (.ref 7), some (.int (nI r)), some (.int (nI a)), some (.int (nI b)), none, none, none] [.int (if pg then 1 else 0)] σ Post := fun pg hpg => by
    subst hpg
    refine oT_N 4 rfl (oT_I (o := 44) (n := nI a) rfl (Or.inl ⟨rfl, by decide⟩) (ox_ix (N := 12) (by omega) (by decide)) ?_)
    rw [hac, ga2]
    refine oT_N 2 rfl (oT_If (fun (q : nI (P.kd a) = nI 2) => ?_) (fun (q : ¬ nI (P.kd a) = nI 2) => ?_))
    · have hka := (ox_kdI oa2 (by decide)).mp q
      exact oT_N 1 rfl (m67 false (by simp [oAl, hka]))
    · have hka : P.kd a ≠ 2 := fun e => q (by rw [e])
      refine oT_N 3 rfl (oT_I (o := 44) (n := nI b) rfl (Or.inl ⟨rfl, by decide⟩) (ox_ix (N := 12) (by omega) (by decide)) ?_)
      rw [hbc, gb2]
      refine oT_N 2 rfl (oT_If (fun (q2 : nI (P.kd b) = nI 2) => ?_) (fun (q2 : ¬ nI (P.kd b) = nI 2) => ?_))
      · have hkb := (ox_kdI ob2 (by decide)).mp q2
        exact oT_N 1 rfl (m67 false (by simp [oAl, hkb]))
      · have hkb : P.kd b ≠ 2 := fun e => q2 (by rw [e])
        refine oT_N 3 rfl (oT_I (o := 45) (n := nI a) rfl (Or.inl ⟨rfl, by decide⟩) (ox_ix (N := 12) (by omega) (by decide)) ?_)
        rw [hac, ga3, if_pos (show P.kd a < 2 by omega)]
        refine oT_N 3 rfl (oT_I (o := 45) (n := nI b) rfl (Or.inl ⟨rfl, by decide⟩) (ox_ix (N := 12) (by omega) (by decide)) ?_)
        rw [hbc, gb3, if_pos (show P.kd b < 2 by omega)]
        have pa := oa3 (by omega)
        have pb := ob3 (by omega)
        refine oT_N 1 rfl (oT_If (fun (q3 : nI (P.pl a) = nI (P.pl b)) => ?_) (fun (q3 : ¬ nI (P.pl a) = nI (P.pl b)) => ?_))
        · have hp := (nI_eq (by omega) (by omega)).mp q3
          exact oT_N 2 rfl (m67 true (by simp [oAl, hka, hkb, hp]))
        · have hp : P.pl a ≠ P.pl b := fun e => q3 (by rw [e])
          exact oT_N 1 rfl (m67 false (by simp [oAl, hp]))
  refine oT_N 3 rfl (oT_I (o := 43) (n := nI a) rfl (Or.inl ⟨rfl, by decide⟩) (ox_ix (N := 12) (by omega) (by decide)) ?_)
  rw [hac, ga1]
  refine oT_N 3 rfl (oT_I (o := 43) (n := nI b) rfl (Or.inl ⟨rfl, by decide⟩) (ox_ix (N := 12) (by omega) (by decide)) ?_)
  rw [hbc, gb1]
  refine oT_N 1 rfl (oT_If (fun (q : nI (P.th a) = nI (P.th b)) => ?_) (fun (q : ¬ nI (P.th a) = nI (P.th b)) => ?_))
  · have ht := (nI_eq (by omega) (by omega)).mp q
    refine oT_N 3 rfl (oT_If (fun (q2 : nI b ≤ nI a) => ?_) (fun (q2 : ¬ nI b ≤ nI a) => ?_))
    · have hl := (nI_leI (by omega) (by omega)).mp q2
      exact oT_N 1 rfl (m25 false (by simp [oPg, show ¬ a < b by omega]))
    · have hl : a < b := Nat.lt_of_not_le (fun e => q2 (nI_le e (by omega)))
      exact oT_N 2 rfl (m25 true (by simp [oPg, ht, hl]))
  · have ht : P.th a ≠ P.th b := fun e => q (by rw [e])
    exact oT_N 1 rfl (m25 false (by simp [oPg, ht]))
end OXG
