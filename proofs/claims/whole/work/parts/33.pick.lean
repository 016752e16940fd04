section OXU
variable {L k mi p q : Nat} {ls : List (Option Value)} {st : List Value} {σ : ox_S} {Post : ox_O → ox_S → Prop} {x y : Int32}
theorem oT_le (a b : Nat) (hx : x = nI a) (hy : y = nI b) (ha : a < 2 ^ 31) (hb : b < 2 ^ 31) (f : a ≤ b → oT L k mi p ls st σ Post) (g : b < a → oT L k mi q ls st σ Post) : oT L k mi (if x ≤ y then p else q) ls st σ Post := by
  subst hx hy
  exact oT_If (fun h => f ((nI_leI ha hb).mp h)) (fun h => g (Nat.lt_of_not_le (fun e => h ((nI_leI ha hb).mpr e))))
theorem oT_lt (a b : Nat) (hx : x = nI a) (hy : y = nI b) (ha : a < 2 ^ 31) (hb : b < 2 ^ 31) (f : a < b → oT L k mi p ls st σ Post) (g : b ≤ a → oT L k mi q ls st σ Post) : oT L k mi (if x < y then p else q) ls st σ Post := by
  subst hx hy
  exact oT_If (fun h => f ((nI_ltI ha hb).mp h)) (fun h => g (Nat.le_of_not_lt (fun e => h ((nI_ltI ha hb).mpr e))))
theorem oT_eq (a b : Nat) (hx : x = nI a) (hy : y = nI b) (ha : a < 2 ^ 31) (hb : b < 2 ^ 31) (f : a = b → oT L k mi p ls st σ Post) (g : a ≠ b → oT L k mi q ls st σ Post) : oT L k mi (if x = y then p else q) ls st σ Post := by
  subst hx hy
  exact oT_If (fun h => f ((nI_eq ha hb).mp h)) (fun h => g (fun e => h ((nI_eq ha hb).mpr e)))
/-- a tested boolean -/
theorem oT_b (t : Bool) (hx : x = if t then 1 else 0) (f : t = false → oT L k mi p ls st σ Post) (g : t = true → oT L k mi q ls st σ Post) : oT L k mi (if x = 0 then p else q) ls st σ Post := by
  subst hx
  cases t
  · exact oT_If (fun _ => f rfl) (fun h => absurd rfl h)
  · exact oT_If (fun h => absurd h (by decide)) (fun _ => g rfl)
end OXU
theorem ox_dec (m : Nat) : nI (m + 1) + Int32.ofInt (-1) = nI m := pk_m1 m
theorem ox_sb1 (m : Nat) : nI (m + 1) - Int32.ofInt 1 = nI m := nI_pred m
/-- the member with k lower ones -/
def oKt (f : Nat → Bool) : Nat → Nat → Nat
  | 0, _ => 0
  | m + 1, k => if f m = true ∧ oCn f m = k then m else oKt f m k
theorem oCn_mono {f : Nat → Bool} {m m' : Nat} (h : m ≤ m') : oCn f m ≤ oCn f m' := by
  induction m' with
  | zero => obtain rfl : m = 0 := by omega
            exact Nat.le_refl _
  | succ m' ih =>
    rcases Nat.lt_or_ge m' m with q | q
    · obtain rfl : m = m' + 1 := by omega
      exact Nat.le_refl _
    · have := ih q
      simp only [oCn]
      split <;> omega
theorem oCn_lt {f : Nat → Bool} {e n : Nat} (h : e < n) (hf : f e = true) : oCn f e < oCn f n := by
  have h1 : oCn f (e + 1) = oCn f e + 1 := by simp [oCn, hf]
  have := oCn_mono (f := f) (show e + 1 ≤ n from h)
  omega
theorem oCn_ext {f g : Nat → Bool} : ∀ n, (∀ j, j < n → f j = g j) → oCn f n = oCn g n
  | 0, _ => rfl
  | n + 1, h => by
    simp only [oCn]
    rw [oCn_ext n (fun j hj => h j (by omega)), h n (by omega)]
theorem oKt_ext {f g : Nat → Bool} {k : Nat} : ∀ n, (∀ j, j < n → f j = g j) → oKt f n k = oKt g n k
  | 0, _ => rfl
  | n + 1, h => by
    simp only [oKt]
    rw [oKt_ext n (fun j hj => h j (by omega)), h n (by omega), oCn_ext n (fun j hj => h j (by omega))]
theorem oKt_sp {f : Nat → Bool} {k : Nat} : ∀ n, k < oCn f n → oKt f n k < n ∧ f (oKt f n k) = true ∧ oCn f (oKt f n k) = k
  | 0, h => absurd h (Nat.not_lt_zero _)
  | n + 1, h => by
    simp only [oKt]
    by_cases e : f n = true ∧ oCn f n = k
    · rw [if_pos e]
      exact ⟨Nat.lt_succ_self n, e⟩
    · rw [if_neg e]
      have h2 : k < oCn f n := by
        simp only [oCn] at h
        by_cases e2 : f n = true
        · rw [if_pos e2] at h
          have : oCn f n ≠ k := fun q => e ⟨e2, q⟩
          omega
        · rw [if_neg e2] at h
          omega
      obtain ⟨h3, h4⟩ := oKt_sp n h2
      exact ⟨by omega, h4⟩
theorem oCn_inj {f : Nat → Bool} {a b : Nat} (ha : f a = true) (hb : f b = true) (h : oCn f a = oCn f b) : a = b := by
  rcases Nat.lt_trichotomy a b with q | q | q
  · have := oCn_lt q ha; omega
  · exact q
  · have := oCn_lt q hb; omega
theorem oKt_of {f : Nat → Bool} {e n : Nat} (h : e < n) (hf : f e = true) : oKt f n (oCn f e) = e := by
  obtain ⟨h1, h2, h3⟩ := oKt_sp n (oCn_lt h hf)
  exact oCn_inj h2 hf h3
/-- an event reads; writes to p -/
def oIr (P : oPr) (e : Nat) : Bool := decide (P.kd e = 0)
def oIw (P : oPr) (p e : Nat) : Bool := decide (P.kd e = 1 ∧ P.pl e = p)
theorem ocR_cn (P : oPr) : ∀ m, ocR P m = oCn (oIr P) m
  | 0 => rfl
  | m + 1 => by simp only [ocR, oCn, ocR_cn P m, oIr, decide_eq_true_eq]
theorem ocW_cn (P : oPr) (p : Nat) : ∀ m, ocW P p m = oCn (oIw P p) m
  | 0 => rfl
  | m + 1 => by simp only [ocW, oCn, ocW_cn P p m, oIw, decide_eq_true_eq]
/-- how many writes to p; the i-th read; the j-th write to p -/
def oW (P : oPr) (p : Nat) : Nat := ocW P p P.n
def oRd (P : oPr) (i : Nat) : Nat := oKt (oIr P) P.n i
def oWr (P : oPr) (p j : Nat) : Nat := oKt (oIw P p) P.n j
theorem oRd_sp {P : oPr} {i : Nat} (h : i < ocR P P.n) : oRd P i < P.n ∧ P.kd (oRd P i) = 0 ∧ ocR P (oRd P i) = i := by
  rw [ocR_cn] at h
  obtain ⟨h1, h2, h3⟩ := oKt_sp P.n h
  exact ⟨h1, of_decide_eq_true h2, by rw [ocR_cn]; exact h3⟩
theorem oRd_of {P : oPr} {e : Nat} (h : e < P.n) (hk : P.kd e = 0) : oRd P (ocR P e) = e ∧ ocR P e < ocR P P.n := by
  rw [ocR_cn, ocR_cn]
  exact ⟨oKt_of h (by simp [oIr, hk]), oCn_lt h (by simp [oIr, hk])⟩
theorem oWr_sp {P : oPr} {p j : Nat} (h : j < oW P p) : oWr P p j < P.n ∧ P.kd (oWr P p j) = 1 ∧ P.pl (oWr P p j) = p ∧ ocW P p (oWr P p j) = j := by
  unfold oW at h
  rw [ocW_cn] at h
  obtain ⟨h1, h2, h3⟩ := oKt_sp P.n h
  have h2' : P.kd (oWr P p j) = 1 ∧ P.pl (oWr P p j) = p := of_decide_eq_true h2
  exact ⟨h1, h2'.1, h2'.2, by rw [ocW_cn]; exact h3⟩
theorem oWr_of {P : oPr} {p e : Nat} (h : e < P.n) (hk : P.kd e = 1) (hp : P.pl e = p) : oWr P p (ocW P p e) = e ∧ ocW P p e < oW P p := by
  unfold oW
  rw [ocW_cn, ocW_cn]
  exact ⟨oKt_of h (by simp [oIw, hk, hp]), oCn_lt h (by simp [oIw, hk, hp])⟩
def oFc : Nat → Nat
  | 0 => 1
  | n + 1 => (n + 1) * oFc n
theorem oFc_pos : ∀ n, 0 < oFc n
  | 0 => Nat.one_pos
  | n + 1 => Nat.mul_pos (Nat.succ_pos n) (oFc_pos n)
/-- what is left of x when the last j places are taken -/
def oRs (P : oPr) (x : Nat) : Nat → Nat
  | 0 => x
  | j + 1 => oRs P x j / oFc (oW P (3 - j))
/-- .. and when the last j reads are taken, too -/
def oRr (P : oPr) (x : Nat) : Nat → Nat
  | 0 => oRs P x 4
  | j + 1 => oRr P x j / (1 + oW P (P.pl (oRd P (ocR P P.n - 1 - j))))
theorem oRs_le (P : oPr) (x : Nat) : ∀ j, oRs P x j ≤ x
  | 0 => Nat.le_refl x
  | j + 1 => Nat.le_trans (Nat.div_le_self _ _) (oRs_le P x j)
theorem oRr_le (P : oPr) (x : Nat) : ∀ j, oRr P x j ≤ x
  | 0 => oRs_le P x 4
  | j + 1 => Nat.le_trans (Nat.div_le_self _ _) (oRr_le P x j)
/-- what the i-th read picks; its source -/
def oPk (P : oPr) (x i : Nat) : Nat := oRr P x (ocR P P.n - 1 - i) % (1 + oW P (P.pl (oRd P i)))
def oSc (P : oPr) (x i : Nat) : Int32 := if oPk P x i = 0 then -1 else nI (oWr P (P.pl (oRd P i)) (oPk P x i - 1))
/-- the i-th pick of place p; what is left to be picked; what is picked -/
def oDg (P : oPr) (x p i : Nat) : Nat := oRs P x (3 - p) / oFc (oW P p - 1 - i) % (oW P p - i)
def oSt (P : oPr) (x p : Nat) : Nat → Nat → Bool
  | 0 => oIw P p
  | i + 1 => fun e => oSt P x p i e && decide (e ≠ oKt (oSt P x p i) P.n (oDg P x p i))
def oOd (P : oPr) (x p i : Nat) : Nat := oKt (oSt P x p i) P.n (oDg P x p i)
theorem oSt_sub {P : oPr} {x p e : Nat} : ∀ i, oSt P x p i e = true → P.kd e = 1 ∧ P.pl e = p
  | 0, h => by simpa [oSt, oIw] using h
  | i + 1, h => by
    simp only [oSt, Bool.and_eq_true] at h
    exact oSt_sub i h.1
theorem oDg_lt {P : oPr} {x p i : Nat} (h : i < oW P p) : oDg P x p i < oW P p - i := Nat.mod_lt _ (by omega)
theorem oCn_down {f g : Nat → Bool} {q n : Nat} (hq : q < n) (hf : f q = true) (hg : g q = false) (ho : ∀ j, j ≠ q → g j = f j) : oCn f n = oCn g n + 1 := by
  have := oCn_up hg hf (fun j hj => (ho j hj).symm) n
  rw [if_pos hq] at this
  exact this
theorem oSt_cn {P : oPr} {x p : Nat} : ∀ i, i ≤ oW P p → oCn (oSt P x p i) P.n = oW P p - i
  | 0, _ => by show oCn (oIw P p) P.n = _; rw [← ocW_cn]; rfl
  | i + 1, h => by
    have ih := oSt_cn (P := P) (x := x) (p := p) i (by omega)
    obtain ⟨h1, h2, h3⟩ := oKt_sp (f := oSt P x p i) (k := oDg P x p i) P.n (by rw [ih]; exact oDg_lt (by omega))
    have h4 := oCn_down (f := oSt P x p i) (g := oSt P x p (i + 1)) h1 h2 (by simp [oSt]) (fun j hj => by simp [oSt, hj])
    omega
theorem oOd_sp {P : oPr} {x p i : Nat} (h : i < oW P p) : oOd P x p i < P.n ∧ oSt P x p i (oOd P x p i) = true ∧ oCn (oSt P x p i) (oOd P x p i) = oDg P x p i :=
  oKt_sp P.n (by rw [oSt_cn i (by omega)]; exact oDg_lt h)
theorem oOd_w {P : oPr} {x p i : Nat} (h : i < oW P p) : oOd P x p i < P.n ∧ P.kd (oOd P x p i) = 1 ∧ P.pl (oOd P x p i) = p :=
  ⟨(oOd_sp h).1, oSt_sub i (oOd_sp h).2.1⟩
/-- what is left holds what isn't picked -/
theorem oSt_mem {P : oPr} {x p e : Nat} : ∀ i, oSt P x p i e = true ↔ (P.kd e = 1 ∧ P.pl e = p) ∧ ∀ j, j < i → e ≠ oOd P x p j
  | 0 => by simp [oSt, oIw]
  | i + 1 => by
    have ih := oSt_mem (P := P) (x := x) (p := p) (e := e) i
    simp only [oSt, Bool.and_eq_true, ih, decide_eq_true_eq]
    constructor
    · rintro ⟨⟨h1, h2⟩, h3⟩
      refine ⟨h1, fun j hj => ?_⟩
      rcases Nat.lt_or_ge j i with q | q
      · exact h2 j q
      · obtain rfl : j = i := by omega
        exact h3
    · rintro ⟨h1, h2⟩
      exact ⟨⟨h1, fun j hj => h2 j (by omega)⟩, h2 i (by omega)⟩
theorem oOd_inj {P : oPr} {x p i j : Nat} (hi : i < oW P p) (hj : j < oW P p) (h : oOd P x p i = oOd P x p j) : i = j := by
  rcases Nat.lt_trichotomy i j with q | q | q
  · exact absurd h.symm (((oSt_mem j).mp (oOd_sp hj).2.1).2 i q)
  · exact q
  · exact absurd h (((oSt_mem i).mp (oOd_sp hi).2.1).2 j q)
/-- every write is picked -/
theorem oOd_on {P : oPr} {x p e : Nat} (he : e < P.n) (hk : P.kd e = 1) (hp : P.pl e = p) : ∃ i, i < oW P p ∧ oOd P x p i = e := by
  have h0 := oSt_cn (P := P) (x := x) (p := p) (oW P p) (Nat.le_refl _)
  by_cases h : ∃ i, i < oW P p ∧ oOd P x p i = e
  · exact h
  · have h1 : oSt P x p (oW P p) e = true := (oSt_mem _).mpr ⟨⟨hk, hp⟩, fun j hj q => h ⟨j, hj, q.symm⟩⟩
    have := oCn_lt he h1
    omega
/-- the number of executions -/
def oNr (P : oPr) : Nat → Nat
  | 0 => 1
  | i + 1 => oNr P i * (1 + oW P (P.pl (oRd P i)))
def oNw (P : oPr) : Nat → Nat
  | 0 => 1
  | p + 1 => oNw P p * oFc (oW P p)
def oNx (P : oPr) : Nat := oNr P (ocR P P.n) * oNw P 4
