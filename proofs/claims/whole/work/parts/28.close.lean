/-- the smallest relation over f, on the first n, that is closed under steps -/
def oTc (n : Nat) (f : Nat → Nat → Bool) (a b : Nat) : Prop :=
  ∀ g : Nat → Nat → Prop, (∀ x y, x < n → y < n → f x y = true → g x y) → (∀ x y z, x < n → y < n → z < n → g x y → g y z → g x z) → g a b
theorem oTc_of {n : Nat} {f : Nat → Nat → Bool} {a b : Nat} (ha : a < n) (hb : b < n) (h : f a b = true) : oTc n f a b := fun _ h1 _ => h1 a b ha hb h
theorem oTc_tr {n : Nat} {f : Nat → Nat → Bool} {a b c : Nat} (ha : a < n) (hb : b < n) (hc : c < n) (h : oTc n f a b) (h2 : oTc n f b c) : oTc n f a c := fun g g1 g2 => g2 a b c ha hb hc (h g g1 g2) (h2 g g1 g2)
/-- how many of the first N -/
def oCn (f : Nat → Bool) : Nat → Nat
  | 0 => 0
  | N + 1 => oCn f N + (if f N then 1 else 0)
theorem oCn_le (f : Nat → Bool) : ∀ N, oCn f N ≤ N
  | 0 => Nat.le_refl 0
  | N + 1 => by
    have := oCn_le f N
    unfold oCn
    split <;> omega
theorem oCn_up {f g : Nat → Bool} {q : Nat} (hf : f q = false) (hg : g q = true) (ho : ∀ j, j ≠ q → g j = f j) : ∀ N, oCn g N = oCn f N + (if q < N then 1 else 0)
  | 0 => rfl
  | N + 1 => by
    have ih := oCn_up hf hg ho N
    unfold oCn
    by_cases h : N = q
    · subst h
      rw [ih, hf, hg]
      simp
    · rw [ih, ho N h]
      have hh : (q < N + 1) ↔ (q < N) := by omega
      simp only [hh]
      omega
/-- what 'close' may have done so far -/
def oCj (σ σ' : ox_S) (r n : Nat) : Prop :=
  (∀ o, o ≠ 56 → σ' o = σ o) ∧ (∀ q, (∀ a b, a < n → b < n → q ≠ 144 * r + 12 * a + b) → σ' 56 q = σ 56 q) ∧ oZ1 σ' 56 5760 ∧
  (∀ a b, a < n → b < n → oB σ r a b = true → oB σ' r a b = true) ∧ ∀ a b, a < n → b < n → oB σ' r a b = true → oTc n (oB σ r) a b
def oMu (σ : ox_S) (r : Nat) : Nat := oCn (fun q => decide (σ 56 (144 * r + q) = 1)) 144
theorem oJn_ex {σ : ox_S} {r s a b : Nat} : ∀ n, oJn σ r s a b n = true ↔ ∃ c, c < n ∧ oB σ r a c = true ∧ oB σ s c b = true
  | 0 => by simp [oJn]
  | n + 1 => by
    have ih := oJn_ex (σ := σ) (r := r) (s := s) (a := a) (b := b) n
    simp only [oJn, Bool.or_eq_true, ih, Bool.and_eq_true]
    constructor
    · rintro (⟨c, hc, h1, h2⟩ | ⟨h1, h2⟩)
      · exact ⟨c, by omega, h1, h2⟩
      · exact ⟨n, by omega, h1, h2⟩
    · rintro ⟨c, hc, h1, h2⟩
      rcases Nat.lt_or_ge c n with q | q
      · exact Or.inl ⟨c, q, h1, h2⟩
      · obtain rfl : c = n := by omega
        exact Or.inr ⟨h1, h2⟩
theorem oCj_set {σ τ : ox_S} {r n a b : Nat} (hn : n ≤ 12) (hr : r < 40) (ha : a < n) (hb : b < n) (h : oCj σ τ r n) (hB : oB τ r a b = false) (hJ : oJn τ r r a b n = true) :
    oCj σ (ox_up τ 56 (144 * r + 12 * a + b) 1) r n ∧ oMu (ox_up τ 56 (144 * r + 12 * a + b) 1) r = oMu τ r + 1 := by
  obtain ⟨h1, h2, h3, h4, h5⟩ := h
  have e56 : ∀ q, ox_up τ 56 (144 * r + 12 * a + b) 1 56 q = if q = 144 * r + 12 * a + b then 1 else τ 56 q := fun q => by rw [ox_up_eq]; rfl
  refine ⟨⟨fun o ho => by rw [ox_up_ne ho]; exact h1 o ho, fun q hq => ?_, fun q hq => ?_, fun x y hx hy hxy => ?_, fun x y hx hy hxy => ?_⟩, ?_⟩
  · rw [e56, if_neg (hq a b ha hb)]; exact h2 q hq
  · rw [e56]
    split
    · exact Or.inr rfl
    · exact h3 q hq
  · have h9 := h4 x y hx hy hxy
    simp only [oB, e56, decide_eq_true_eq] at h9 ⊢
    split
    · rfl
    · exact h9
  · simp only [oB, e56, decide_eq_true_eq] at hxy
    by_cases hq : 144 * r + 12 * x + y = 144 * r + 12 * a + b
    · have : x = a := by omega
      have : y = b := by omega
      subst x; subst y
      obtain ⟨c, hc, c1, c2⟩ := (oJn_ex n).mp hJ
      exact oTc_tr ha hc hb (h5 a c ha hc c1) (h5 c b hc hb c2)
    · rw [if_neg hq] at hxy
      exact h5 x y hx hy (by simp only [oB, decide_eq_true_eq]; exact hxy)
  · unfold oMu
    have hB' : τ 56 (144 * r + 12 * a + b) ≠ 1 := by simpa [oB] using hB
    have h9 := oCn_up (f := fun q => decide (τ 56 (144 * r + q) = 1)) (g := fun q => decide (ox_up τ 56 (144 * r + 12 * a + b) 1 56 (144 * r + q) = 1)) (q := 12 * a + b)
      (by rw [← Nat.add_assoc]; exact decide_eq_false hB')
      (by simp only [e56]; rw [if_pos (by omega)]; rfl)
      (fun j hj => by simp only [e56]; rw [if_neg (by omega)]) 144
    rw [if_pos (by omega)] at h9
    exact h9
/-- inside a round of 'close' that began at τ: fl says whether a pair came -/
def oCi (σ τ τ' : ox_S) (r n : Nat) (fl : Bool) (a b : Nat) : Prop :=
  oCj σ τ' r n ∧ (fl = true → oMu τ r < oMu τ' r) ∧ (fl = false → τ' = τ ∧ ∀ x y, x < n → y < n → (x < a ∨ (x = a ∧ y < b)) → oB τ r x y = true ∨ oJn τ r r x y n = false)
set_option maxHeartbeats 1000000 in
theorem ot_close {L k r n : Nat} {σ : ox_S} (hz : oZ1 σ 56 5760) (hn : σ 7 2 = nI n) (hn12 : n ≤ 12) (hr : r < 40) (hk : 3 ≤ k) (hk9 : k ≤ 9) :
    oT L k 75 0 [some (.ref 7), some (.int (nI r)), none, none, none] [] σ (fun o σ' => o = .inl none ∧ oCj σ σ' r n ∧ ∀ a b, a < n → b < n → (oB σ' r a b = true ↔ oTc n (oB σ r) a b)) := by
  obtain ⟨k, rfl⟩ : ∃ k', k = k' + 1 := ⟨k - 1, by omega⟩
  refine oT_N 2 rfl ?_
  have outer : ∀ (d : Nat) (τ : ox_S) (l3 l4 : Option Value), oCj σ τ r n → 144 - oMu τ r < d → oT L (k + 1) 75 2 [some (.ref 7), some (.int (nI r)), some (.int 1), l3, l4] [] τ (fun o σ' => o = .inl none ∧ oCj σ σ' r n ∧ ∀ a b, a < n → b < n → (oB σ' r a b = true ↔ oTc n (oB σ r) a b)) := by
    intro d
    induction d with
    | zero => intro τ l3 l4 hJ hd; omega
    | succ d ih =>
      intro τ l3 l4 hJ hd
      have inner : ∀ (db a b : Nat) (fl : Bool) (τ' : ox_S), a < n → b + db = n → oCi σ τ τ' r n fl a b →
          (∀ (fl : Bool) (τ' : ox_S) (l : Option Value), oCi σ τ τ' r n fl (a + 1) 0 → oT L (k + 1) 75 10 [some (.ref 7), some (.int (nI r)), some (.int (if fl then 1 else 0)), some (.int (nI (a + 1))), l] [] τ' (fun o σ' => o = .inl none ∧ oCj σ σ' r n ∧ ∀ a b, a < n → b < n → (oB σ' r a b = true ↔ oTc n (oB σ r) a b))) →
          oT L (k + 1) 75 21 [some (.ref 7), some (.int (nI r)), some (.int (if fl then 1 else 0)), some (.int (nI a)), some (.int (nI b))] [] τ' (fun o σ' => o = .inl none ∧ oCj σ σ' r n ∧ ∀ a b, a < n → b < n → (oB σ' r a b = true ↔ oTc n (oB σ r) a b)) := by
        intro db
        induction db with
        | zero =>
          intro a b fl τ' ha hb hI cont
          obtain rfl : b = n := by omega
          have h7 : τ' 7 2 = nI b := by rw [hI.1.1 7 (by decide)]; exact hn
          refine oT_N 4 rfl (oT_If (fun _ => ?_) (fun (h0 : ¬ τ' 7 2 ≤ nI b) => ?_))
          · refine oT_N 2 rfl ?_
            have e := cont fl τ' (some (.int (nI b))) ⟨hI.1, hI.2.1, fun hf => ⟨(hI.2.2 hf).1, fun x y hx hy hxy => (hI.2.2 hf).2 x y hx hy (by omega)⟩⟩
            rw [← ox_inc a] at e
            exact e
          · rw [h7] at h0
            exact absurd (nI_le (Nat.le_refl b) (by omega)) h0
        | succ db ihb =>
          intro a b fl τ' ha hb hI cont
          have h7 : τ' 7 2 = nI n := by rw [hI.1.1 7 (by decide)]; exact hn
          have hz' := hI.1.2.2.1
          refine oT_N 4 rfl (oT_If (fun (h0 : τ' 7 2 ≤ nI b) => ?_) (fun _ => ?_))
          · rw [h7] at h0
            exact absurd h0 (nI_ge (by omega) (by omega))
          · have hnext : ∀ hx : oB τ' r a b = true ∨ oJn τ' r r a b n = false, oT L (k + 1) 75 21 [some (.ref 7), some (.int (nI r)), some (.int (if fl then 1 else 0)), some (.int (nI a)), some (.int (nI b + Int32.ofInt 1))] [] τ' (fun o σ' => o = .inl none ∧ oCj σ σ' r n ∧ ∀ a b, a < n → b < n → (oB σ' r a b = true ↔ oTc n (oB σ r) a b)) := fun hx => by
              have e := ihb a (b + 1) fl τ' ha (by omega) ⟨hI.1, hI.2.1, fun hf => ⟨(hI.2.2 hf).1, fun x y hx2 hy2 hxy => by
                have ht := (hI.2.2 hf).1
                by_cases hq : x = a ∧ y = b
                · rw [hq.1, hq.2, ← ht]; exact hx
                · exact (hI.2.2 hf).2 x y hx2 hy2 (by omega)⟩⟩ cont
              rw [← ox_inc b] at e
              exact e
            refine oT_N 4 rfl (oT_V rfl rfl rfl rfl (by omega) (by omega) (ot_isB hz' hr (by omega) (by omega)) (fun x σ2 h => by cases h.1) (fun v σ2 hv => ?_))
            obtain ⟨hv, rfl⟩ := hv
            cases hv
            cases h1 : oB σ2 r a b with
            | true =>
              refine oT_N 1 rfl (oT_If (fun (q : (1 : Int32) = 0) => absurd q (by decide)) (fun _ => ?_))
              exact oT_N 2 rfl (hnext (Or.inl h1))
            | false =>
              refine oT_N 1 rfl (oT_If (fun _ => ?_) (fun (q : ¬ (0 : Int32) = 0) => absurd rfl q))
              refine oT_N 5 rfl (oT_V rfl rfl rfl rfl (by omega) (by omega) (ot_isJoined hz' h7 hn12 hr hr (by omega) (by omega) (by omega) (by omega)) (fun x σ2 h => by cases h.1) (fun v σ3 hv => ?_))
              obtain ⟨hv, rfl⟩ := hv
              cases hv
              cases h2 : oJn σ3 r r a b n with
              | false =>
                refine oT_N 1 rfl (oT_If (fun _ => ?_) (fun (q : ¬ (0 : Int32) = 0) => absurd rfl q))
                exact oT_N 3 rfl (hnext (Or.inr h2))
              | true =>
                refine oT_N 1 rfl (oT_If (fun (q : (1 : Int32) = 0) => absurd q (by decide)) (fun _ => ?_))
                refine oT_N 12 rfl (oT_Zs (o := 56) (n := (Int16.ofInt 144).toInt32 * nI r + (Int8.ofInt 12).toInt32 * nI a + nI b) (x := Int32.ofInt 1) rfl ⟨rfl, by decide⟩ (by rw [ox_i3]; exact ox_ix (N := 5760) (by omega) (by decide)) ?_)
                rw [ox_i3, nI_clamp (by omega), show vp_nar .boolean (Int32.ofInt 1) = 1 from rfl]
                obtain ⟨s1, s2⟩ := oCj_set hn12 hr ha (by omega) hI.1 h1 h2
                have e := ihb a (b + 1) true (ox_up σ3 56 (144 * r + 12 * a + b) 1) ha (by omega) ⟨s1, fun _ => by
                  rw [s2]
                  cases fl with
                  | true => have := hI.2.1 rfl; omega
                  | false => rw [(hI.2.2 rfl).1]; omega, fun hf => by cases hf⟩ cont
                refine oT_N 4 rfl ?_
                rw [← ox_inc b] at e
                exact e
      have mid : ∀ (da a : Nat) (fl : Bool) (τ' : ox_S) (l : Option Value), a + da = n → oCi σ τ τ' r n fl a 0 → oT L (k + 1) 75 10 [some (.ref 7), some (.int (nI r)), some (.int (if fl then 1 else 0)), some (.int (nI a)), l] [] τ' (fun o σ' => o = .inl none ∧ oCj σ σ' r n ∧ ∀ a b, a < n → b < n → (oB σ' r a b = true ↔ oTc n (oB σ r) a b)) := by
        intro da
        induction da with
        | zero =>
          intro a fl τ' l ha hI
          obtain rfl : a = n := by omega
          have h7 : τ' 7 2 = nI a := by rw [hI.1.1 7 (by decide)]; exact hn
          refine oT_N 4 rfl (oT_If (fun _ => ?_) (fun (h0 : ¬ τ' 7 2 ≤ nI a) => ?_))
          · refine oT_N 1 rfl ?_
            cases fl with
            | true =>
              have h9 := hI.2.1 rfl
              have h10 := oCn_le (fun q => decide (τ' 56 (144 * r + q) = 1)) 144
              exact ih τ' _ _ hI.1 (by unfold oMu at *; omega)
            | false =>
              obtain ⟨rfl, hcl⟩ := hI.2.2 rfl
              refine oT_N 2 rfl (oT_If (fun _ => ?_) (fun (q : ¬ (0 : Int32) = 0) => absurd rfl q))
              refine oT_Retv rfl rfl ⟨rfl, hI.1, fun x y hx hy => ⟨fun h => hI.1.2.2.2.2 x y hx hy h, fun h => ?_⟩⟩
              refine h (fun x y => oB τ' r x y = true) (fun x y hx hy h => hI.1.2.2.2.1 x y hx hy h) (fun x y z hx hy hz h1 h2 => ?_)
              rcases hcl x z hx hz (Or.inl hx) with q | q
              · exact q
              · exact absurd ((oJn_ex a).mpr ⟨y, hy, h1, h2⟩) (by rw [q]; decide)
          · rw [h7] at h0
            exact absurd (nI_le (Nat.le_refl a) (by omega)) h0
        | succ da iha =>
          intro a fl τ' l ha hI
          have h7 : τ' 7 2 = nI n := by rw [hI.1.1 7 (by decide)]; exact hn
          refine oT_N 4 rfl (oT_If (fun (h0 : τ' 7 2 ≤ nI a) => ?_) (fun _ => ?_))
          · rw [h7] at h0
            exact absurd h0 (nI_ge (by omega) (by omega))
          · refine oT_N 2 rfl ?_
            exact inner n a 0 fl τ' (by omega) (by omega) hI (fun fl τ' l h => iha (a + 1) fl τ' l (by omega) h)
      refine oT_N 2 rfl (oT_If (fun (q : (1 : Int32) = 0) => absurd q (by decide)) (fun _ => ?_))
      refine oT_N 4 rfl ?_
      exact mid n 0 false τ l4 (by omega) ⟨hJ, fun h => (by cases h), fun _ => ⟨rfl, fun x y _ _ h => by omega⟩⟩
  exact outer 145 σ none none ⟨fun _ _ => rfl, fun _ _ => rfl, hz, fun _ _ _ _ h => h, fun a b ha hb h => oTc_of ha hb h⟩ (by omega)
