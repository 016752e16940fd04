/-- k steps lead from a to b -/
def oPt (n : Nat) (f : Nat → Nat → Bool) : Nat → Nat → Nat → Prop
  | 0, a, b => a = b
  | k + 1, a, b => ∃ c, c < n ∧ oPt n f k a c ∧ f c b = true
/-- m is how few steps go around, 0 if none do -/
def oSh (n : Nat) (f : Nat → Nat → Bool) (m : Nat) : Prop :=
  (m = 0 ∧ ∀ j, 1 ≤ j → j ≤ n → ∀ a, a < n → ¬ oPt n f j a a) ∨ (1 ≤ m ∧ m ≤ n ∧ (∃ a, a < n ∧ oPt n f m a a) ∧ ∀ j, 1 ≤ j → j < m → ∀ a, a < n → ¬ oPt n f j a a)
/-- the reference's 'steps' -/
def oS (σ : ox_S) (k a b : Nat) : Bool := decide (σ 57 (144 * k + 12 * a + b) = 1)
theorem oS_up {σ : ox_S} {r a b r' x y : Nat} (t : Bool) (ha : a < 12) (hb : b < 12) (hx : x < 12) (hy : y < 12) : oS (ox_up σ 57 (144 * r + 12 * a + b) (if t then 1 else 0)) r' x y = if r' = r ∧ x = a ∧ y = b then t else oS σ r' x y := by
  unfold oS
  rw [ox_up_at]
  by_cases e : r' = r ∧ x = a ∧ y = b
  · rw [if_pos e, if_pos (by omega)]; cases t <;> rfl
  · rw [if_neg e, if_neg (by omega)]
def oShS (σ τ : ox_S) (n r m : Nat) : Prop := (∀ o, o ≠ 57 → τ o = σ o) ∧ oZ1 τ 57 1872 ∧ oSh n (oB σ r) m ∧ ∀ j, j ≤ m → ∀ a b, a < n → b < n → (oS τ j a b = true ↔ oPt n (oB σ r) j a b)
/-- level k of 'steps' is filled up to a, b; m: the ring found on it -/
def oLv (σ τ : ox_S) (n r m k a b : Nat) : Prop := (∀ o, o ≠ 57 → τ o = σ o) ∧ oZ1 τ 57 1872 ∧ (∀ j, j < k → ∀ x y, x < n → y < n → (oS τ j x y = true ↔ oPt n (oB σ r) j x y)) ∧ (∀ x y, x < n → y < n → (x < a ∨ (x = a ∧ y < b)) → (oS τ k x y = true ↔ oPt n (oB σ r) k x y)) ∧ (∀ j, 1 ≤ j → j < k → ∀ x, x < n → ¬ oPt n (oB σ r) j x x) ∧
  ((m = 0 ∧ ∀ x, x < n → (x < a ∨ (x = a ∧ x < b)) → ¬ oPt n (oB σ r) k x x) ∨ (m = k ∧ ∃ x, x < n ∧ oPt n (oB σ r) k x x))
set_option maxHeartbeats 1000000 in
theorem ot_shortest {L k r n : Nat} {σ : ox_S} {Post : ox_O → ox_S → Prop} (hz : oZ1 σ 56 5760) (hz7 : oZ1 σ 57 1872) (hn : σ 7 2 = nI n) (hn12 : n ≤ 12) (hr : r < 40) (hk : 2 ≤ k) (hk9 : k ≤ 9) (hP : ∀ m τ, oShS σ τ n r m → Post (.inl (some (.int (nI m)))) τ) :
    oT L k 77 0 [some (.ref 7), some (.int (nI r)), none, none, none, none, none, none] [] σ Post := by
  obtain ⟨k, rfl⟩ : ∃ k', k = k' + 1 := ⟨k - 1, by omega⟩
  refine oT_N 2 rfl ?_
  -- the levels
  have levels : ∀ (d m j : Nat) (τ : ox_S) (l4 l5 l6 l7 : Option Value), 1 ≤ j → j + d = n + 1 → (m = 0 ∨ (m + 1 = j ∧ 1 ≤ m ∧ ∃ x, x < n ∧ oPt n (oB σ r) m x x)) → (∀ o, o ≠ 57 → τ o = σ o) → oZ1 τ 57 1872 → (∀ j', j' < j → ∀ x y, x < n → y < n → (oS τ j' x y = true ↔ oPt n (oB σ r) j' x y)) → (∀ j', 1 ≤ j' → j' < j → (m = 0 ∨ j' < m) → ∀ x, x < n → ¬ oPt n (oB σ r) j' x x) →
      oT L (k + 1) 77 57 [some (.ref 7), some (.int (nI r)), some (.int (nI m)), some (.int (nI j)), l4, l5, l6, l7] [] τ Post := by
    intro d
    induction d with
    | zero =>
      intro m j τ l4 l5 l6 l7 h1 hj hm ho hz' hS hno
      refine oT_N 4 rfl (oT_If (fun _ => ?_) (fun (h0 : ¬ τ 7 2 < nI j) => ?_))
      · refine oT_N 1 rfl (oT_Ret rfl rfl rfl (hP m τ ⟨ho, hz', ?_, fun j' hj' => hS j' (by omega)⟩))
        rcases hm with q | ⟨q1, q2, q3⟩
        · exact Or.inl ⟨q, fun j' h1 h2 => hno j' h1 (by omega) (Or.inl q)⟩
        · exact Or.inr ⟨q2, by omega, q3, fun j' h1 h2 => hno j' h1 (by omega) (Or.inr h2)⟩
      · rw [ho 7 (by decide), hn] at h0
        exact absurd (Int32.not_le.mp (nI_ge (show n < j by omega) (by omega))) h0
    | succ d ih =>
      intro m j τ l4 l5 l6 l7 h1 hj hm ho hz' hS hno
      refine oT_N 4 rfl (oT_If (fun (h0 : τ 7 2 < nI j) => ?_) (fun _ => ?_))
      · rw [ho 7 (by decide), hn] at h0
        exact absurd h0 (Int32.not_lt.mpr (nI_le (by omega) (by omega)))
      · refine oT_N 2 rfl (oT_If (fun (q : nI m = 0) => ?_) (fun (q : ¬ nI m = 0) => ?_))
        · obtain rfl : m = 0 := (nI_eq (by omega) (by decide)).mp q
          refine oT_N 2 rfl ?_
          obtain ⟨jj, rfl⟩ : ∃ jj, j = jj + 1 := ⟨j - 1, by omega⟩
          have inner : ∀ (db a b m : Nat) (τ' : ox_S) (l6 l7 : Option Value), a < n → b + db = n → oLv σ τ' n r m (jj + 1) a b →
              (∀ (m : Nat) (τ' : ox_S) (l5 l6 l7 : Option Value), oLv σ τ' n r m (jj + 1) (a + 1) 0 → oT L (k + 1) 77 72 [some (.ref 7), some (.int (nI r)), some (.int (nI m)), some (.int (nI (jj + 1))), some (.int (nI (a + 1))), l5, l6, l7] [] τ' Post) →
              oT L (k + 1) 77 84 [some (.ref 7), some (.int (nI r)), some (.int (nI m)), some (.int (nI (jj + 1))), some (.int (nI a)), some (.int (nI b)), l6, l7] [] τ' Post := by
            intro db
            induction db with
            | zero =>
              intro a b m τ' l6 l7 ha hb hJ cont
              obtain rfl : b = n := by omega
              obtain ⟨j1, j2, j3, j4, j5, j6⟩ := hJ
              refine oT_N 4 rfl (oT_If (fun _ => ?_) (fun (h0 : ¬ τ' 7 2 ≤ nI b) => ?_))
              · refine oT_N 2 rfl ?_
                have e := cont m τ' (some (.int (nI b))) l6 l7 ⟨j1, j2, j3, fun x y hx hy q => j4 x y hx hy (by omega), j5, by
                  rcases j6 with ⟨q1, q2⟩ | q
                  · exact Or.inl ⟨q1, fun x hx q => q2 x hx (by omega)⟩
                  · exact Or.inr q⟩
                rw [← ox_inc a] at e
                exact e
              · rw [j1 7 (by decide), hn] at h0
                exact absurd (nI_le (Nat.le_refl _) (by omega)) h0
            | succ db ihb =>
              intro a b m τ' l6 l7 ha hb hJ cont
              obtain ⟨j1, j2, j3, j4, j5, j6⟩ := id hJ
              refine oT_N 4 rfl (oT_If (fun (h0 : τ' 7 2 ≤ nI b) => ?_) (fun _ => ?_))
              · rw [j1 7 (by decide), hn] at h0
                exact absurd h0 (nI_ge (by omega) (by omega))
              · refine oT_N 4 rfl ?_
                have hset : ∀ (t : Bool) (l7 : Option Value), (t = true ↔ oPt n (oB σ r) (jj + 1) a b) → oT L (k + 1) 77 162 [some (.ref 7), some (.int (nI r)), some (.int (nI m)), some (.int (nI (jj + 1))), some (.int (nI a)), some (.int (nI b)), some (.int (if t then 1 else 0)), l7] [] τ' Post := fun t l7 ht => by
                  refine oT_N 12 rfl (oT_Zs (o := 57) (n := (Int16.ofInt 144).toInt32 * nI (jj + 1) + (Int8.ofInt 12).toInt32 * nI a + nI b) (x := if t then 1 else 0) rfl ⟨rfl, by decide⟩ (by rw [ox_i3]; exact ox_ix (N := 1872) (by omega) (by decide)) ?_)
                  rw [ox_i3, nI_clamp (by omega), ox_nar01]
                  have hL : ∀ m', ((m' = 0 ∧ ∀ x, x < n → (x < a ∨ (x = a ∧ x < b + 1)) → ¬ oPt n (oB σ r) (jj + 1) x x) ∨ (m' = jj + 1 ∧ ∃ x, x < n ∧ oPt n (oB σ r) (jj + 1) x x)) → oLv σ (ox_up τ' 57 (144 * (jj + 1) + 12 * a + b) (if t then 1 else 0)) n r m' (jj + 1) a (b + 1) := fun m' hm' => by
                    refine ⟨fun o q => by rw [ox_up_ne q, j1 o q], oZ1_up t j2, fun j' q x y hx hy => ?_, fun x y hx hy q => ?_, j5, hm'⟩
                    · rw [oS_up t (by omega) (by omega) (by omega) (by omega), if_neg (by omega)]
                      exact j3 j' q x y hx hy
                    · rw [oS_up t (by omega) (by omega) (by omega) (by omega)]
                      by_cases e : jj + 1 = jj + 1 ∧ x = a ∧ y = b
                      · rw [if_pos e, e.2.1, e.2.2]; exact ht
                      · rw [if_neg e]
                        exact j4 x y hx hy (by omega)
                  have hkeep : (∀ q : a = b, t = false) → oT L (k + 1) 77 84 [some (.ref 7), some (.int (nI r)), some (.int (nI m)), some (.int (nI (jj + 1))), some (.int (nI a)), some (.int (nI b + Int32.ofInt 1)), some (.int (if t then 1 else 0)), l7] [] (ox_up τ' 57 (144 * (jj + 1) + 12 * a + b) (if t then 1 else 0)) Post := fun hq => by
                    have e := ihb a (b + 1) m _ (some (.int (if t then 1 else 0))) l7 ha (by omega) (hL m (by
                      rcases j6 with ⟨q1, q2⟩ | q
                      · refine Or.inl ⟨q1, fun x hx q hp => ?_⟩
                        by_cases e : x = a ∧ x = b
                        · have := ht.mpr (by rw [← e.1] at *; rw [← e.2]; exact hp)
                          rw [hq (by omega)] at this
                          cases this
                        · exact q2 x hx (by omega) hp
                      · exact Or.inr q)) cont
                    rw [← ox_inc b] at e
                    exact e
                  cases t with
                  | false =>
                    refine oT_N 2 rfl (oT_If (fun _ => ?_) (fun (q : ¬ (0 : Int32) = 0) => absurd rfl q))
                    exact oT_N 4 rfl (hkeep (fun _ => rfl))
                  | true =>
                    refine oT_N 2 rfl (oT_If (fun (q : (1 : Int32) = 0) => absurd q (by decide)) (fun _ => ?_))
                    refine oT_N 3 rfl (oT_If (fun (q : nI a = nI b) => ?_) (fun (q : ¬ nI a = nI b) => ?_))
                    · obtain rfl : a = b := (nI_eq (by omega) (by omega)).mp q
                      have e := ihb a (a + 1) (jj + 1) _ (some (.int 1)) l7 ha (by omega) (hL (jj + 1) (Or.inr ⟨rfl, a, ha, ht.mp rfl⟩)) cont
                      rw [← ox_inc a] at e
                      exact oT_N 5 rfl e
                    · exact oT_N 4 rfl (hkeep (fun e => absurd (by rw [e]) q))
                -- the steps between
                have cs : ∀ (dc c : Nat) (t : Bool), c + dc = n → (t = true ↔ ∃ c', c' < c ∧ oPt n (oB σ r) jj a c' ∧ oB σ r c' b = true) → oT L (k + 1) 77 99 [some (.ref 7), some (.int (nI r)), some (.int (nI m)), some (.int (nI (jj + 1))), some (.int (nI a)), some (.int (nI b)), some (.int (if t then 1 else 0)), some (.int (nI c))] [] τ' Post := by
                  intro dc
                  induction dc with
                  | zero =>
                    intro c t hc ht
                    obtain rfl : c = n := by omega
                    refine oT_N 4 rfl (oT_If (fun _ => ?_) (fun (h0 : ¬ τ' 7 2 ≤ nI c) => ?_))
                    · exact hset t _ ht
                    · rw [j1 7 (by decide), hn] at h0
                      exact absurd (nI_le (Nat.le_refl _) (by omega)) h0
                  | succ dc ihc =>
                    intro c t hc ht
                    refine oT_N 4 rfl (oT_If (fun (h0 : τ' 7 2 ≤ nI c) => ?_) (fun _ => ?_))
                    · rw [j1 7 (by decide), hn] at h0
                      exact absurd h0 (nI_ge (by omega) (by omega))
                    · cases t with
                      | true =>
                        refine oT_N 2 rfl (oT_If (fun (q : (1 : Int32) = 0) => absurd q (by decide)) (fun _ => ?_))
                        refine hset true _ ⟨fun _ => ?_, fun _ => rfl⟩
                        obtain ⟨c', g1, g2, g3⟩ := ht.mp rfl
                        exact ⟨c', by omega, g2, g3⟩
                      | false =>
                        refine oT_N 2 rfl (oT_If (fun _ => ?_) (fun (q : ¬ (0 : Int32) = 0) => absurd rfl q))
                        have hno : ¬ (oPt n (oB σ r) jj a c ∧ oB σ r c b = true) → oT L (k + 1) 77 99 [some (.ref 7), some (.int (nI r)), some (.int (nI m)), some (.int (nI (jj + 1))), some (.int (nI a)), some (.int (nI b)), some (.int 0), some (.int (nI c + Int32.ofInt 1))] [] τ' Post := fun hq => by
                          have e := ihc (c + 1) false (by omega) ⟨fun q => (by cases q), fun ⟨c', g1, g2, g3⟩ => by
                            rcases Nat.lt_or_ge c' c with q | q
                            · exact ht.mpr ⟨c', q, g2, g3⟩
                            · obtain rfl : c' = c := by omega
                              exact absurd ⟨g2, g3⟩ hq⟩
                          rw [← ox_inc c] at e
                          exact e
                        have hix : (Int16.ofInt 144).toInt32 * (nI (jj + 1) - Int32.ofInt 1) + (Int8.ofInt 12).toInt32 * nI a + nI c = nI (144 * jj + 12 * a + c) := by
                          rw [show nI (jj + 1) - Int32.ofInt 1 = nI jj from by rw [← ox_inc]; exact Int32.add_sub_cancel _ _]
                          exact ox_i3 jj a c
                        refine oT_N 13 rfl (oT_Z (o := 57) (n := (Int16.ofInt 144).toInt32 * (nI (jj + 1) - Int32.ofInt 1) + (Int8.ofInt 12).toInt32 * nI a + nI c) rfl ⟨rfl, by decide⟩ (by rw [hix]; exact ox_ix (N := 1872) (by omega) (by decide)) ?_)
                        rw [hix, nI_clamp (by omega)]
                        have hpt := j3 jj (by omega) a c ha (by omega)
                        refine oT_N 1 rfl (oT_If (fun (q : τ' 57 (144 * jj + 12 * a + c) = 0) => ?_) (fun (q : ¬ τ' 57 (144 * jj + 12 * a + c) = 0) => ?_))
                        · refine oT_N 4 rfl (hno (fun e => ?_))
                          have := hpt.mpr e.1
                          simp [oS, q] at this
                        · have hp : oPt n (oB σ r) jj a c := hpt.mp (by
                            rcases j2 (144 * jj + 12 * a + c) (by omega) with e | e
                            · exact absurd e q
                            · simp [oS, e])
                          have hB : oB τ' r c b = oB σ r c b := by unfold oB; rw [j1 56 (by decide)]
                          refine oT_N 4 rfl (oT_V rfl rfl rfl rfl (by omega) (by omega) (ot_isB (by unfold oZ1; rw [j1 56 (by decide)]; exact hz) hr (by omega) (by omega)) (fun x σ2 h => by cases h.1) (fun v σ2 hv => ?_))
                          obtain ⟨hv, rfl⟩ := hv
                          cases hv
                          rw [hB]
                          cases hb2 : oB σ r c b with
                          | false =>
                            refine oT_N 1 rfl (oT_If (fun _ => ?_) (fun (q : ¬ (0 : Int32) = 0) => absurd rfl q))
                            exact oT_N 4 rfl (hno (fun e => by rw [hb2] at e; cases e.2))
                          | true =>
                            refine oT_N 1 rfl (oT_If (fun (q : (1 : Int32) = 0) => absurd q (by decide)) (fun _ => ?_))
                            have e := ihc (c + 1) true (by omega) ⟨fun _ => ⟨c, by omega, hp, hb2⟩, fun _ => rfl⟩
                            rw [← ox_inc c] at e
                            exact oT_N 5 rfl e
                exact cs n 0 false (by omega) ⟨fun q => (by cases q), fun ⟨c', q, _⟩ => by omega⟩
          have mid : ∀ (da a m : Nat) (τ' : ox_S) (l5 l6 l7 : Option Value), a + da = n → oLv σ τ' n r m (jj + 1) a 0 → oT L (k + 1) 77 72 [some (.ref 7), some (.int (nI r)), some (.int (nI m)), some (.int (nI (jj + 1))), some (.int (nI a)), l5, l6, l7] [] τ' Post := by
            intro da
            induction da with
            | zero =>
              intro a m τ' l5 l6 l7 ha hJ
              obtain rfl : a = n := by omega
              obtain ⟨j1, j2, j3, j4, j5, j6⟩ := id hJ
              refine oT_N 4 rfl (oT_If (fun _ => ?_) (fun (h0 : ¬ τ' 7 2 ≤ nI a) => ?_))
              · refine oT_N 2 rfl ?_
                have e := ih m (jj + 1 + 1) τ' (some (.int (nI a))) l5 l6 l7 (by omega) (by omega) (by
                  rcases j6 with q | q
                  · exact Or.inl q.1
                  · exact Or.inr ⟨by omega, by omega, by rw [q.1]; exact q.2⟩) j1 j2 (fun j' q x y hx hy => by
                    rcases Nat.lt_or_ge j' (jj + 1) with q2 | q2
                    · exact j3 j' q2 x y hx hy
                    · obtain rfl : j' = jj + 1 := by omega
                      exact j4 x y hx hy (Or.inl hx)) (fun j' q1 q2 q3 x hx => by
                    rcases Nat.lt_or_ge j' (jj + 1) with q4 | q4
                    · exact j5 j' q1 q4 x hx
                    · obtain rfl : j' = jj + 1 := by omega
                      rcases j6 with q | q
                      · exact q.2 x hx (Or.inl hx)
                      · exact absurd q.1 (by omega))
                rw [← ox_inc (jj + 1)] at e
                exact e
              · rw [j1 7 (by decide), hn] at h0
                exact absurd (nI_le (Nat.le_refl _) (by omega)) h0
            | succ da iha =>
              intro a m τ' l5 l6 l7 ha hJ
              refine oT_N 4 rfl (oT_If (fun (h0 : τ' 7 2 ≤ nI a) => ?_) (fun _ => ?_))
              · rw [hJ.1 7 (by decide), hn] at h0
                exact absurd h0 (nI_ge (by omega) (by omega))
              · refine oT_N 2 rfl ?_
                exact inner n a 0 m τ' l6 l7 (by omega) (by omega) hJ (fun m τ' l5 l6 l7 h => iha (a + 1) m τ' l5 l6 l7 (by omega) h)
          exact mid n 0 0 τ l5 l6 l7 (by omega) ⟨ho, hz', hS, fun x y _ _ q => by omega, fun j' q1 q2 => hno j' q1 q2 (Or.inl rfl), Or.inl ⟨rfl, fun x _ q => by omega⟩⟩
        · have hm0 : m ≠ 0 := fun e => q (by rw [e]; rfl)
          rcases hm with q1 | ⟨q1, q2, q3⟩
          · exact absurd q1 hm0
          · exact oT_N 1 rfl (oT_Ret rfl rfl rfl (hP m τ ⟨ho, hz', Or.inr ⟨q2, by omega, q3, fun j' h1 h2 => hno j' h1 (by omega) (Or.inr h2)⟩, fun j' hj' => hS j' (by omega)⟩))
  -- level 0
  have init2 : ∀ (db a b : Nat) (τ' : ox_S) (l4 l5 l6 l7 : Option Value), a < n → b + db = n → (∀ o, o ≠ 57 → τ' o = σ o) → oZ1 τ' 57 1872 → (∀ x y, x < n → y < n → (x < a ∨ (x = a ∧ y < b)) → (oS τ' 0 x y = true ↔ x = y)) →
      (∀ (τ' : ox_S) (l3 : Option Value), (∀ o, o ≠ 57 → τ' o = σ o) → oZ1 τ' 57 1872 → (∀ x y, x < n → y < n → (x < a + 1) → (oS τ' 0 x y = true ↔ x = y)) → oT L (k + 1) 77 2 [some (.ref 7), some (.int (nI r)), some (.int (nI (a + 1))), l3, l4, l5, l6, l7] [] τ' Post) →
      oT L (k + 1) 77 12 [some (.ref 7), some (.int (nI r)), some (.int (nI a)), some (.int (nI b)), l4, l5, l6, l7] [] τ' Post := by
    intro db
    induction db with
    | zero =>
      intro a b τ' l4 l5 l6 l7 ha hb j1 j2 j3 cont
      obtain rfl : b = n := by omega
      refine oT_N 4 rfl (oT_If (fun _ => ?_) (fun (h0 : ¬ τ' 7 2 ≤ nI b) => ?_))
      · have e := cont τ' (some (.int (nI b))) j1 j2 (fun x y hx hy q => j3 x y hx hy (by omega))
        rw [← ox_inc a] at e
        exact oT_N 2 rfl e
      · rw [j1 7 (by decide), hn] at h0
        exact absurd (nI_le (Nat.le_refl _) (by omega)) h0
    | succ db ihb =>
      intro a b τ' l4 l5 l6 l7 ha hb j1 j2 j3 cont
      refine oT_N 4 rfl (oT_If (fun (h0 : τ' 7 2 ≤ nI b) => ?_) (fun _ => ?_))
      · rw [j1 7 (by decide), hn] at h0
        exact absurd h0 (nI_ge (by omega) (by omega))
      · have hset : ∀ t : Bool, (t = true ↔ a = b) → oT L (k + 1) 77 12 [some (.ref 7), some (.int (nI r)), some (.int (nI a)), some (.int (nI b + Int32.ofInt 1)), l4, l5, l6, l7] [] (ox_up τ' 57 (12 * a + b) (if t then 1 else 0)) Post := fun t ht => by
          have e := ihb a (b + 1) (ox_up τ' 57 (12 * a + b) (if t then 1 else 0)) l4 l5 l6 l7 ha (by omega) (fun o q => by rw [ox_up_ne q, j1 o q]) (oZ1_up t j2) (fun x y hx hy q => by
            have e := oS_up (σ := τ') (r := 0) (a := a) (b := b) (r' := 0) (x := x) (y := y) t (by omega) (by omega) (by omega) (by omega)
            rw [show 144 * 0 + 12 * a + b = 12 * a + b by omega] at e
            rw [e]
            by_cases e2 : (0 : Nat) = 0 ∧ x = a ∧ y = b
            · rw [if_pos e2, e2.2.1, e2.2.2]; exact ht
            · rw [if_neg e2]
              exact j3 x y hx hy (by omega)) cont
          rw [← ox_inc b] at e
          exact e
        refine oT_N 10 rfl (oT_If (fun (q : nI a = nI b) => ?_) (fun (q : ¬ nI a = nI b) => ?_))
        · refine oT_N 2 rfl (oT_Zs (o := 57) (n := (Int8.ofInt 12).toInt32 * nI a + nI b) (x := if true then 1 else 0) rfl ⟨rfl, by decide⟩ (by rw [ox_i2]; exact ox_ix (N := 1872) (by omega) (by decide)) ?_)
          rw [ox_i2, nI_clamp (by omega), ox_nar01]
          exact oT_N 2 rfl (hset true ⟨fun _ => (nI_eq (by omega) (by omega)).mp q, fun _ => rfl⟩)
        · refine oT_N 1 rfl (oT_Zs (o := 57) (n := (Int8.ofInt 12).toInt32 * nI a + nI b) (x := if false then 1 else 0) rfl ⟨rfl, by decide⟩ (by rw [ox_i2]; exact ox_ix (N := 1872) (by omega) (by decide)) ?_)
          rw [ox_i2, nI_clamp (by omega), ox_nar01]
          exact oT_N 2 rfl (hset false ⟨fun e => (by cases e), fun e => absurd (by rw [e]) q⟩)
  have init : ∀ (da a : Nat) (τ' : ox_S) (l3 l4 l5 l6 l7 : Option Value), a + da = n → (∀ o, o ≠ 57 → τ' o = σ o) → oZ1 τ' 57 1872 → (∀ x y, x < n → y < n → x < a → (oS τ' 0 x y = true ↔ x = y)) →
      oT L (k + 1) 77 2 [some (.ref 7), some (.int (nI r)), some (.int (nI a)), l3, l4, l5, l6, l7] [] τ' Post := by
    intro da
    induction da with
    | zero =>
      intro a τ' l3 l4 l5 l6 l7 ha j1 j2 j3
      obtain rfl : a = n := by omega
      refine oT_N 4 rfl (oT_If (fun _ => ?_) (fun (h0 : ¬ τ' 7 2 ≤ nI a) => ?_))
      · refine oT_N 4 rfl ?_
        exact levels a 0 1 τ' l4 l5 l6 l7 (Nat.le_refl 1) (by omega) (Or.inl rfl) j1 j2 (fun j' q x y hx hy => by
          obtain rfl : j' = 0 := by omega
          exact j3 x y hx hy hx) (fun j' q1 q2 => by omega)
      · rw [j1 7 (by decide), hn] at h0
        exact absurd (nI_le (Nat.le_refl _) (by omega)) h0
    | succ da iha =>
      intro a τ' l3 l4 l5 l6 l7 ha j1 j2 j3
      refine oT_N 4 rfl (oT_If (fun (h0 : τ' 7 2 ≤ nI a) => ?_) (fun _ => ?_))
      · rw [j1 7 (by decide), hn] at h0
        exact absurd h0 (nI_ge (by omega) (by omega))
      · refine oT_N 2 rfl ?_
        exact init2 n a 0 τ' l4 l5 l6 l7 (by omega) (by omega) j1 j2 (fun x y hx hy q => j3 x y hx hy (by omega)) (fun τ' l3 c1 c2 c3 => iha (a + 1) τ' l3 l4 l5 l6 l7 (by omega) c1 c2 c3)
  exact init n 0 σ none none none none none (by omega) (fun _ _ => rfl) hz7 (fun x y _ _ q => by omega)
/-- there is a ring -/
def oRg (n : Nat) (f : Nat → Nat → Bool) : Prop := ∃ j a, 1 ≤ j ∧ j ≤ n ∧ a < n ∧ oPt n f j a a
theorem oSh_rg {n m : Nat} {f : Nat → Nat → Bool} (h : oSh n f m) : 0 < m ↔ oRg n f := by
  rcases h with ⟨h1, h2⟩ | ⟨h1, h2, ⟨a, h3, h4⟩, h5⟩
  · exact ⟨fun q => by omega, fun ⟨j, a, q1, q2, q3, q4⟩ => absurd q4 (h2 j q1 q2 a q3)⟩
  · exact ⟨fun _ => ⟨m, a, h1, h2, h3, h4⟩, fun _ => h1⟩
theorem oSh_one {n m m' : Nat} {f : Nat → Nat → Bool} (h : oSh n f m) (h' : oSh n f m') : m = m' := by
  rcases h with ⟨h1, h2⟩ | ⟨h1, h2, ⟨a, h3, h4⟩, h5⟩ <;> rcases h' with ⟨g1, g2⟩ | ⟨g1, g2, ⟨a', g3, g4⟩, g5⟩
  · omega
  · exact absurd g4 (h2 m' g1 g2 a' g3)
  · exact absurd h4 (g2 m h1 h2 a h3)
  · rcases Nat.lt_trichotomy m m' with q | q | q
    · exact absurd h4 (g5 m h1 q a h3)
    · exact q
    · exact absurd g4 (h5 m' g1 q a' g3)
/-- b is the first broken rule, or -1 -/
def oBk (n : Nat) (M : oMo) (v : Nat → Nat → Nat → Bool) (b : Int32) : Prop :=
  (b = -1 ∧ ∀ i, i < M.Q → ¬ oRg n (v (M.rl i))) ∨ ∃ i, i < M.Q ∧ b = nI i ∧ oRg n (v (M.rl i)) ∧ ∀ j, j < i → ¬ oRg n (v (M.rl j))
theorem ot_broken {L k n : Nat} {σ : ox_S} {M : oMo} {Post : ox_O → ox_S → Prop} (hm : oMm σ M) (hz : oZ1 σ 56 5760) (hz7 : oZ1 σ 57 1872) (hn : σ 7 2 = nI n) (hn12 : n ≤ 12) (hk : 3 ≤ k) (hk9 : k ≤ 9) (hP : ∀ b τ, (∀ o, o ≠ 57 → τ o = σ o) → oZ1 τ 57 1872 → oBk n M (oB σ) b → Post (.inl (some (.int b))) τ) :
    oT L k 78 0 [some (.ref 7), none] [] σ Post := by
  obtain ⟨k, rfl⟩ : ∃ k', k = k' + 1 := ⟨k - 1, by omega⟩
  obtain ⟨⟨m1, m2, m3, m4, m5⟩, g1, g2, g3, g4⟩ := id hm
  refine oT_N 2 rfl ?_
  have loop : ∀ (d i : Nat) (τ : ox_S), i + d = M.Q → (∀ o, o ≠ 57 → τ o = σ o) → oZ1 τ 57 1872 → (∀ j, j < i → ¬ oRg n (oB σ (M.rl j))) → oT L (k + 1) 78 2 [some (.ref 7), some (.int (nI i))] [] τ Post := by
    intro d
    induction d with
    | zero =>
      intro i τ hi ho hz' hno
      obtain rfl : i = M.Q := by omega
      refine oT_N 4 rfl (oT_If (fun _ => ?_) (fun (h0 : ¬ τ 7 12 ≤ nI M.Q) => ?_))
      · exact oT_N 1 rfl (oT_Ret rfl rfl rfl (hP _ τ ho hz' (Or.inl ⟨rfl, hno⟩)))
      · rw [ho 7 (by decide), g2] at h0
        exact absurd (nI_le (Nat.le_refl _) (by omega)) h0
    | succ d ih =>
      intro i τ hi ho hz' hno
      refine oT_N 4 rfl (oT_If (fun (h0 : τ 7 12 ≤ nI i) => ?_) (fun _ => ?_))
      · rw [ho 7 (by decide), g2] at h0
        exact absurd h0 (nI_ge (by omega) (by omega))
      · refine oT_N 4 rfl (oT_I (o := 51) (n := nI i) rfl (Or.inl ⟨rfl, by decide⟩) (ox_ix (N := 8) (by omega) (by decide)) ?_)
        rw [nI_clamp (show i < 2 ^ 31 by omega), ho 51 (by decide), g4 i (by omega)]
        have hB : ∀ r, oB τ r = oB σ r := fun r => by funext a b; unfold oB; rw [ho 56 (by decide)]
        have hrl := m5 i (by omega)
        refine oT_V (PostC := fun o τ' => ∃ m, o = .inl (some (.int (nI m))) ∧ oShS τ τ' n (M.rl i) m) rfl rfl rfl rfl (by omega) (by omega) (ot_shortest (n := n) (by unfold oZ1; rw [ho 56 (by decide)]; exact hz) hz' (by rw [ho 7 (by decide)]; exact hn) hn12 (by omega) (by omega) (by omega) (fun m τ' h => ⟨m, rfl, h⟩)) (fun x σ2 h => by obtain ⟨m, h, _⟩ := h; cases h) (fun v σ2 hv => ?_)
        obtain ⟨m, hv, s1, s2, s3, s4⟩ := hv
        cases hv
        rw [hB] at s3
        have hm12 : m ≤ 12 := by rcases s3 with q | q <;> omega
        have so : ∀ o, o ≠ 57 → σ2 o = σ o := fun o q => by rw [s1 o q, ho o q]
        refine oT_N 1 rfl (oT_If (fun (q : nI m ≤ 0) => ?_) (fun (q : ¬ nI m ≤ 0) => ?_))
        · have hm0 : m = 0 := by
            rcases Nat.eq_zero_or_pos m with e | e
            · exact e
            · exact absurd q (nI_ge e (by omega))
          have e := ih (i + 1) σ2 (by omega) so s2 (fun j hj => by
            rcases Nat.lt_or_ge j i with q2 | q2
            · exact hno j q2
            · obtain rfl : j = i := by omega
              intro e
              have := (oSh_rg s3).mpr e
              omega)
          rw [← ox_inc i] at e
          exact oT_N 2 rfl e
        · have hm0 : 0 < m := Nat.pos_of_ne_zero (fun e => q (by rw [e]; decide))
          exact oT_N 1 rfl (oT_Ret rfl rfl rfl (hP _ σ2 so s2 (Or.inr ⟨i, by omega, rfl, (oSh_rg s3).mp hm0, hno⟩)))
  exact loop M.Q 0 σ (by omega) (fun _ _ => rfl) hz7 (fun j hj => by omega)
