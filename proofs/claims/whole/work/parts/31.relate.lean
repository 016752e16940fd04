/-- a model: relations, rules, of each relation its how, left, right; of each rule its relation -/
abbrev oMo : Type := Nat × Nat × (Nat → Nat) × (Nat → Nat) × (Nat → Nat) × (Nat → Nat)
abbrev oMo.R (M : oMo) : Nat := M.1
abbrev oMo.Q (M : oMo) : Nat := M.2.1
abbrev oMo.hw (M : oMo) : Nat → Nat := M.2.2.1
abbrev oMo.lf (M : oMo) : Nat → Nat := M.2.2.2.1
abbrev oMo.rt (M : oMo) : Nat → Nat := M.2.2.2.2.1
abbrev oMo.rl (M : oMo) : Nat → Nat := M.2.2.2.2.2
def oMo.ok (M : oMo) : Prop := 12 ≤ M.R ∧ M.R ≤ 40 ∧ M.Q ≤ 8 ∧ (∀ r, 12 ≤ r → r < M.R → M.hw r ≤ 5 ∧ M.lf r < r ∧ M.rt r < r) ∧ ∀ i, i < M.Q → M.rl i < M.R
/-- the reference holds the model -/
def oMm (σ : ox_S) (M : oMo) : Prop := M.ok ∧ σ 7 8 = nI M.R ∧ σ 7 12 = nI M.Q ∧ (∀ r, 12 ≤ r → r < M.R → σ 48 r = nI (M.hw r) ∧ σ 49 r = nI (M.lf r) ∧ σ 50 r = nI (M.rt r)) ∧ ∀ i, i < M.Q → σ 51 i = nI (M.rl i)
/-- what a made relation says of a and b -/
def oHw (n h : Nat) (f g : Nat → Nat → Bool) (a b : Nat) : Prop := match h with
  | 0 => f a b = true ∨ g a b = true
  | 1 => f a b = true ∧ g a b = true
  | 2 => f a b = true ∧ g a b = false
  | 3 => ∃ c, c < n ∧ f a c = true ∧ g c b = true
  | 4 => f b a = true
  | _ => oTc n f a b
/-- v is right for relations below R of which W holds -/
def oIR (n : Nat) (M : oMo) (gv : Nat → Nat → Nat → Bool) (R : Nat) (W : Nat → Prop) (v : Nat → Nat → Nat → Bool) : Prop :=
  ∀ r, r < R → W r → ∀ a b, a < n → b < n → (r < 12 → v r a b = gv r a b) ∧ (12 ≤ r → (v r a b = true ↔ oHw n (M.hw r) (v (M.lf r)) (v (M.rt r)) a b))
theorem ox_nar01 (x : Bool) : vp_nar .boolean (if x then 1 else 0) = (if x then 1 else 0) := by cases x <;> rfl
theorem oZ1_up {σ : ox_S} {o N q : Nat} (x : Bool) (h : oZ1 σ o N) : oZ1 (ox_up σ o q (if x then 1 else 0)) o N := fun j hj => by
  rw [ox_up_eq]
  show (if j = q then _ else σ o j) = 0 ∨ (if j = q then _ else σ o j) = 1
  by_cases e : j = q
  · rw [if_pos e]; cases x
    · exact Or.inl rfl
    · exact Or.inr rfl
  · rw [if_neg e]; exact h j hj
theorem ox_up_at {σ : ox_S} {o q j : Nat} {x : Int32} : ox_up σ o q x o j = if j = q then x else σ o j := by rw [ox_up_eq]; rfl
theorem oB_up {σ : ox_S} {r a b r' x y : Nat} (t : Bool) (ha : a < 12) (hb : b < 12) (hx : x < 12) (hy : y < 12) : oB (ox_up σ 56 (144 * r + 12 * a + b) (if t then 1 else 0)) r' x y = if r' = r ∧ x = a ∧ y = b then t else oB σ r' x y := by
  unfold oB
  rw [ox_up_at]
  by_cases e : r' = r ∧ x = a ∧ y = b
  · rw [if_pos e, if_pos (by omega)]; cases t <;> rfl
  · rw [if_neg e, if_neg (by omega)]
theorem oB_low {σ τ : ox_S} {r r' a b : Nat} (h : ∀ q, q < 144 * r → τ 56 q = σ 56 q) (hr : r' < r) (ha : a < 12) (hb : b < 12) : oB τ r' a b = oB σ r' a b := by
  unfold oB
  rw [h _ (by omega)]
theorem oJn_low {σ τ : ox_S} {r x y a b : Nat} (h : ∀ q, q < 144 * r → τ 56 q = σ 56 q) (hx : x < r) (hy : y < r) (ha : a < 12) (hb : b < 12) : ∀ n, n ≤ 12 → oJn τ x y a b n = oJn σ x y a b n
  | 0, _ => rfl
  | n + 1, hn => by
    have ih := oJn_low h hx hy ha hb n (by omega)
    simp only [oJn, ih]
    rw [h _ (by omega), h _ (by omega)]
theorem oMd_low {σ τ : ox_S} {r n w x y a b : Nat} (h : ∀ q, q < 144 * r → τ 56 q = σ 56 q) (hx : x < r) (hy : y < r) (ha : a < 12) (hb : b < 12) (hn : n ≤ 12) : oMd τ n w x y a b = oMd σ n w x y a b := by
  unfold oMd
  rw [oB_low h hx ha hb, oB_low h hx hb ha, oB_low h hy ha hb, oJn_low h hx hy ha hb n hn]
theorem oMd_hw {σ : ox_S} {n w x y a b : Nat} (hw : w < 5) : oMd σ n w x y a b = true ↔ oHw n w (oB σ x) (oB σ y) a b := by
  match w, hw with
  | 0, _ => simp [oMd, oHw]
  | 1, _ => simp [oMd, oHw]
  | 2, _ => simp [oMd, oHw]
  | 3, _ => exact oJn_ex n
  | 4, _ => simp [oMd, oHw]
  | w + 5, hw => exact absurd hw (by omega)
theorem oTc_ext {n : Nat} {f g : Nat → Nat → Bool} (h : ∀ a b, a < n → b < n → f a b = g a b) {a b : Nat} (q : oTc n f a b) : oTc n g a b :=
  fun R h1 h2 => q R (fun x y hx hy e => h1 x y hx hy (by rw [← h x y hx hy]; exact e)) h2
theorem oHw_ext {n w a b : Nat} {f g f' g' : Nat → Nat → Bool} (hf : ∀ a b, a < n → b < n → f a b = f' a b) (hg : ∀ a b, a < n → b < n → g a b = g' a b) (ha : a < n) (hb : b < n) : oHw n w f g a b ↔ oHw n w f' g' a b := by
  unfold oHw
  split
  · rw [hf a b ha hb, hg a b ha hb]
  · rw [hf a b ha hb, hg a b ha hb]
  · rw [hf a b ha hb, hg a b ha hb]
  · constructor
    · rintro ⟨c, hc, h1, h2⟩
      exact ⟨c, hc, by rw [← hf a c ha hc]; exact h1, by rw [← hg c b hc hb]; exact h2⟩
    · rintro ⟨c, hc, h1, h2⟩
      exact ⟨c, hc, by rw [hf a c ha hc]; exact h1, by rw [hg c b hc hb]; exact h2⟩
  · rw [hf b a hb ha]
  · exact ⟨oTc_ext hf, oTc_ext (fun a b ha hb => (hf a b ha hb).symm)⟩
/-- what is right is one -/
theorem oIR_one {n R : Nat} {M : oMo} {gv v v' : Nat → Nat → Nat → Bool} {W W' : Nat → Prop} (hM : M.ok) (hR : R ≤ M.R) (hW : ∀ r, 12 ≤ r → r < R → W r → W (M.lf r) ∧ W (M.rt r)) (hW' : ∀ r, W r → W' r) (h : oIR n M gv R W v) (h' : oIR n M gv R W' v') :
    ∀ r, r < R → W r → ∀ a b, a < n → b < n → v r a b = v' r a b := by
  intro r
  induction r using Nat.strongRecOn with
  | ind r ih =>
    intro hr hw a b ha hb
    obtain ⟨h1, h2⟩ := h r hr hw a b ha hb
    obtain ⟨g1, g2⟩ := h' r hr (hW' r hw) a b ha hb
    rcases Nat.lt_or_ge r 12 with q | q
    · rw [h1 q, g1 q]
    · obtain ⟨m1, m2, m3⟩ := hM.2.2.2.1 r q (by omega)
      obtain ⟨w1, w2⟩ := hW r q hr hw
      have e := oHw_ext (w := M.hw r) (ih (M.lf r) m2 (by omega) w1) (ih (M.rt r) m3 (by omega) w2) ha hb
      have e2 : v r a b = true ↔ v' r a b = true := (h2 q).trans (e.trans (g2 q).symm)
      cases hv : v r a b <;> cases hv' : v' r a b <;> simp_all
/-- while relation r is filled: τ at its beginning -/
def oRi (P : oPr) (M : oMo) (σ τ τ' : ox_S) (r a b : Nat) : Prop :=
  (∀ o, o ≠ 56 → τ' o = τ o) ∧ (∀ q, q < 144 * r → τ' 56 q = τ 56 q) ∧ oZ1 τ' 56 5760 ∧ ∀ x y, x < P.n → y < P.n → (x < a ∨ (x = a ∧ y < b)) → oB τ' r x y = if r < 12 then oGv P σ r x y else oMd τ P.n (M.hw r) (M.lf r) (M.rt r) x y
theorem oGv_ext {P : oPr} {σ τ : ox_S} {r a b : Nat} (h52 : τ 52 = σ 52) (h55 : τ 55 = σ 55) : oGv P τ r a b = oGv P σ r a b := by
  unfold oGv oFr
  rw [h52, h55]
theorem oM_ext {P : oPr} {σ τ : ox_S} (h : oM σ P) (h1 : τ 7 1 = σ 7 1) (h2 : τ 7 2 = σ 7 2) (h3 : ∀ o, 43 ≤ o → o ≤ 47 → τ o = σ o) : oM τ P := by
  obtain ⟨a1, a2, a3, a4⟩ := h
  refine ⟨a1, by rw [h1]; exact a2, by rw [h2]; exact a3, fun e he => ?_⟩
  rw [h3 43 (by decide) (by decide), h3 44 (by decide) (by decide), h3 45 (by decide) (by decide), h3 46 (by decide) (by decide), h3 47 (by decide) (by decide)]
  exact a4 e he
set_option maxHeartbeats 1000000 in
theorem ot_relate {L k : Nat} {σ : ox_S} {P : oPr} {M : oMo} (h : oM σ P) (hm : oMm σ M) (hs : oSr σ P) (hz : oZ1 σ 56 5760) (hk : 4 ≤ k) (hk9 : k ≤ 9) :
    oT L k 76 0 [some (.ref 7), none, none, none] [] σ (fun o σ' => o = .inl none ∧ (∀ o, o ≠ 56 → σ' o = σ o) ∧ oZ1 σ' 56 5760 ∧ oIR P.n M (oGv P σ) M.R (fun _ => True) (oB σ')) := by
  obtain ⟨k, rfl⟩ : ∃ k', k = k' + 1 := ⟨k - 1, by omega⟩
  obtain ⟨⟨hT, hn, hok⟩, h1, h2, h3⟩ := id h
  obtain ⟨⟨m1, m2, m3, m4, m5⟩, g1, g2, g3, g4⟩ := id hm
  refine oT_N 2 rfl ?_
  have outer : ∀ (d r : Nat) (τ : ox_S) (l2 l3 : Option Value), r + d = M.R → (∀ o, o ≠ 56 → τ o = σ o) → oZ1 τ 56 5760 → oIR P.n M (oGv P σ) r (fun _ => True) (oB τ) →
      oT L (k + 1) 76 2 [some (.ref 7), some (.int (nI r)), l2, l3] [] τ (fun o σ' => o = .inl none ∧ (∀ o, o ≠ 56 → σ' o = σ o) ∧ oZ1 σ' 56 5760 ∧ oIR P.n M (oGv P σ) M.R (fun _ => True) (oB σ')) := by
    intro d
    induction d with
    | zero =>
      intro r τ l2 l3 hr ho hz' hI
      obtain rfl : r = M.R := by omega
      refine oT_N 4 rfl (oT_If (fun _ => ?_) (fun (h0 : ¬ τ 7 8 ≤ nI M.R) => ?_))
      · exact oT_Retv rfl rfl ⟨rfl, ho, hz', hI⟩
      · rw [ho 7 (by decide), g1] at h0
        exact absurd (nI_le (Nat.le_refl _) (by omega)) h0
    | succ d ih =>
      intro r τ l2 l3 hr ho hz' hI
      refine oT_N 4 rfl (oT_If (fun (h0 : τ 7 8 ≤ nI r) => ?_) (fun _ => ?_))
      · rw [ho 7 (by decide), g1] at h0
        exact absurd h0 (nI_ge (by omega) (by omega))
      · refine oT_N 2 rfl ?_
        have hM' : oM τ P := oM_ext h (by rw [ho 7 (by decide)]) (by rw [ho 7 (by decide)]) (fun o o1 o2 => ho o (by omega))
        have inner : ∀ (db a b : Nat) (τ' : ox_S), a < P.n → b + db = P.n → oRi P M σ τ τ' r a b →
            (∀ (τ' : ox_S) (l : Option Value), oRi P M σ τ τ' r (a + 1) 0 → oT L (k + 1) 76 12 [some (.ref 7), some (.int (nI r)), some (.int (nI (a + 1))), l] [] τ' (fun o σ' => o = .inl none ∧ (∀ o, o ≠ 56 → σ' o = σ o) ∧ oZ1 σ' 56 5760 ∧ oIR P.n M (oGv P σ) M.R (fun _ => True) (oB σ'))) →
            oT L (k + 1) 76 22 [some (.ref 7), some (.int (nI r)), some (.int (nI a)), some (.int (nI b))] [] τ' (fun o σ' => o = .inl none ∧ (∀ o, o ≠ 56 → σ' o = σ o) ∧ oZ1 σ' 56 5760 ∧ oIR P.n M (oGv P σ) M.R (fun _ => True) (oB σ')) := by
          intro db
          induction db with
          | zero =>
            intro a b τ' ha hb hJ cont
            obtain rfl : b = P.n := by omega
            refine oT_N 4 rfl (oT_If (fun _ => ?_) (fun (h0 : ¬ τ' 7 2 ≤ nI P.n) => ?_))
            · refine oT_N 2 rfl ?_
              have e := cont τ' (some (.int (nI P.n))) ⟨hJ.1, hJ.2.1, hJ.2.2.1, fun x y hx hy hxy => hJ.2.2.2 x y hx hy (by omega)⟩
              rw [← ox_inc a] at e
              exact e
            · rw [hJ.1 7 (by decide), ho 7 (by decide), h2] at h0
              exact absurd (nI_le (Nat.le_refl _) (by omega)) h0
          | succ db ihb =>
            intro a b τ' ha hb hJ cont
            obtain ⟨j1, j2, j3, j4⟩ := id hJ
            have jo : ∀ o, o ≠ 56 → τ' o = σ o := fun o q => by rw [j1 o q, ho o q]
            refine oT_N 4 rfl (oT_If (fun (h0 : τ' 7 2 ≤ nI b) => ?_) (fun _ => ?_))
            · rw [jo 7 (by decide), h2] at h0
              exact absurd h0 (nI_ge (by omega) (by omega))
            · have hset : ∀ t : Bool, (t = if r < 12 then oGv P σ r a b else oMd τ P.n (M.hw r) (M.lf r) (M.rt r) a b) → oT L (k + 1) 76 22 [some (.ref 7), some (.int (nI r)), some (.int (nI a)), some (.int (nI b + Int32.ofInt 1))] [] (ox_up τ' 56 (144 * r + 12 * a + b) (if t then 1 else 0)) (fun o σ' => o = .inl none ∧ (∀ o, o ≠ 56 → σ' o = σ o) ∧ oZ1 σ' 56 5760 ∧ oIR P.n M (oGv P σ) M.R (fun _ => True) (oB σ')) := fun t ht => by
                have e := ihb a (b + 1) (ox_up τ' 56 (144 * r + 12 * a + b) (if t then 1 else 0)) ha (by omega) ⟨fun o q => by rw [ox_up_ne q, j1 o q], fun q hq => by rw [ox_up_at, if_neg (by omega), j2 q hq], oZ1_up t j3, fun x y hx hy hxy => by
                  rw [oB_up t (by omega) (by omega) (by omega) (by omega)]
                  by_cases e : r = r ∧ x = a ∧ y = b
                  · rw [if_pos e, ht, e.2.1, e.2.2]
                  · rw [if_neg e]
                    exact j4 x y hx hy (by omega)⟩ cont
                rw [← ox_inc b] at e
                exact e
              refine oT_N 14 rfl (oT_If (fun (q : nI 12 ≤ nI r) => ?_) (fun (q : ¬ nI 12 ≤ nI r) => ?_))
              · have hr12 : ¬ r < 12 := fun q2 => nI_ge q2 (by decide) q
                obtain ⟨s1, s2, s3⟩ := m4 r (by omega) (by omega)
                obtain ⟨t1, t2, t3⟩ := g3 r (by omega) (by omega)
                refine oT_N 4 rfl (oT_V rfl rfl rfl rfl (by omega) (by omega) (ot_isMade (n := P.n) j3 (by rw [jo 7 (by decide)]; exact h2) hn (by omega) s1 (by rw [jo 48 (by decide)]; exact t1) (by rw [jo 49 (by decide)]; exact t2) (by rw [jo 50 (by decide)]; exact t3) (by omega) (by omega) (by omega) (by omega) (by omega) (by omega)) (fun x σ2 h => by cases h.1) (fun v σ2 hv => ?_))
                obtain ⟨hv, rfl⟩ := hv
                cases hv
                refine oT_Zs (o := 56) (n := (Int16.ofInt 144).toInt32 * nI r + (Int8.ofInt 12).toInt32 * nI a + nI b) (x := if oMd σ2 P.n (M.hw r) (M.lf r) (M.rt r) a b then 1 else 0) rfl ⟨rfl, by decide⟩ (by rw [ox_i3]; exact ox_ix (N := 5760) (by omega) (by decide)) ?_
                rw [ox_i3, nI_clamp (by omega), ox_nar01]
                exact oT_N 2 rfl (hset _ (by rw [if_neg hr12]; exact oMd_low j2 s2 s3 (by omega) (by omega) hn))
              · have hr12 : r < 12 := Nat.lt_of_not_le (fun q2 => q (nI_le q2 (by omega)))
                refine oT_N 4 rfl (oT_V rfl rfl rfl rfl (by omega) (by omega) (ot_isGiven (σ := τ') (oM_ext h (by rw [jo 7 (by decide)]) (by rw [jo 7 (by decide)]) (fun o o1 o2 => jo o (by omega))) (fun e he hk => by rw [jo 52 (by decide)]; exact hs e he hk) hr12 ha (by omega) (by omega) (by omega)) (fun x σ2 h => by cases h.1) (fun v σ2 hv => ?_))
                obtain ⟨hv, rfl⟩ := hv
                cases hv
                refine oT_N 1 rfl (oT_Zs (o := 56) (n := (Int16.ofInt 144).toInt32 * nI r + (Int8.ofInt 12).toInt32 * nI a + nI b) (x := if oGv P σ2 r a b then 1 else 0) rfl ⟨rfl, by decide⟩ (by rw [ox_i3]; exact ox_ix (N := 5760) (by omega) (by decide)) ?_)
                rw [ox_i3, nI_clamp (by omega), ox_nar01]
                exact oT_N 2 rfl (hset _ (by rw [if_pos hr12]; exact oGv_ext (jo 52 (by decide)) (jo 55 (by decide))))
        have mid : ∀ (da a : Nat) (τ' : ox_S) (l : Option Value), a + da = P.n → oRi P M σ τ τ' r a 0 → oT L (k + 1) 76 12 [some (.ref 7), some (.int (nI r)), some (.int (nI a)), l] [] τ' (fun o σ' => o = .inl none ∧ (∀ o, o ≠ 56 → σ' o = σ o) ∧ oZ1 σ' 56 5760 ∧ oIR P.n M (oGv P σ) M.R (fun _ => True) (oB σ')) := by
          intro da
          induction da with
          | zero =>
            intro a τ' l ha hJ
            obtain rfl : a = P.n := by omega
            obtain ⟨j1, j2, j3, j4⟩ := id hJ
            have jo : ∀ o, o ≠ 56 → τ' o = σ o := fun o q => by rw [j1 o q, ho o q]
            have hlow : ∀ r', r' < r → ∀ x y, x < P.n → y < P.n → oB τ' r' x y = oB τ r' x y := fun r' q x y hx hy => oB_low j2 q (by omega) (by omega)
            -- of the lower relations
            have hkeep : ∀ τ2 : ox_S, (∀ r', r' < r → ∀ x y, x < P.n → y < P.n → oB τ2 r' x y = oB τ r' x y) → oIR P.n M (oGv P σ) r (fun _ => True) (oB τ2) := fun τ2 hq r' hr' _ x y hx hy => by
              obtain ⟨i1, i2⟩ := hI r' hr' trivial x y hx hy
              refine ⟨fun q => by rw [hq r' hr' x y hx hy]; exact i1 q, fun q => ?_⟩
              obtain ⟨s1, s2, s3⟩ := m4 r' q (by omega)
              rw [hq r' hr' x y hx hy, i2 q]
              exact oHw_ext (fun x y hx hy => (hq _ (by omega) x y hx hy).symm) (fun x y hx hy => (hq _ (by omega) x y hx hy).symm) hx hy
            have hnext : ∀ τ2 : ox_S, (∀ o, o ≠ 56 → τ2 o = σ o) → oZ1 τ2 56 5760 → (∀ r', r' < r → ∀ x y, x < P.n → y < P.n → oB τ2 r' x y = oB τ r' x y) → (∀ x y, x < P.n → y < P.n → (r < 12 → oB τ2 r x y = oGv P σ r x y) ∧ (12 ≤ r → (oB τ2 r x y = true ↔ oHw P.n (M.hw r) (oB τ2 (M.lf r)) (oB τ2 (M.rt r)) x y))) → oT L (k + 1) 76 2 [some (.ref 7), some (.int (nI r + Int32.ofInt 1)), some (.int (nI P.n)), l] [] τ2 (fun o σ' => o = .inl none ∧ (∀ o, o ≠ 56 → σ' o = σ o) ∧ oZ1 σ' 56 5760 ∧ oIR P.n M (oGv P σ) M.R (fun _ => True) (oB σ')) := fun τ2 q1 q2 q3 q4 => by
              have e := ih (r + 1) τ2 (some (.int (nI P.n))) l (by omega) q1 q2 (fun r' hr' _ x y hx hy => by
                rcases Nat.lt_or_ge r' r with q | q
                · exact hkeep τ2 q3 r' q trivial x y hx hy
                · obtain rfl : r' = r := by omega
                  exact q4 x y hx hy)
              rw [← ox_inc r] at e
              exact e
            refine oT_N 4 rfl (oT_If (fun _ => ?_) (fun (h0 : ¬ τ' 7 2 ≤ nI P.n) => ?_))
            · refine oT_N 3 rfl (oT_If (fun (q : nI r < nI 12) => ?_) (fun (q : ¬ nI r < nI 12) => ?_))
              · have hr12 : r < 12 := Nat.lt_of_not_le (fun q2 => Int32.not_lt.mpr (nI_le q2 (by omega)) q)
                refine oT_N 2 rfl (hnext τ' jo j3 hlow (fun x y hx hy => ⟨fun _ => ?_, fun q => by omega⟩))
                rw [j4 x y hx hy (Or.inl hx), if_pos hr12]
              · have hr12 : 12 ≤ r := Nat.le_of_not_lt (fun q2 => q (Int32.not_le.mp (nI_ge q2 (by decide))))
                obtain ⟨s1, s2, s3⟩ := m4 r (by omega) (by omega)
                obtain ⟨t1, t2, t3⟩ := g3 r (by omega) (by omega)
                have jv : ∀ x y, x < P.n → y < P.n → oB τ' r x y = oMd τ P.n (M.hw r) (M.lf r) (M.rt r) x y := fun x y hx hy => by rw [j4 x y hx hy (Or.inl hx), if_neg (by omega)]
                refine oT_N 3 rfl (oT_I (o := 48) (n := nI r) rfl (Or.inl ⟨rfl, by decide⟩) (ox_ix (N := 40) (by omega) (by decide)) ?_)
                rw [nI_clamp (show r < 2 ^ 31 by omega), jo 48 (by decide), t1]
                refine oT_N 2 rfl (oT_If (fun (q5 : nI (M.hw r) = nI 5) => ?_) (fun (q5 : ¬ nI (M.hw r) = nI 5) => ?_))
                · have h5 : M.hw r = 5 := (nI_eq (by omega) (by decide)).mp q5
                  refine oT_N 2 rfl (oT_V rfl rfl rfl rfl (by omega) (by omega) (ot_close (n := P.n) j3 (by rw [jo 7 (by decide)]; exact h2) hn (by omega) (by omega) (by omega)) (fun x σ2 h => by cases h.1) (fun v σ2 hv => ?_))
                  obtain ⟨hv, ⟨c1, c2, c3, c4, c5⟩, c6⟩ := hv
                  cases hv
                  have c2' : ∀ r', r' < r → ∀ x y, x < P.n → y < P.n → oB σ2 r' x y = oB τ r' x y := fun r' q x y hx hy => by
                    rw [← hlow r' q x y hx hy]
                    unfold oB
                    rw [c2 _ (fun a b ha hb => by omega)]
                  refine oT_N 2 rfl (hnext σ2 (fun o q => by rw [c1 o q, jo o q]) c3 c2' (fun x y hx hy => ⟨fun q => by omega, fun _ => ?_⟩))
                  rw [c6 x y hx hy, h5]
                  show oTc _ _ _ _ ↔ oTc _ _ _ _
                  have ev : ∀ x y, x < P.n → y < P.n → oB τ' r x y = oB σ2 (M.lf r) x y := fun x y hx hy => by rw [jv x y hx hy, h5, c2' _ s2 x y hx hy]; rfl
                  exact ⟨oTc_ext ev, oTc_ext (fun a b ha hb => (ev a b ha hb).symm)⟩
                · have h5 : M.hw r ≠ 5 := fun e => q5 (by rw [e])
                  refine oT_N 2 rfl (hnext τ' jo j3 hlow (fun x y hx hy => ⟨fun q => by omega, fun _ => ?_⟩))
                  rw [jv x y hx hy, oMd_hw (by omega)]
                  exact oHw_ext (fun x y hx hy => (hlow _ s2 x y hx hy).symm) (fun x y hx hy => (hlow _ s3 x y hx hy).symm) hx hy
            · rw [jo 7 (by decide), h2] at h0
              exact absurd (nI_le (Nat.le_refl _) (by omega)) h0
          | succ da iha =>
            intro a τ' l ha hJ
            have jo : ∀ o, o ≠ 56 → τ' o = σ o := fun o q => by rw [hJ.1 o q, ho o q]
            refine oT_N 4 rfl (oT_If (fun (h0 : τ' 7 2 ≤ nI a) => ?_) (fun _ => ?_))
            · rw [jo 7 (by decide), h2] at h0
              exact absurd h0 (nI_ge (by omega) (by omega))
            · refine oT_N 2 rfl ?_
              exact inner P.n a 0 τ' (by omega) (by omega) hJ (fun τ' l h => iha (a + 1) τ' l (by omega) h)
        exact mid P.n 0 τ l3 (by omega) ⟨fun _ _ => rfl, fun _ _ => rfl, hz', fun x y _ _ q => by omega⟩
  exact outer M.R 0 σ none none (by omega) (fun _ _ => rfl) hz (fun r hr => absurd hr (by omega))
