theorem oPt_fst {n : Nat} {f : Nat → Nat → Bool} : ∀ (j a b : Nat), b < n → oPt n f (j + 1) a b → ∃ c, c < n ∧ f a c = true ∧ oPt n f j c b
  | 0, a, b, hb, ⟨c, h1, h2, h3⟩ => ⟨b, hb, by rw [show a = c from h2]; exact h3, rfl⟩
  | j + 1, a, b, hb, ⟨c, h1, h2, h3⟩ => by
    obtain ⟨d, d1, d2, d3⟩ := oPt_fst j a c h1 h2
    exact ⟨d, d1, d2, c, h1, d3, h3⟩
theorem oPt_cons {n : Nat} {f : Nat → Nat → Bool} : ∀ (j a c b : Nat), a < n → f a c = true → oPt n f j c b → oPt n f (j + 1) a b
  | 0, a, c, b, ha, h, q => ⟨a, ha, rfl, by rw [← show c = b from q]; exact h⟩
  | j + 1, a, c, b, ha, h, ⟨d, d1, d2, d3⟩ => ⟨d, d1, oPt_cons j a c d ha h d2, d3⟩
/-- g walks the first shortest ring -/
def oWk (n : Nat) (f : Nat → Nat → Bool) (m : Nat) (g : Nat → Nat) : Prop :=
  (g 0 < n ∧ oPt n f m (g 0) (g 0) ∧ ∀ a, a < g 0 → ¬ oPt n f m a a) ∧ ∀ i, i + 1 < m → g (i + 1) < n ∧ f (g i) (g (i + 1)) = true ∧ oPt n f (m - 1 - i) (g (i + 1)) (g 0) ∧ ∀ c, c < g (i + 1) → ¬ (f (g i) c = true ∧ oPt n f (m - 1 - i) c (g 0))
theorem oWk_one {n m : Nat} {f f' : Nat → Nat → Bool} {g g' : Nat → Nat} (he : ∀ a b, a < n → b < n → f a b = f' a b) (h : oWk n f m g) (h' : oWk n f' m g') : ∀ i, i < m → g i = g' i := by
  have hx : ∀ j a b, a < n → b < n → (oPt n f j a b ↔ oPt n f' j a b) := fun j a b ha hb => ⟨oPt_ext he j a b ha hb, oPt_ext (fun a b ha hb => (he a b ha hb).symm) j a b ha hb⟩
  obtain ⟨⟨a1, a2, a3⟩, a4⟩ := h
  obtain ⟨⟨b1, b2, b3⟩, b4⟩ := h'
  have h0 : g 0 = g' 0 := by
    rcases Nat.lt_trichotomy (g 0) (g' 0) with q | q | q
    · exact absurd ((hx _ _ _ a1 a1).mp a2) (b3 _ q)
    · exact q
    · exact absurd ((hx _ _ _ b1 b1).mpr b2) (a3 _ q)
  intro i
  induction i with
  | zero => exact fun _ => h0
  | succ i ih =>
    intro hi
    have e := ih (by omega)
    have hgi : g i < n := by
      cases i with
      | zero => exact a1
      | succ i => exact (a4 i (by omega)).1
    obtain ⟨c1, c2, c3, c4⟩ := a4 i hi
    obtain ⟨d1, d2, d3, d4⟩ := b4 i hi
    rcases Nat.lt_trichotomy (g (i + 1)) (g' (i + 1)) with q | q | q
    · exact absurd ⟨by rw [← e, ← he _ _ hgi c1]; exact c2, by rw [← h0]; exact (hx _ _ _ c1 a1).mp c3⟩ (d4 _ q)
    · exact q
    · exact absurd ⟨by rw [he _ _ hgi d1, e]; exact d2, (hx _ _ _ d1 a1).mpr (by rw [h0]; exact d3)⟩ (c4 _ q)
theorem oS_tf {σ : ox_S} {j a b : Nat} (hz : oZ1 σ 57 1872) (hj : j ≤ 12) (ha : a < 12) (hb : b < 12) : σ 57 (144 * j + 12 * a + b) = if oS σ j a b then 1 else 0 := by
  unfold oS
  rcases hz (144 * j + 12 * a + b) (by omega) with q | q
  · rw [q]; rfl
  · rw [q]; rfl
set_option maxHeartbeats 1000000 in
theorem ot_walk {L k r n m : Nat} {σ : ox_S} (hz : oZ1 σ 56 5760) (hz7 : oZ1 σ 57 1872) (hm : σ 7 32 = nI m) (hm1 : 1 ≤ m) (hmn : m ≤ n) (hn12 : n ≤ 12) (hr : r < 40) (hS : ∀ j, j ≤ m → ∀ a b, a < n → b < n → (oS σ j a b = true ↔ oPt n (oB σ r) j a b)) (hex : ∃ a, a < n ∧ oPt n (oB σ r) m a a) (hk : 2 ≤ k) (hk9 : k ≤ 9) :
    oT L k 84 0 [some (.ref 7), some (.int (nI r)), none, none, none, none] [] σ (fun o σ' => o = .inl none ∧ (∀ o, o ≠ 66 → σ' o = σ o) ∧ ∃ g, oWk n (oB σ r) m g ∧ ∀ i, i < m → σ' 66 i = nI (g i)) := by
  obtain ⟨k, rfl⟩ : ∃ k', k = k' + 1 := ⟨k - 1, by omega⟩
  obtain ⟨s, ⟨hs1, hs2⟩, hs3⟩ := pk_least (fun a => a < n ∧ oPt n (oB σ r) m a a) hex
  refine oT_N 2 rfl ?_
  -- the ring
  have ring : ∀ (d i : Nat) (g : Nat → Nat) (τ : ox_S) (l5 : Option Value), i + d = m → (∀ o, o ≠ 66 → τ o = σ o) → g 0 = s → g i < n → oPt n (oB σ r) (m - i) (g i) s → (∀ j, j < i → g (j + 1) < n ∧ oB σ r (g j) (g (j + 1)) = true ∧ oPt n (oB σ r) (m - 1 - j) (g (j + 1)) s ∧ ∀ c, c < g (j + 1) → ¬ (oB σ r (g j) c = true ∧ oPt n (oB σ r) (m - 1 - j) c s)) → (∀ j, j < i → τ 66 j = nI (g j)) →
      oT L (k + 1) 84 36 [some (.ref 7), some (.int (nI r)), some (.int (nI (g i))), some (.int (nI s)), some (.int (nI i)), l5] [] τ (fun o σ' => o = .inl none ∧ (∀ o, o ≠ 66 → σ' o = σ o) ∧ ∃ g, oWk n (oB σ r) m g ∧ ∀ i, i < m → σ' 66 i = nI (g i)) := by
    intro d
    induction d with
    | zero =>
      intro i g τ l5 hi t1 g0 gi gp gs gt
      obtain rfl : i = m := by omega
      refine oT_N 4 rfl (oT_le i i (by rw [t1 7 (by decide)]; exact hm) rfl (by omega) (by omega) (fun _ => ?_) (fun q => by omega))
      refine oT_Retv rfl rfl ⟨rfl, t1, g, ⟨⟨by rw [g0]; exact hs1, by rw [g0]; exact hs2, fun a ha q => hs3 a (by rw [← g0]; exact ha) ⟨by omega, q⟩⟩, fun j hj => ?_⟩, gt⟩
      rw [g0]
      exact gs j (by omega)
    | succ d ih =>
      intro i g τ l5 hi t1 g0 gi gp gs gt
      refine oT_N 4 rfl (oT_le m i (by rw [t1 7 (by decide)]; exact hm) rfl (by omega) (by omega) (fun q => by omega) (fun _ => ?_))
      refine oT_N 4 rfl (oT_Is (o := 66) (n := nI i) (x := nI (g i)) rfl ⟨rfl, by decide⟩ (ox_ix (N := 12) (by omega) (by decide)) ?_)
      rw [nI_clamp (show i < 2 ^ 31 by omega)]
      rw [show m - i = m - 1 - i + 1 by omega] at gp
      obtain ⟨c, ⟨hc1, hc2, hc3⟩, hc4⟩ := pk_least (fun c => c < n ∧ oB σ r (g i) c = true ∧ oPt n (oB σ r) (m - 1 - i) c s) (oPt_fst _ _ _ hs1 gp)
      have u1 : ∀ o, o ≠ 66 → ox_up τ 66 i (nI (g i)) o = σ o := fun o ho => by rw [ox_up_ne ho]; exact t1 o ho
      have hB : ∀ x y, oB (ox_up τ 66 i (nI (g i))) r x y = oB σ r x y := fun x y => by unfold oB; rw [u1 56 (by decide)]
      have find : ∀ (dc y : Nat), y + dc = c → oT L (k + 1) 84 56 [some (.ref 7), some (.int (nI r)), some (.int (nI (g i))), some (.int (nI s)), some (.int (nI i)), some (.int (nI y))] [] (ox_up τ 66 i (nI (g i))) (fun o σ' => o = .inl none ∧ (∀ o, o ≠ 66 → σ' o = σ o) ∧ ∃ g, oWk n (oB σ r) m g ∧ ∀ i, i < m → σ' 66 i = nI (g i)) := by
        intro dc
        induction dc with
        | zero =>
          intro y hy
          obtain rfl : y = c := by omega
          refine oT_N 4 rfl (oT_V rfl rfl rfl rfl (by omega) (by omega) (ot_isB (by unfold oZ1; rw [u1 56 (by decide)]; exact hz) hr (by omega) (by omega)) (fun x σ2 h => by cases h.1) (fun v σ2 hv => ?_))
          obtain ⟨hv, rfl⟩ := hv
          cases hv
          rw [hB, hc2]
          refine oT_N 1 rfl (oT_If (fun (q : (1 : Int32) = 0) => absurd q (by decide)) (fun _ => ?_))
          have hix : (Int16.ofInt 144).toInt32 * (ox_up τ 66 i (nI (g i)) 7 32 - Int32.ofInt 1 - nI i) + (Int8.ofInt 12).toInt32 * nI y + nI s = nI (144 * (m - 1 - i) + 12 * y + s) := by
            rw [u1 7 (by decide), hm, show nI m - Int32.ofInt 1 = nI (m - 1) from pk_sub (b := 1) hm1, pk_sub (by omega)]
            exact ox_i3 _ _ _
          refine oT_N 16 rfl (oT_Z (o := 57) (n := (Int16.ofInt 144).toInt32 * (ox_up τ 66 i (nI (g i)) 7 32 - Int32.ofInt 1 - nI i) + (Int8.ofInt 12).toInt32 * nI y + nI s) rfl ⟨rfl, by decide⟩ (by rw [hix]; exact ox_ix (N := 1872) (by omega) (by decide)) ?_)
          rw [hix, nI_clamp (by omega), u1 57 (by decide), oS_tf hz7 (by omega) (by omega) (by omega), (hS (m - 1 - i) (by omega) y s hc1 hs1).mpr hc3]
          refine oT_N 1 rfl (oT_If (fun (q : (1 : Int32) = 0) => absurd q (by decide)) (fun _ => ?_))
          have e := ih (i + 1) (fun j => if j ≤ i then g j else y) (ox_up τ 66 i (nI (g i))) (some (.int (nI y))) (by omega) u1 (by rw [if_pos (by omega)]; exact g0) (by rw [if_neg (by omega)]; exact hc1) (by rw [if_neg (by omega), show m - (i + 1) = m - 1 - i by omega]; exact hc3) (fun j hj => by
            rcases Nat.lt_or_ge j i with q | q
            · rw [if_pos (by omega), if_pos (by omega)]
              exact gs j q
            · obtain rfl : j = i := by omega
              rw [if_pos (Nat.le_refl _), if_neg (by omega)]
              exact ⟨hc1, hc2, hc3, fun c' hc' q => hc4 c' hc' ⟨by omega, q⟩⟩) (fun j hj => by
            rw [ox_up_at, if_pos (show j ≤ i by omega)]
            by_cases q : j = i
            · rw [if_pos q, q]
            · rw [if_neg q]; exact gt j (by omega))
          rw [if_neg (by omega), ← ox_inc i] at e
          exact oT_N 4 rfl e
        | succ dc ihc =>
          intro y hy
          have hgo : oT L (k + 1) 84 56 [some (.ref 7), some (.int (nI r)), some (.int (nI (g i))), some (.int (nI s)), some (.int (nI i)), some (.int (nI y + Int32.ofInt 1))] [] (ox_up τ 66 i (nI (g i))) (fun o σ' => o = .inl none ∧ (∀ o, o ≠ 66 → σ' o = σ o) ∧ ∃ g, oWk n (oB σ r) m g ∧ ∀ i, i < m → σ' 66 i = nI (g i)) := by
            have e := ihc (y + 1) (by omega)
            rw [← ox_inc y] at e
            exact e
          refine oT_N 4 rfl (oT_V rfl rfl rfl rfl (by omega) (by omega) (ot_isB (by unfold oZ1; rw [u1 56 (by decide)]; exact hz) hr (by omega) (by omega)) (fun x σ2 h => by cases h.1) (fun v σ2 hv => ?_))
          obtain ⟨hv, rfl⟩ := hv
          cases hv
          rw [hB]
          cases hb : oB σ r (g i) y with
          | false =>
            refine oT_N 1 rfl (oT_If (fun _ => ?_) (fun (q : ¬ (0 : Int32) = 0) => absurd rfl q))
            exact oT_N 2 rfl hgo
          | true =>
            refine oT_N 1 rfl (oT_If (fun (q : (1 : Int32) = 0) => absurd q (by decide)) (fun _ => ?_))
            have hix : (Int16.ofInt 144).toInt32 * (ox_up τ 66 i (nI (g i)) 7 32 - Int32.ofInt 1 - nI i) + (Int8.ofInt 12).toInt32 * nI y + nI s = nI (144 * (m - 1 - i) + 12 * y + s) := by
              rw [u1 7 (by decide), hm, show nI m - Int32.ofInt 1 = nI (m - 1) from pk_sub (b := 1) hm1, pk_sub (by omega)]
              exact ox_i3 _ _ _
            refine oT_N 16 rfl (oT_Z (o := 57) (n := (Int16.ofInt 144).toInt32 * (ox_up τ 66 i (nI (g i)) 7 32 - Int32.ofInt 1 - nI i) + (Int8.ofInt 12).toInt32 * nI y + nI s) rfl ⟨rfl, by decide⟩ (by rw [hix]; exact ox_ix (N := 1872) (by omega) (by decide)) ?_)
            rw [hix, nI_clamp (by omega), u1 57 (by decide), oS_tf hz7 (by omega) (by omega) (by omega)]
            have hno : oS σ (m - 1 - i) y s = false := by
              cases q : oS σ (m - 1 - i) y s with
              | false => rfl
              | true => exact absurd ⟨by omega, hb, (hS (m - 1 - i) (by omega) y s (by omega) hs1).mp q⟩ (hc4 y (by omega))
            rw [hno]
            refine oT_N 1 rfl (oT_If (fun _ => ?_) (fun (q : ¬ (0 : Int32) = 0) => absurd rfl q))
            exact oT_N 2 rfl hgo
      exact oT_N 2 rfl (find c 0 (by omega))
  -- its beginning
  have beg : ∀ (d a : Nat), a + d = s → oT L (k + 1) 84 2 [some (.ref 7), some (.int (nI r)), some (.int (nI a)), none, none, none] [] σ (fun o σ' => o = .inl none ∧ (∀ o, o ≠ 66 → σ' o = σ o) ∧ ∃ g, oWk n (oB σ r) m g ∧ ∀ i, i < m → σ' 66 i = nI (g i)) := by
    intro d
    induction d with
    | zero =>
      intro a ha
      obtain rfl : a = s := by omega
      have hix : (Int16.ofInt 144).toInt32 * σ 7 32 + (Int8.ofInt 12).toInt32 * nI a + nI a = nI (144 * m + 12 * a + a) := by rw [hm]; exact ox_i3 _ _ _
      refine oT_N 12 rfl (oT_Z (o := 57) (n := (Int16.ofInt 144).toInt32 * σ 7 32 + (Int8.ofInt 12).toInt32 * nI a + nI a) rfl ⟨rfl, by decide⟩ (by rw [hix]; exact ox_ix (N := 1872) (by omega) (by decide)) ?_)
      rw [hix, nI_clamp (by omega), oS_tf hz7 (by omega) (by omega) (by omega), (hS m (by omega) a a hs1 hs1).mpr hs2]
      refine oT_N 1 rfl (oT_If (fun (q : (1 : Int32) = 0) => absurd q (by decide)) (fun _ => ?_))
      exact oT_N 4 rfl (ring m 0 (fun _ => a) σ none (by omega) (fun _ _ => rfl) rfl hs1 (by rw [Nat.sub_zero]; exact hs2) (fun j hj => by omega) (fun j hj => by omega))
    | succ d ih =>
      intro a ha
      have hix : (Int16.ofInt 144).toInt32 * σ 7 32 + (Int8.ofInt 12).toInt32 * nI a + nI a = nI (144 * m + 12 * a + a) := by rw [hm]; exact ox_i3 _ _ _
      refine oT_N 12 rfl (oT_Z (o := 57) (n := (Int16.ofInt 144).toInt32 * σ 7 32 + (Int8.ofInt 12).toInt32 * nI a + nI a) rfl ⟨rfl, by decide⟩ (by rw [hix]; exact ox_ix (N := 1872) (by omega) (by decide)) ?_)
      rw [hix, nI_clamp (by omega), oS_tf hz7 (by omega) (by omega) (by omega)]
      have hno : oS σ m a a = false := by
        cases q : oS σ m a a with
        | false => rfl
        | true => exact absurd ⟨by omega, (hS m (by omega) a a (by omega) (by omega)).mp q⟩ (hs3 a (by omega))
      rw [hno]
      refine oT_N 1 rfl (oT_If (fun _ => ?_) (fun (q : ¬ (0 : Int32) = 0) => absurd rfl q))
      have e := ih (a + 1) (by omega)
      rw [← ox_inc a] at e
      exact oT_N 2 rfl e
  exact beg s 0 (by omega)
