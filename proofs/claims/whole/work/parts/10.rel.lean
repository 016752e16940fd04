/-- a value as the real machine has it: ad gives an object's address -/
def ox_cv (ad : Nat → Nat) (v : Value) : Value := match v with
  | .ref o => .ref (ad o)
  | v => v
def ox_fs (ad : Nat → Nat) (σ : ox_S) (o : Nat) : List Value := (List.range (ox_fn (ox_k o))).map (fun k => bif ox_rf (ox_k o) k then .ref (ad (ox_r o k)) else .int (σ o k))
/-- what an object's cell holds -/
def ox_en (ad : Nat → Nat) (cy : Nat → ClassId) (σ : ox_S) (o : Nat) : va_E :=
  if ox_k o < 7 then .inr (ox_k o, ox_fs ad σ o)
  else if ox_k o = 10 then .inl (cy 0, ox_n 0 o, .inl (σ o))
  else if ox_k o = 11 then .inl (cy 1, ox_n 0 o, .inl (σ o))
  else if ox_k o = 12 then .inl (cy 2, ox_n 0 o, .inr (.inr (.inr (.inr (fun i => some (ad (ox_r o i)))))))
  else .inl (cy 3, ox_n 0 o, .inr (.inl (fun i => (σ o i).toInt64)))
def ox_ws (ad : Nat → Nat) (cy : Nat → ClassId) (σ : ox_S) : va_W := (List.range 174).map (fun o => (ad o, ox_en ad cy σ o))
def ox_tys (cy : Nat → ClassId) : List (ClassId × FieldType) := [(cy 0, .int), (cy 1, .boolean), (cy 2, .array .int), (cy 3, .long)]
theorem ox_ws_get {ad : Nat → Nat} {cy : Nat → ClassId} {σ : ox_S} {o : Nat} (h : o < 174) : (ox_ws ad cy σ)[o]? = some (ad o, ox_en ad cy σ o) := by
  simp [ox_ws, h]
theorem ox_en_congr {ad : Nat → Nat} {cy : Nat → ClassId} {σ σ' : ox_S} {o : Nat} (h : σ' o = σ o) : ox_en ad cy σ' o = ox_en ad cy σ o := by
  simp only [ox_en, ox_fs, h]
theorem ox_ws_set {ad : Nat → Nat} {cy : Nat → ClassId} {σ σ' : ox_S} {o : Nat} {E : va_E} (he : ox_en ad cy σ' o = E) (hne : ∀ o', o' ≠ o → σ' o' = σ o') : (ox_ws ad cy σ).set o (ad o, E) = ox_ws ad cy σ' := by
  apply List.ext_getElem?
  intro j
  rw [List.getElem?_set]
  by_cases hj : o = j
  · subst hj
    by_cases h : o < 174
    · rw [ox_ws_get (σ := σ') h, he]; simp [ox_ws, h]
    · simp [ox_ws, h]
  · rw [if_neg hj]
    by_cases h : j < 174
    · rw [ox_ws_get h, ox_ws_get h, ox_en_congr (hne j (fun q => hj q.symm))]
    · simp [ox_ws, h]
theorem ox_up_ne {σ : ox_S} {o k : Nat} {v : Int32} {o' : Nat} (h : o' ≠ o) : ox_up σ o k v o' = σ o' := if_neg h
theorem ox_up_eq {σ : ox_S} {o k : Nat} {v : Int32} : ox_up σ o k v o = upd (σ o) k v := if_pos rfl
/-- the addresses of the objects are apart, and the script's is none of them -/
def ox_ap (ad : Nat → Nat) : Prop := (∀ i j, i < 174 → j < 174 → ad i = ad j → i = j) ∧ ∀ i, i < 174 → ad i ≠ ad 174
/-- what an invocation may write -/
def ox_A (ad : Nat → Nat) (sz : Nat) : Nat → Prop := fun q => (∃ o, o < 174 ∧ q = ad o) ∨ sz ≤ q
theorem ox_wsD {ad : Nat → Nat} {cy : Nat → ClassId} {σ : ox_S} {sz : Nat} (h : ox_ap ad) : va_D (ox_A ad sz) (ox_ws ad cy σ) := by
  refine ⟨fun i j p q hi hj e => ?_, fun k q hk => ?_⟩
  · have h1 : i < 174 := by have := (List.getElem?_eq_some_iff.mp hi).1; simpa [ox_ws] using this
    have h2 : j < 174 := by have := (List.getElem?_eq_some_iff.mp hj).1; simpa [ox_ws] using this
    rw [ox_ws_get h1] at hi
    rw [ox_ws_get h2] at hj
    cases hi; cases hj
    exact h.1 i j h1 h2 e
  · have h1 : k < 174 := by have := (List.getElem?_eq_some_iff.mp hk).1; simpa [ox_ws] using this
    rw [ox_ws_get h1] at hk
    cases hk
    exact Or.inl ⟨k, h1, rfl⟩
/-- the locals -/
def ox_L (ad : Nat → Nat) (lsr : Array Slot) (n : Nat) (ls : List (Option Value)) : Prop := ls.length = n ∧ lsr.size = n ∧ lv_wf lsr ∧ ∀ (i : Nat) (v : Value), ls.getD i none = some v → lsr[i]? = some (.val (ox_cv ad v))
def ox_lv (ad : Nat → Nat) (ls : List (Option Value)) : List (Nat × Value) := (List.range ls.length).filterMap (fun i => (ls.getD i none).map (fun v => (i, ox_cv ad v)))
theorem ox_lv_mem {ad : Nat → Nat} {ls : List (Option Value)} {q : Nat × Value} : q ∈ ox_lv ad ls ↔ ∃ v, ls.getD q.1 none = some v ∧ q.2 = ox_cv ad v := by
  unfold ox_lv
  rw [List.mem_filterMap]
  constructor
  · rintro ⟨i, hi, h⟩
    cases hv : ls.getD i none with
    | none => rw [hv] at h; cases h
    | some v =>
      rw [hv] at h
      cases h
      exact ⟨v, hv, rfl⟩
  · rintro ⟨v, hv, e⟩
    obtain ⟨i, x⟩ := q
    dsimp only at hv e
    subst e
    refine ⟨i, List.mem_range.mpr ?_, by rw [hv]; rfl⟩
    rcases Nat.lt_or_ge i ls.length with h | h
    · exact h
    · rw [List.getD_eq_getElem?_getD, List.getElem?_eq_none h] at hv; cases hv
theorem ox_L.has {ad : Nat → Nat} {lsr : Array Slot} {n : Nat} {ls : List (Option Value)} (h : ox_L ad lsr n ls) : lv_has lsr n (ox_lv ad ls) := by
  refine ⟨h.2.1, h.2.2.1, fun q hq => ?_⟩
  obtain ⟨v, hv, e⟩ := ox_lv_mem.mp hq
  rw [e]
  exact h.2.2.2 _ _ hv
theorem ox_cv_cat (ad : Nat → Nat) (v : Value) : (ox_cv ad v).category = v.category := by cases v <;> rfl
theorem ox_getD_set {ls : List (Option Value)} {i j : Nat} {x : Option Value} : (ls.set i x).getD j none = if i = j ∧ j < ls.length then x else ls.getD j none := by
  rw [List.getD_eq_getElem?_getD, List.getD_eq_getElem?_getD, List.getElem?_set]
  by_cases h : i = j
  · subst h
    by_cases h2 : i < ls.length
    · simp [h2]
    · simp [h2]
  · simp [h]
theorem ox_nl_spec {ls : List (Option Value)} {i j : Nat} {v : Value} (h : ox_nl ls i = true) (hj : j + 1 = i) (hv : ls.getD j none = some v) : v.category ≠ 2 := by
  subst hj
  simp only [ox_nl] at h
  rw [hv] at h
  cases v <;> simp_all [Value.category]
theorem ox_L.store1 {ad : Nat → Nat} {lsr ls' : Array Slot} {n i : Nat} {ls : List (Option Value)} {v : Value} (h : ox_L ad lsr n ls) (hi : i < n) (hnl : ox_nl ls i = true)
    (h' : lv_has ls' n ((i, ox_cv ad v) :: (ox_lv ad ls).filter (fun q => !(q.1 == i) && !(q.1 + 1 == i && q.2.category == 2)))) : ox_L ad ls' n (ls.set i (some v)) := by
  refine ⟨by rw [List.length_set]; exact h.1, h'.1, h'.2.1, fun j u hu => ?_⟩
  rw [ox_getD_set] at hu
  by_cases hj : i = j ∧ j < ls.length
  · rw [if_pos hj] at hu
    cases hu
    rw [← hj.1]
    exact h'.2.2 _ (List.mem_cons_self ..)
  · rw [if_neg hj] at hu
    have hij : j ≠ i := fun q => hj ⟨q.symm, by rw [h.1, q]; exact hi⟩
    refine h'.2.2 (j, ox_cv ad u) (List.mem_cons_of_mem _ (List.mem_filter.mpr ⟨ox_lv_mem.mpr ⟨u, hu, rfl⟩, ?_⟩))
    have hc : ¬ (j + 1 = i ∧ u.category = 2) := fun q => ox_nl_spec hnl q.1 hu q.2
    simp only [ox_cv_cat, Bool.and_eq_true, Bool.not_eq_true', beq_eq_false_iff_ne, ne_eq, Bool.and_eq_false_iff]
    refine ⟨hij, ?_⟩
    by_cases h1 : j + 1 = i
    · exact Or.inr (fun q => hc ⟨h1, q⟩)
    · exact Or.inl h1
