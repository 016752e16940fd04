section OX2
variable {p : Program} {l : Launch} {e : Env} {R : Room} {s : State} {m : MethodId} {args : Array Value} {below : List Frame} {meth : Method} {c : Code} {H : Heap} {locs : List Loc} {cells slots : Nat} {Q : State → Prop}
variable {mi : Nat} {D : va_G} {ad : Nat → Nat} {cy : Nat → ClassId} {L : Nat} {xs : Nat → Int32} {pc : Nat} {ls : List (Option Value)} {st : List Value} {σ : ox_S} {lsr : Array Slot} {en : Instr × Nat × Nat × Nat} {q : ox_P}
theorem ox_en10 {o : Nat} (h : ox_k o = 10) : ox_en ad cy σ o = .inl (cy 0, ox_n 0 o, .inl (σ o)) := by simp [ox_en, h]
theorem ox_en11 {o : Nat} (h : ox_k o = 11) : ox_en ad cy σ o = .inl (cy 1, ox_n 0 o, .inl (σ o)) := by simp [ox_en, h]
theorem ox_en12 {o : Nat} (h : ox_k o = 12) : ox_en ad cy σ o = .inl (cy 2, ox_n 0 o, .inr (.inr (.inr (.inr (fun i => some (ad (ox_r o i))))))) := by simp [ox_en, h]
theorem ox_en13 {o : Nat} (h : ox_k o = 13) : ox_en ad cy σ o = .inl (cy 3, ox_n 0 o, .inr (.inl (fun i => (σ o i).toInt64))) := by simp [ox_en, h]
theorem ox_enF {o : Nat} (h : ox_k o < 7) : ox_en ad cy σ o = .inr (ox_k o, ox_fs ad σ o) := by simp [ox_en, h]
theorem ox_fs_get {o k : Nat} (h : k < ox_fn (ox_k o)) : (ox_fs ad σ o)[k]? = some (bif ox_rf (ox_k o) k then .ref (ad (ox_r o k)) else .int (σ o k)) := by simp [ox_fs, h]
theorem ox_fs_set {o k : Nat} {x : Int32} (hr : ox_rf (ox_k o) k = false) : ox_fs ad (ox_up σ o k x) o = (ox_fs ad σ o).set k (.int x) := by
  apply List.ext_getElem?
  intro j
  rw [List.getElem?_set]
  by_cases hj : k = j
  · subst hj
    by_cases h : k < ox_fn (ox_k o)
    · rw [ox_fs_get h, hr, ox_up_eq]; simp [ox_fs, h, upd]
    · simp [ox_fs, h]
  · rw [if_neg hj]
    by_cases h : j < ox_fn (ox_k o)
    · rw [ox_fs_get h, ox_fs_get h, ox_up_eq]
      simp only [upd, if_neg (fun q : j = k => hj q.symm)]
    · simp [ox_fs, h]
theorem ox_fl {j i a b : Nat} (h : ox_FL.any (fun q => q.1 == j && q.2.1 == i && q.2.2.1 == a && q.2.2.2.1 == b) = true) : Cond.fieldLink (ox_R j) i (ox_T a b).1 (ox_T a b).2.1 (ox_T a b).2.2.1 ∈ ox_gw ∧ a < 7 ∧ b < ox_fn a := by
  obtain ⟨q, hq, h⟩ := List.any_eq_true.mp h
  simp only [Bool.and_eq_true, beq_iff_eq] at h
  obtain ⟨⟨⟨rfl, rfl⟩, rfl⟩, rfl⟩ := h
  obtain ⟨h1, h2, h3⟩ := ox_FLok q hq
  exact ⟨ox_mem _ h1 rfl, h2, h3⟩
theorem ox_cl2 {j i a : Nat} (h : ox_CL.any (fun q => q.1 == j && q.2.1 == i && q.2.2.1 == a) = true) : Cond.constantLong (ox_R j) i (Int64.ofNat a) ∈ ox_gw := by
  obtain ⟨q, hq, h⟩ := List.any_eq_true.mp h
  simp only [Bool.and_eq_true, beq_iff_eq] at h
  obtain ⟨⟨rfl, rfl⟩, rfl⟩ := h
  exact ox_mem _ (ox_CLok q hq) rfl
theorem ox_MMok : ∀ q ∈ ox_MM, lw_tbl[q.2.2.2.2]? = some (.methodLink (ox_R q.1) q.2.1 Lib.Math.max.name) := by decide +kernel
set_option maxRecDepth 100000 in
theorem ox_mm1 : Cond.static Lib.Math.max.name ∈ ox_gw := ox_mem 629 (by decide +kernel) rfl
theorem ox_mm2 : Cond.initialized "java/lang/Math" ∈ ox_gw := ox_mem 53 (by decide +kernel) rfl
set_option maxRecDepth 100000 in
theorem ox_mm3 : Cond.code Lib.Math.max.name Lib.Math.max.code 2 (some .int) ∈ ox_gw := ox_mem 630 (by decide +kernel) rfl
theorem ox_mm {j pc i len b : Nat} (h : ox_lnk j pc (.invokestatic i, len, 901, b) = true) : Cond.methodLink (ox_R j) i Lib.Math.max.name ∈ ox_gw := by
  unfold ox_lnk at h
  dsimp only at h
  rw [Bool.or_eq_true, Bool.or_eq_true] at h
  rcases h with (h | h) | h
  · obtain ⟨q, hq, h⟩ := List.any_eq_true.mp h
    simp only [Bool.and_eq_true, beq_iff_eq] at h
    have := (ox_MLok q hq).2.1
    omega
  · obtain ⟨q, hq, h⟩ := List.any_eq_true.mp h
    simp only [Bool.and_eq_true, beq_iff_eq] at h
    have := (ox_NLok q hq).2.1
    omega
  · rw [Bool.and_eq_true] at h
    obtain ⟨q, hq, h⟩ := List.any_eq_true.mp h.2
    simp only [Bool.and_eq_true, beq_iff_eq] at h
    obtain ⟨rfl, rfl⟩ := h
    exact ox_mem _ (ox_MMok q hq) rfl
set_option maxHeartbeats 4000000 in
set_option maxRecDepth 100000 in
theorem ox_snd1 (hR1 : 1 ≤ R.frames) (hR2 : 21 ≤ R.locals) (hcl : cells ≤ R.cells) (hsl : slots ≤ R.slots) (C : ox_C p s m args meth c mi D ad cy L xs) (hI : ox_I mi pc = some en) (hs : ox_s1 L pc en ls st σ = some q) (hP : va_P D ox_cl (ox_ws ad cy σ) H) (hS : va_S (ox_A ad s.heap.size) s.heap H locs) (hl : ox_L ad lsr (ox_mL mi) ls) (hσ : σ 174 = xs)
    (kk : ox_K p l e R s m args below meth c cells slots Q mi D ad cy xs q) : W p l e R s m args below meth c H locs cells slots Q (F0 m pc lsr (st.map (ox_cv ad))) := by
  obtain ⟨hmi, hx, hb, hml, hown, hts, hr, hlocks, hK, hap, hX, hbl⟩ := C
  obtain ⟨hd, hc⟩ := ox_I1 mi hmi pc en hI
  obtain ⟨ei, len, a, b⟩ := en
  dsimp only at hd
  unfold ox_chk at hc
  rw [Bool.and_eq_true] at hc
  obtain ⟨hc, hn⟩ := hc
  have hlen := hl.1
  cases ei with
  | iconst n =>
    obtain rfl : len = 1 := eq_of_beq hn
    obtain rfl := Option.some.inj hs
    exact lv_iconst hx hb hd rfl (kk _ _ _ hP hS hl hσ)
  | bipush n =>
    obtain rfl : len = 2 := eq_of_beq hn
    obtain rfl := Option.some.inj hs
    exact lv_bipush hx hb hd rfl (kk _ _ _ hP hS hl hσ)
  | sipush n =>
    obtain rfl : len = 3 := eq_of_beq hn
    obtain rfl := Option.some.inj hs
    exact lv_sipush hx hb hd rfl (kk _ _ _ hP hS hl hσ)
  | lconst n =>
    obtain rfl : len = 1 := eq_of_beq hn
    obtain rfl := Option.some.inj hs
    exact lv_lconst hx hb hd rfl (kk _ _ _ hP hS hl hσ)
  | ldc2_w i =>
    obtain rfl : len = 3 := eq_of_beq hn
    obtain rfl := Option.some.inj hs
    exact lv_ldc2 hx hb hown (hts _ (ox_cl2 hc)) hd (kk _ _ _ hP hS hl hσ)
  | iload_n k =>
    obtain rfl : len = 1 := eq_of_beq hn
    obtain ⟨x, hv, rfl⟩ := ox_ldIi hs
    exact lv_iload_n hx hb hd rfl (hl.2.2.2 _ _ hv) (kk _ _ _ hP hS hl hσ)
  | aload_n k =>
    obtain rfl : len = 1 := eq_of_beq hn
    obtain ⟨x, hv, rfl⟩ := ox_ldAi hs
    exact lv_aload_n hx hb hd rfl (hl.2.2.2 _ _ hv) (kk _ _ _ hP hS hl hσ)
  | lload_n k =>
    obtain rfl : len = 1 := eq_of_beq hn
    obtain ⟨x, hv, rfl⟩ := ox_ldLi hs
    exact lv_lload_n hx hb hd rfl (hl.2.2.2 _ _ hv) (kk _ _ _ hP hS hl hσ)
  | iload k =>
    obtain rfl : len = 2 := eq_of_beq hn
    obtain ⟨x, hv, rfl⟩ := ox_ldIi hs
    exact lv_iload hx hb hd (hl.2.2.2 _ _ hv) (kk _ _ _ hP hS hl hσ)
  | aload k =>
    obtain rfl : len = 2 := eq_of_beq hn
    obtain ⟨x, hv, rfl⟩ := ox_ldAi hs
    exact lv_aload hx hb hd (hl.2.2.2 _ _ hv) (kk _ _ _ hP hS hl hσ)
  | istore_n k =>
    obtain rfl : len = 1 := eq_of_beq hn
    obtain ⟨x, r, hst, hs'⟩ := ox_1i hs
    clear hs
    subst hst
    have hs := hs'
    clear hs'
    try dsimp only at hs
    obtain ⟨hi, hnl, rfl⟩ := ox_stoi hs
    exact lv_istore_n hx hb hd rfl hl.has (by rw [← hlen]; exact hi) rfl (fun ls' hl' => kk _ _ _ hP hS (hl.store1 (by rw [← hlen]; exact hi) hnl hl') hσ)
  | istore k =>
    obtain rfl : len = 2 := eq_of_beq hn
    obtain ⟨x, r, hst, hs'⟩ := ox_1i hs
    clear hs
    subst hst
    have hs := hs'
    clear hs'
    try dsimp only at hs
    obtain ⟨hi, hnl, rfl⟩ := ox_stoi hs
    exact lv_istore hx hb hd hl.has (by rw [← hlen]; exact hi) rfl (fun ls' hl' => kk _ _ _ hP hS (hl.store1 (by rw [← hlen]; exact hi) hnl hl') hσ)
  | astore_n k =>
    obtain rfl : len = 1 := eq_of_beq hn
    cases st with
    | nil => cases hs
    | cons v r =>
      cases v with
      | ref x =>
        obtain ⟨hi, hnl, rfl⟩ := ox_stoi hs
        exact lv_astore_n hx hb hd rfl hl.has (by rw [← hlen]; exact hi) rfl (fun ls' hl' => kk _ _ _ hP hS (hl.store1 (by rw [← hlen]; exact hi) hnl hl') hσ)
      | _ => cases hs
  | astore k =>
    obtain rfl : len = 2 := eq_of_beq hn
    cases st with
    | nil => cases hs
    | cons v r =>
      cases v with
      | ref x =>
        obtain ⟨hi, hnl, rfl⟩ := ox_stoi hs
        exact lv_astore hx hb hd hl.has (by rw [← hlen]; exact hi) rfl (fun ls' hl' => kk _ _ _ hP hS (hl.store1 (by rw [← hlen]; exact hi) hnl hl') hσ)
      | _ => cases hs
  | lstore_n k =>
    obtain rfl : len = 1 := eq_of_beq hn
    cases st with
    | nil => cases hs
    | cons v r =>
      cases v with
      | long x =>
        obtain ⟨hi, hnl, rfl⟩ := ox_sto2i hs
        exact lv_lstore_n hx hb hd rfl hl.has (by rw [← hlen]; exact hi) rfl (fun ls' hl' => kk _ _ _ hP hS (hl.store2 (by rw [← hlen]; exact hi) hnl hl') hσ)
      | _ => cases hs
  | iinc i n =>
    obtain rfl : len = 3 := eq_of_beq hn
    unfold ox_s1 at hs
    dsimp only at hs
    split at hs
    · rename_i x hv
      obtain ⟨hi, hnl, rfl⟩ := ox_stoi hs
      obtain ⟨kx, hkx⟩ := List.getElem?_of_mem (ox_lv_mem (ad := ad) (q := (i, .int x)).mpr ⟨.int x, hv, rfl⟩)
      exact lv_iinc hx hb hd hl.has hkx rfl (by rw [← hlen]; exact hi) rfl (fun ls' hl' => kk _ _ _ hP hS (hl.store1 (by rw [← hlen]; exact hi) hnl hl') hσ)
    · cases hs
  | iadd =>
    obtain rfl : len = 1 := eq_of_beq hn
    obtain ⟨x, y, r, hst, hs'⟩ := ox_2i hs
    clear hs
    subst hst
    have hs := hs'
    clear hs'
    try dsimp only at hs
    obtain rfl := Option.some.inj hs
    exact lv_iadd hx hb hd (kk _ _ _ hP hS hl hσ)
  | isub =>
    obtain rfl : len = 1 := eq_of_beq hn
    obtain ⟨x, y, r, hst, hs'⟩ := ox_2i hs
    clear hs
    subst hst
    have hs := hs'
    clear hs'
    try dsimp only at hs
    obtain rfl := Option.some.inj hs
    exact lv_isub hx hb hd (kk _ _ _ hP hS hl hσ)
  | imul =>
    obtain rfl : len = 1 := eq_of_beq hn
    obtain ⟨x, y, r, hst, hs'⟩ := ox_2i hs
    clear hs
    subst hst
    have hs := hs'
    clear hs'
    try dsimp only at hs
    obtain rfl := Option.some.inj hs
    exact lv_imul hx hb hd (kk _ _ _ hP hS hl hσ)
  | iand =>
    obtain rfl : len = 1 := eq_of_beq hn
    obtain ⟨x, y, r, hst, hs'⟩ := ox_2i hs
    clear hs
    subst hst
    have hs := hs'
    clear hs'
    try dsimp only at hs
    obtain rfl := Option.some.inj hs
    exact lv_iand hx hb hd (kk _ _ _ hP hS hl hσ)
  | ior =>
    obtain rfl : len = 1 := eq_of_beq hn
    obtain ⟨x, y, r, hst, hs'⟩ := ox_2i hs
    clear hs
    subst hst
    have hs := hs'
    clear hs'
    try dsimp only at hs
    obtain rfl := Option.some.inj hs
    exact lv_ior hx hb hd (kk _ _ _ hP hS hl hσ)
  | ixor =>
    obtain rfl : len = 1 := eq_of_beq hn
    obtain ⟨x, y, r, hst, hs'⟩ := ox_2i hs
    clear hs
    subst hst
    have hs := hs'
    clear hs'
    try dsimp only at hs
    obtain rfl := Option.some.inj hs
    exact lv_ixor hx hb hd (kk _ _ _ hP hS hl hσ)
  | ishl =>
    obtain rfl : len = 1 := eq_of_beq hn
    obtain ⟨x, y, r, hst, hs'⟩ := ox_2i hs
    clear hs
    subst hst
    have hs := hs'
    clear hs'
    try dsimp only at hs
    obtain rfl := Option.some.inj hs
    exact lv_ishl hx hb hd (kk _ _ _ hP hS hl hσ)
  | idiv =>
    obtain rfl : len = 1 := eq_of_beq hn
    obtain ⟨x, y, r, hst, hs'⟩ := ox_2i hs
    clear hs
    subst hst
    have hs := hs'
    clear hs'
    try dsimp only at hs
    by_cases hy : y = 0
    · rw [if_pos hy] at hs; cases hs
    · rw [if_neg hy] at hs
      obtain rfl := Option.some.inj hs
      exact lv_idiv hx hb hd hy (kk _ _ _ hP hS hl hσ)
  | irem =>
    obtain rfl : len = 1 := eq_of_beq hn
    obtain ⟨x, y, r, hst, hs'⟩ := ox_2i hs
    clear hs
    subst hst
    have hs := hs'
    clear hs'
    try dsimp only at hs
    by_cases hy : y = 0
    · rw [if_pos hy] at hs; cases hs
    · rw [if_neg hy] at hs
      obtain rfl := Option.some.inj hs
      exact lv_irem hx hb hd hy (kk _ _ _ hP hS hl hσ)
  | i2l =>
    obtain rfl : len = 1 := eq_of_beq hn
    obtain ⟨x, r, hst, hs'⟩ := ox_1i hs
    clear hs
    subst hst
    have hs := hs'
    clear hs'
    try dsimp only at hs
    obtain rfl := Option.some.inj hs
    exact lv_i2l hx hb hd rfl (kk _ _ _ hP hS hl hσ)
  | l2i =>
    obtain rfl : len = 1 := eq_of_beq hn
    cases st with
    | nil => cases hs
    | cons v r =>
      cases v with
      | long x =>
        obtain rfl := Option.some.inj hs
        exact lv_l2i hx hb hd rfl (kk _ _ _ hP hS hl hσ)
      | _ => cases hs
  | lmul =>
    obtain rfl : len = 1 := eq_of_beq hn
    unfold ox_s1 at hs
    dsimp only at hs
    split at hs
    · obtain rfl := Option.some.inj hs
      exact lv_lmul hx hb hd (kk _ _ _ hP hS hl hσ)
    · cases hs
  | lcmp =>
    obtain rfl : len = 1 := eq_of_beq hn
    unfold ox_s1 at hs
    dsimp only at hs
    split at hs
    · obtain rfl := Option.some.inj hs
      exact W.lcmp hx hb hd (kk _ _ _ hP hS hl hσ)
    · cases hs
  | dup =>
    obtain rfl : len = 1 := eq_of_beq hn
    cases st with
    | nil => cases hs
    | cons v r =>
      cases v with
      | int x => exact (by obtain rfl := Option.some.inj hs; exact lv_dup hx hb hd rfl (kk _ _ _ hP hS hl hσ))
      | ref x => exact (by obtain rfl := Option.some.inj hs; exact lv_dup hx hb hd rfl (kk _ _ _ hP hS hl hσ))
      | _ => cases hs
  | pop =>
    obtain rfl : len = 1 := eq_of_beq hn
    cases st with
    | nil => cases hs
    | cons v r =>
      cases v with
      | int x => exact (by obtain rfl := Option.some.inj hs; exact lv_pop hx hb hd rfl (kk _ _ _ hP hS hl hσ))
      | ref x => exact (by obtain rfl := Option.some.inj hs; exact lv_pop hx hb hd rfl (kk _ _ _ hP hS hl hσ))
      | _ => cases hs
  | dup2 =>
    obtain rfl : len = 1 := eq_of_beq hn
    cases st with
    | nil => cases hs
    | cons v r =>
      cases r with
      | nil => cases hs
      | cons u r =>
        cases v <;> first | (cases hs; done) | (cases u <;> first | (cases hs; done) | (obtain rfl := Option.some.inj hs; exact lv_dup2_11 hx hb hd rfl rfl (kk _ _ _ hP hS hl hσ)))
  | getfield i =>
    obtain rfl : len = 3 := eq_of_beq hn
    cases st with
    | nil => cases hs
    | cons v r =>
      cases v with
      | ref x =>
        unfold ox_s1 at hs
        dsimp only at hs
        obtain ⟨hfl, ha7, hbn⟩ := ox_fl hc
        cases hg : (Nat.beq (ox_k x) a && Nat.blt x 174) with
        | false => rw [hg] at hs; cases hs
        | true =>
          rw [hg] at hs
          obtain rfl := Option.some.inj hs
          rw [Bool.and_eq_true] at hg
          obtain rfl : ox_k x = a := Nat.eq_of_beq_eq_true hg.1
          have hx1 : x < 174 := Nat.le_of_ble_eq_true hg.2
          refine va_get (D := D) (ci := ox_k x) (C := ox_R (ox_k x)) (T := ox_T (ox_k x)) (N := ox_fn (ox_k x)) hx hb hts (ox_inT _ ha7) hown hK hP x (by rw [ox_ws_get hx1, ox_enF ha7]) (ox_clT _ ha7) b hbn (hts _ hfl) (fun _ h9 => h9) (ox_fs_get hbn) hd ?_
          have h9 := kk _ _ _ hP hS hl hσ
          cases hrf : ox_rf (ox_k x) b with
          | true => rw [hrf] at h9; exact h9
          | false => rw [hrf] at h9; exact h9
      | _ => cases hs
  | putfield i =>
    obtain rfl : len = 3 := eq_of_beq hn
    unfold ox_s1 at hs
    dsimp only at hs
    split at hs
    · rename_i x o r
      obtain ⟨hfl, ha7, hbn⟩ := ox_fl hc
      cases hg : (Nat.beq (ox_k o) a && Nat.blt o 174 && !(ox_rf a b)) with
      | false => rw [hg] at hs; cases hs
      | true =>
        rw [hg] at hs
        obtain rfl := Option.some.inj hs
        rw [Bool.and_eq_true, Bool.and_eq_true] at hg
        obtain rfl : ox_k o = a := Nat.eq_of_beq_eq_true hg.1.1
        have hx1 : o < 174 := Nat.le_of_ble_eq_true hg.1.2
        have hrf : ox_rf (ox_k o) b = false := by have h := hg.2; simpa using h
        obtain ⟨hd1, hd2⟩ := ox_fI _ ha7 _ hbn hrf
        refine va_put (D := D) (ci := ox_k o) (v := .int x) (ty := .int) (C := ox_R (ox_k o)) (T := ox_T (ox_k o)) (N := ox_fn (ox_k o)) hx hb hts (ox_inT _ ha7) (ox_y (ox_k o)) (ox_yT _ ha7) (ox_nT _ ha7) hown hK hP (ox_wsD hap) hS o (by rw [ox_ws_get hx1, ox_enF ha7]) (ox_clT _ ha7) b hbn (hts _ hfl) (fun _ h9 => h9) hd2 hd1 rfl rfl (by simpa [ox_fs] using hbn) hd (fun H1 locs1 hP1 hD1 hS1 => ?_)
        rw [ox_ws_set (σ' := ox_up σ o b x) (by rw [ox_enF ha7, ox_fs_set hrf]) (fun o' h => ox_up_ne h)] at hP1
        exact kk _ _ _ hP1 hS1 hl (by rw [← hσ]; exact ox_up_ne (Nat.ne_of_gt hx1))
    · cases hs
  | iaload =>
    obtain rfl : len = 1 := eq_of_beq hn
    obtain ⟨o, i, r, hst, hs'⟩ := ox_ai hs
    clear hs
    subst hst
    have hs := hs'
    clear hs'
    try dsimp only at hs
    by_cases hg : ((ox_k o = 10 ∧ o < 174) ∨ ox_k o = 14) ∧ ¬ (i < 0 ∨ ox_n L o ≤ i.toNatClampNeg)
    · rw [if_pos hg] at hs
      obtain rfl := Option.some.inj hs
      obtain ⟨hk | hk, hin⟩ := hg
      · obtain ⟨hk, ho⟩ := hk
        rw [ox_nL ho] at hin
        exact va_iald hx hb hK hP o 0 (by rw [ox_ws_get ho, ox_en10 hk]) rfl hin hd (kk _ _ _ hP hS hl hσ)
      · obtain ⟨ho, hn0⟩ := ox_k14 hk
        subst ho
        rw [hn0] at hin
        refine va_sld hx hb hX hbl (ox_notA hap hbl) hS hin hd ?_
        rw [← hσ]
        exact kk _ _ _ hP hS hl hσ
    · rw [if_neg hg] at hs; cases hs
  | baload =>
    obtain rfl : len = 1 := eq_of_beq hn
    obtain ⟨o, i, r, hst, hs'⟩ := ox_ai hs
    clear hs
    subst hst
    have hs := hs'
    clear hs'
    try dsimp only at hs
    by_cases hg : (ox_k o = 11 ∧ o < 174) ∧ ¬ (i < 0 ∨ ox_n L o ≤ i.toNatClampNeg)
    · rw [if_pos hg] at hs
      obtain rfl := Option.some.inj hs
      obtain ⟨⟨hk, ho⟩, hin⟩ := hg
      rw [ox_nL ho] at hin
      exact va_zald hx hb hK hP o 1 (by rw [ox_ws_get ho, ox_en11 hk]) rfl hin hd (kk _ _ _ hP hS hl hσ)
    · rw [if_neg hg] at hs; cases hs
  | aaload =>
    obtain rfl : len = 1 := eq_of_beq hn
    obtain ⟨o, i, r, hst, hs'⟩ := ox_ai hs
    clear hs
    subst hst
    have hs := hs'
    clear hs'
    try dsimp only at hs
    by_cases hg : (ox_k o = 12 ∧ o < 174) ∧ ¬ (i < 0 ∨ ox_n L o ≤ i.toNatClampNeg)
    · rw [if_pos hg] at hs
      obtain rfl := Option.some.inj hs
      obtain ⟨⟨hk, ho⟩, hin⟩ := hg
      rw [ox_nL ho] at hin
      exact ox_aald (f := fun i => some (ad (ox_r o i))) hx hb hK hP o 2 (by rw [ox_ws_get ho, ox_en12 hk]) rfl hin hd (kk _ _ _ hP hS hl hσ)
    · rw [if_neg hg] at hs; cases hs
  | laload =>
    obtain rfl : len = 1 := eq_of_beq hn
    obtain ⟨o, i, r, hst, hs'⟩ := ox_ai hs
    clear hs
    subst hst
    have hs := hs'
    clear hs'
    try dsimp only at hs
    by_cases hg : (ox_k o = 13 ∧ o < 174) ∧ ¬ (i < 0 ∨ ox_n L o ≤ i.toNatClampNeg)
    · rw [if_pos hg] at hs
      obtain rfl := Option.some.inj hs
      obtain ⟨⟨hk, ho⟩, hin⟩ := hg
      rw [ox_nL ho] at hin
      exact va_lald (f := fun i => (σ o i).toInt64) hx hb hK hP o 3 (by rw [ox_ws_get ho, ox_en13 hk]) rfl hin hd (kk _ _ _ hP hS hl hσ)
    · rw [if_neg hg] at hs; cases hs
  | iastore =>
    obtain rfl : len = 1 := eq_of_beq hn
    obtain ⟨o, i, x, r, hst, hs'⟩ := ox_a3i hs
    clear hs
    subst hst
    have hs := hs'
    clear hs'
    try dsimp only at hs
    by_cases hg : (ox_k o = 10 ∧ o < 174) ∧ ¬ (i < 0 ∨ ox_n L o ≤ i.toNatClampNeg)
    · rw [if_pos hg] at hs
      obtain rfl := Option.some.inj hs
      obtain ⟨⟨hk, ho⟩, hin⟩ := hg
      rw [ox_nL ho] at hin
      refine va_iast hx hb hK hP (ox_wsD hap) hS o 0 (by rw [ox_ws_get ho, ox_en10 hk]) rfl hin hd (fun H1 locs1 hP1 hD1 hS1 => ?_)
      rw [ox_ws_set (σ' := ox_up σ o i.toNatClampNeg x) (by rw [ox_en10 hk, ox_up_eq]) (fun o' h => ox_up_ne h)] at hP1
      exact kk _ _ _ hP1 hS1 hl (by rw [← hσ]; exact ox_up_ne (Nat.ne_of_gt ho))
    · rw [if_neg hg] at hs; cases hs
  | bastore =>
    obtain rfl : len = 1 := eq_of_beq hn
    obtain ⟨o, i, x, r, hst, hs'⟩ := ox_a3i hs
    clear hs
    subst hst
    have hs := hs'
    clear hs'
    try dsimp only at hs
    by_cases hg : (ox_k o = 11 ∧ o < 174) ∧ ¬ (i < 0 ∨ ox_n L o ≤ i.toNatClampNeg)
    · rw [if_pos hg] at hs
      obtain rfl := Option.some.inj hs
      obtain ⟨⟨hk, ho⟩, hin⟩ := hg
      rw [ox_nL ho] at hin
      refine va_zast hx hb hK hP (ox_wsD hap) hS o 1 (by rw [ox_ws_get ho, ox_en11 hk]) rfl hin hd (fun H1 locs1 hP1 hD1 hS1 => ?_)
      rw [ox_ws_set (σ' := ox_up σ o i.toNatClampNeg (vp_nar .boolean x)) (by rw [ox_en11 hk, ox_up_eq]) (fun o' h => ox_up_ne h)] at hP1
      exact kk _ _ _ hP1 hS1 hl (by rw [← hσ]; exact ox_up_ne (Nat.ne_of_gt ho))
    · rw [if_neg hg] at hs; cases hs
  | lastore =>
    obtain rfl : len = 1 := eq_of_beq hn
    unfold ox_s1 at hs
    dsimp only at hs
    split at hs
    · rename_i x i o r
      by_cases hg : ((ox_k o = 13 ∧ o < 174) ∧ x.toInt32.toInt64 = x) ∧ ¬ (i < 0 ∨ ox_n L o ≤ i.toNatClampNeg)
      · rw [if_pos hg] at hs
        obtain rfl := Option.some.inj hs
        obtain ⟨⟨⟨hk, ho⟩, hxx⟩, hin⟩ := hg
        rw [ox_nL ho] at hin
        refine va_last hx hb hK hP (ox_wsD hap) hS o 3 (by rw [ox_ws_get ho, ox_en13 hk]) rfl hin hd (fun H1 locs1 hP1 hD1 hS1 => ?_)
        rw [ox_ws_set (σ' := ox_up σ o i.toNatClampNeg x.toInt32) (by rw [ox_en13 hk, ox_up_eq, ox_updL hxx]) (fun o' h => ox_up_ne h)] at hP1
        exact kk _ _ _ hP1 hS1 hl (by rw [← hσ]; exact ox_up_ne (Nat.ne_of_gt ho))
      · rw [if_neg hg] at hs; cases hs
    · cases hs
  | arraylength =>
    obtain rfl : len = 1 := eq_of_beq hn
    cases st with
    | nil => cases hs
    | cons v r =>
      cases v with
      | ref x =>
        unfold ox_s1 at hs
        dsimp only at hs
        cases hg : Nat.beq (ox_k x) 14 with
        | false => rw [hg] at hs; cases hs
        | true =>
          rw [hg] at hs
          obtain rfl := Option.some.inj hs
          obtain ⟨ho, hn0⟩ := ox_k14 (Nat.eq_of_beq_eq_true hg)
          subst ho
          exact va_slen hx hb hX hbl (ox_notA hap hbl) hS hd (kk _ _ _ hP hS hl hσ)
      | _ => cases hs
  | if_icmp cd off =>
    obtain rfl : len = 3 := eq_of_beq hn
    cases cd with
    | eq =>
      obtain ⟨x, y, r, hst, hs'⟩ := ox_2i hs
      clear hs
      subst hst
      have hs := hs'
      clear hs'
      try dsimp only at hs
      obtain rfl := Option.some.inj hs
      refine lv_icmp_eq (tgt := a) hx hb hd (of_decide_eq_true hc) (fun h => ?_) (fun h => ?_)
      · have h9 := kk _ _ _ hP hS hl hσ
        dsimp only at h9
        rw [if_pos h] at h9
        exact h9
      · have h9 := kk _ _ _ hP hS hl hσ
        dsimp only at h9
        rw [if_neg h] at h9
        exact h9
    | ne =>
      obtain ⟨x, y, r, hst, hs'⟩ := ox_2i hs
      clear hs
      subst hst
      have hs := hs'
      clear hs'
      try dsimp only at hs
      obtain rfl := Option.some.inj hs
      refine lv_icmp_ne (tgt := a) hx hb hd (of_decide_eq_true hc) (fun h => ?_) (fun h => ?_)
      · have h9 := kk _ _ _ hP hS hl hσ
        dsimp only at h9
        rw [if_neg h] at h9
        exact h9
      · have h9 := kk _ _ _ hP hS hl hσ
        dsimp only at h9
        rw [if_pos h] at h9
        exact h9
    | lt =>
      obtain ⟨x, y, r, hst, hs'⟩ := ox_2i hs
      clear hs
      subst hst
      have hs := hs'
      clear hs'
      try dsimp only at hs
      obtain rfl := Option.some.inj hs
      refine lv_icmp_lt (tgt := a) hx hb hd (of_decide_eq_true hc) (fun h => ?_) (fun h => ?_)
      · have h9 := kk _ _ _ hP hS hl hσ
        dsimp only at h9
        rw [if_pos h] at h9
        exact h9
      · have h9 := kk _ _ _ hP hS hl hσ
        dsimp only at h9
        rw [if_neg h] at h9
        exact h9
    | ge =>
      obtain ⟨x, y, r, hst, hs'⟩ := ox_2i hs
      clear hs
      subst hst
      have hs := hs'
      clear hs'
      try dsimp only at hs
      obtain rfl := Option.some.inj hs
      refine lv_icmp_ge (tgt := a) hx hb hd (of_decide_eq_true hc) (fun h => ?_) (fun h => ?_)
      · have h9 := kk _ _ _ hP hS hl hσ
        dsimp only at h9
        rw [if_pos h] at h9
        exact h9
      · have h9 := kk _ _ _ hP hS hl hσ
        dsimp only at h9
        rw [if_neg h] at h9
        exact h9
    | gt =>
      obtain ⟨x, y, r, hst, hs'⟩ := ox_2i hs
      clear hs
      subst hst
      have hs := hs'
      clear hs'
      try dsimp only at hs
      obtain rfl := Option.some.inj hs
      refine lv_icmp_gt (tgt := a) hx hb hd (of_decide_eq_true hc) (fun h => ?_) (fun h => ?_)
      · have h9 := kk _ _ _ hP hS hl hσ
        dsimp only at h9
        rw [if_pos h] at h9
        exact h9
      · have h9 := kk _ _ _ hP hS hl hσ
        dsimp only at h9
        rw [if_neg h] at h9
        exact h9
    | le =>
      obtain ⟨x, y, r, hst, hs'⟩ := ox_2i hs
      clear hs
      subst hst
      have hs := hs'
      clear hs'
      try dsimp only at hs
      obtain rfl := Option.some.inj hs
      refine lv_icmp_le (tgt := a) hx hb hd (of_decide_eq_true hc) (fun h => ?_) (fun h => ?_)
      · have h9 := kk _ _ _ hP hS hl hσ
        dsimp only at h9
        rw [if_pos h] at h9
        exact h9
      · have h9 := kk _ _ _ hP hS hl hσ
        dsimp only at h9
        rw [if_neg h] at h9
        exact h9
  | ifCond cd off =>
    obtain rfl : len = 3 := eq_of_beq hn
    cases cd with
    | eq =>
      obtain ⟨x, r, hst, hs'⟩ := ox_1i hs
      clear hs
      subst hst
      have hs := hs'
      clear hs'
      try dsimp only at hs
      obtain rfl := Option.some.inj hs
      refine lv_if_eq (tgt := a) hx hb hd (of_decide_eq_true hc) (fun h => ?_) (fun h => ?_)
      · have h9 := kk _ _ _ hP hS hl hσ
        dsimp only at h9
        rw [if_pos h] at h9
        exact h9
      · have h9 := kk _ _ _ hP hS hl hσ
        dsimp only at h9
        rw [if_neg h] at h9
        exact h9
    | ne =>
      obtain ⟨x, r, hst, hs'⟩ := ox_1i hs
      clear hs
      subst hst
      have hs := hs'
      clear hs'
      try dsimp only at hs
      obtain rfl := Option.some.inj hs
      refine lv_if_ne (tgt := a) hx hb hd (of_decide_eq_true hc) (fun h => ?_) (fun h => ?_)
      · have h9 := kk _ _ _ hP hS hl hσ
        dsimp only at h9
        rw [if_neg h] at h9
        exact h9
      · have h9 := kk _ _ _ hP hS hl hσ
        dsimp only at h9
        rw [if_pos h] at h9
        exact h9
    | lt =>
      obtain ⟨x, r, hst, hs'⟩ := ox_1i hs
      clear hs
      subst hst
      have hs := hs'
      clear hs'
      try dsimp only at hs
      obtain rfl := Option.some.inj hs
      refine lv_if_lt (tgt := a) hx hb hd (of_decide_eq_true hc) (fun h => ?_) (fun h => ?_)
      · have h9 := kk _ _ _ hP hS hl hσ
        dsimp only at h9
        rw [if_pos h] at h9
        exact h9
      · have h9 := kk _ _ _ hP hS hl hσ
        dsimp only at h9
        rw [if_neg h] at h9
        exact h9
    | ge =>
      obtain ⟨x, r, hst, hs'⟩ := ox_1i hs
      clear hs
      subst hst
      have hs := hs'
      clear hs'
      try dsimp only at hs
      obtain rfl := Option.some.inj hs
      refine lv_if_ge (tgt := a) hx hb hd (of_decide_eq_true hc) (fun h => ?_) (fun h => ?_)
      · have h9 := kk _ _ _ hP hS hl hσ
        dsimp only at h9
        rw [if_pos h] at h9
        exact h9
      · have h9 := kk _ _ _ hP hS hl hσ
        dsimp only at h9
        rw [if_neg h] at h9
        exact h9
    | gt =>
      obtain ⟨x, r, hst, hs'⟩ := ox_1i hs
      clear hs
      subst hst
      have hs := hs'
      clear hs'
      try dsimp only at hs
      obtain rfl := Option.some.inj hs
      refine lv_if_gt (tgt := a) hx hb hd (of_decide_eq_true hc) (fun h => ?_) (fun h => ?_)
      · have h9 := kk _ _ _ hP hS hl hσ
        dsimp only at h9
        rw [if_pos h] at h9
        exact h9
      · have h9 := kk _ _ _ hP hS hl hσ
        dsimp only at h9
        rw [if_neg h] at h9
        exact h9
    | le =>
      obtain ⟨x, r, hst, hs'⟩ := ox_1i hs
      clear hs
      subst hst
      have hs := hs'
      clear hs'
      try dsimp only at hs
      obtain rfl := Option.some.inj hs
      refine lv_if_le (tgt := a) hx hb hd (of_decide_eq_true hc) (fun h => ?_) (fun h => ?_)
      · have h9 := kk _ _ _ hP hS hl hσ
        dsimp only at h9
        rw [if_pos h] at h9
        exact h9
      · have h9 := kk _ _ _ hP hS hl hσ
        dsimp only at h9
        rw [if_neg h] at h9
        exact h9
  | goto off =>
    obtain rfl : len = 3 := eq_of_beq hn
    obtain rfl := Option.some.inj hs
    exact lv_goto (tgt := a) hx hb hd (of_decide_eq_true hc) (kk _ _ _ hP hS hl hσ)
  | tableswitch dflt lo hi offs =>
    obtain ⟨x, r, hst, hs'⟩ := ox_1i hs
    clear hs
    subst hst
    have hs := hs'
    clear hs'
    try dsimp only at hs
    by_cases hq : x.toInt < lo ∨ hi < x.toInt
    · rw [if_pos hq] at hs
      by_cases h0 : 0 ≤ (pc : Int) + dflt
      · rw [if_pos h0] at hs
        obtain rfl := Option.some.inj hs
        exact lv_tableOut hx hb hd hq (by omega) (kk _ _ _ hP hS hl hσ)
      · rw [if_neg h0] at hs; cases hs
    · rw [if_neg hq] at hs
      cases ho : offs[(x.toInt - lo).toNat]? with
      | none => rw [ho] at hs; cases hs
      | some off =>
        rw [ho] at hs
        dsimp only at hs
        by_cases h0 : 0 ≤ (pc : Int) + off
        · rw [if_pos h0] at hs
          obtain rfl := Option.some.inj hs
          exact lv_tableIn hx hb hd (fun h => hq (Or.inl h)) (fun h => hq (Or.inr h)) ho (by omega) (kk _ _ _ hP hS hl hσ)
        · rw [if_neg h0] at hs; cases hs
  | invokestatic i =>
    cases h9 : Nat.beq a 901 with
    | false => unfold ox_s1 at hs; dsimp only at hs; rw [h9] at hs; cases hs
    | true =>
      unfold ox_s1 at hs
      dsimp only at hs
      rw [h9] at hs
      obtain rfl : a = 901 := Nat.eq_of_beq_eq_true h9
      obtain ⟨x, y, r, hst, hs'⟩ := ox_2i hs
      subst hst
      cases hg : Nat.ble ((r.map Value.category).sum) 8 with
      | false => rw [hg] at hs'; cases hs'
      | true =>
        rw [hg] at hs'
        obtain rfl := Option.some.inj hs'
        obtain rfl : len = 3 := eq_of_beq hn
        have hg := Nat.le_of_ble_eq_true hg
        have hcat : ((r.map (ox_cv ad)).map fun v => v.category).sum = (r.map Value.category).sum := by rw [List.map_map]; congr 1; exact List.map_congr_left (fun v _ => ox_cv_cat ad v)
        refine va_mmax hx hb (by rw [hml, hl.2.1]) hown (hts _ (ox_mm hc)) (hts _ ox_mm1) (hts _ ox_mm2) (hts _ ox_mm3) hR1 (by rw [hcat]; omega) hcl hsl hd ?_
        exact kk _ _ _ hP hS hl hσ
  | _ => cases hs
end OX2
