/-- an invocation of method mi at level k -/
def ox_rm (k : Nat) : Room := { frames := k, cells := ox_rc k, slots := ox_rs k, locals := 40 + 31 * k }
def ox_C (p : Program) (s : State) (m : MethodId) (args : Array Value) (meth : Method) (c : Code) (mi : Nat) (D : va_G) (ad : Nat → Nat) (cy : Nat → ClassId) (L : Nat) (xs : Nat → Int32) : Prop :=
  mi < 115 ∧ p.tables.exec = Jvm.exec ∧ c.code = ox_b mi ∧ c.maxLocals = ox_mL mi ∧ s.vm.findClass (ox_R (ox_ow mi)) = some m.cls ∧ (∀ w ∈ ox_gw, w.before args s = true) ∧ meth.sig.returnType = ox_rt mi ∧ meth.locks = false ∧
  va_K D ox_cl (ox_tys cy) s ∧ ox_ap ad ∧ va_X (ad 174) L xs s s.heap ∧ ad 174 < s.heap.size
theorem ox_inT : ∀ j, j < 7 → ∀ w ∈ u_ws (ox_R j) (ox_T j) (ox_fn j), w ∈ ox_gw := by
  intro j hj
  match j, hj with
  | 0, _ => exact ox_in0
  | 1, _ => exact ox_in1
  | 2, _ => exact ox_in2
  | 3, _ => exact ox_in3
  | 4, _ => exact ox_in4
  | 5, _ => exact ox_in5
  | 6, _ => exact ox_in6
  | k + 7, h => exact absurd h (by omega)
def ox_y (j : Nat) : Nat → FieldType := match j with
  | 0 => ox_y0
  | 1 => ox_y1
  | 2 => ox_y2
  | 3 => ox_y3
  | 4 => ox_y4
  | 5 => ox_y5
  | _ => ox_y6
theorem ox_yT : ∀ j, j < 7 → ∀ k, k < ox_fn j → parseFieldDescriptor (ox_T j k).2.2.1 = some (ox_y j k) := by
  intro j hj
  match j, hj with
  | 0, _ => exact ox_yok0
  | 1, _ => exact ox_yok1
  | 2, _ => exact ox_yok2
  | 3, _ => exact ox_yok3
  | 4, _ => exact ox_yok4
  | 5, _ => exact ox_yok5
  | 6, _ => exact ox_yok6
  | k + 7, h => exact absurd h (by omega)
theorem ox_nT : ∀ j, j < 7 → ∀ a, a < ox_fn j → ∀ b, b < ox_fn j → a ≠ b → (ox_T j a).2.1 ≠ (ox_T j b).2.1 := by
  intro j hj
  match j, hj with
  | 0, _ => exact ox_n0
  | 1, _ => exact ox_n1
  | 2, _ => exact ox_n2
  | 3, _ => exact ox_n3
  | 4, _ => exact ox_n4
  | 5, _ => exact ox_n5
  | 6, _ => exact ox_n6
  | k + 7, h => exact absurd h (by omega)
theorem ox_clT : ∀ j, j < 7 → ox_cl[j]? = some (ox_R j, ox_T j, ox_fn j) := by
  intro j hj
  match j, hj with
  | 0, _ => rfl
  | 1, _ => rfl
  | 2, _ => rfl
  | 3, _ => rfl
  | 4, _ => rfl
  | 5, _ => rfl
  | 6, _ => rfl
  | k + 7, h => exact absurd h (by omega)
theorem ox_fI : ∀ j, j < 7 → ∀ k, k < ox_fn j → ox_rf j k = false → parseFieldDescriptor (ox_T j k).2.2.1 = some .int ∧ (ox_T j k).2.2.2 = false := by decide +kernel
theorem ox_nL {o : Nat} (ho : o < 174) (L : Nat) : ox_n L o = ox_n 0 o := by
  have h : Nat.blt o 174 = true := Nat.ble_eq_true_of_le ho
  simp only [ox_n, h, cond_true]
section OX1
variable {p : Program} {l : Launch} {e : Env} {R : Room} {s : State} {m : MethodId} {args : Array Value} {below : List Frame} {meth : Method} {c : Code} {H : Heap} {locs : List Loc} {cells slots : Nat} {Q : State → Prop}
variable {mi : Nat} {D : va_G} {ad : Nat → Nat} {cy : Nat → ClassId} {L : Nat} {xs : Nat → Int32} {pc pc' : Nat} {ls ls' : List (Option Value)} {st st' : List Value} {σ σ' : ox_S} {lsr : Array Slot} {en : Instr × Nat × Nat × Nat}
/-- int[][]: a row -/
theorem ox_aald {cc : ByteArray} (hexec : p.tables.exec = Jvm.exec) (hb : c.code = cc) {cl : List vw_C} {tys : List (ClassId × FieldType)} {ws : va_W} (hK : va_K D cl tys s) (hP : va_P D cl ws H) (q0 t0 : Nat) {cA : ClassId} {n a : Nat} {f : Nat → Option Nat} {ls : Array Slot} {rest : List Value} (ha : ws[q0]? = some (a, .inl (cA, n, .inr (.inr (.inr (.inr f)))))) (ht : tys[t0]? = some (cA, .array .int)) {i : Int32} (hin : vp_in i n) (hdg : decode cc pc = .ok (.aaload, 1))
    (kk : W p l e R s m args below meth c H locs cells slots Q (F0 m (pc + 1) ls (va_rf (f i.toNatClampNeg) :: rest))) : W p l e R s m args below meth c H locs cells slots Q (F0 m pc ls (.int i :: .ref a :: rest)) := by
  have hlt : i.toNatClampNeg < n := Nat.not_le.mp fun q => hin (Or.inr q)
  exact W.aald (v := va_rf (f i.toNatClampNeg)) (ty := .array .int) hexec hb (hP q0 _ ha) ((hK.2 t0 _ ht).1 n (fun j => va_rf (f j))) rfl (fun q => by cases q) (by show ¬ (i < 0 ∨ (arrV _ _ _).slots.size ≤ _); rw [arrV_size]; exact hin) (by show (arrV _ _ _).slots[_]? = _; rw [arrV_read _ _ hlt]) rfl rfl hdg kk
/-- what is behind a simple instruction -/
def ox_K (p : Program) (l : Launch) (e : Env) (R : Room) (s : State) (m : MethodId) (args : Array Value) (below : List Frame) (meth : Method) (c : Code) (cells slots : Nat) (Q : State → Prop) (mi : Nat) (D : va_G) (ad : Nat → Nat) (cy : Nat → ClassId) (xs : Nat → Int32) (q : ox_P) : Prop :=
  ∀ (H : Heap) (locs : List Loc) (lsr : Array Slot), va_P D ox_cl (ox_ws ad cy q.2.2.2) H → va_S (ox_A ad s.heap.size) s.heap H locs → ox_L ad lsr (ox_mL mi) q.2.1 → q.2.2.2 174 = xs →
    W p l e R s m args below meth c H locs cells slots Q (F0 m q.1 lsr (q.2.2.1.map (ox_cv ad)))
theorem ox_1i {st : List Value} {f : Int32 → List Value → Option ox_P} {q : ox_P} (h : ox_1 st f = some q) : ∃ x r, st = .int x :: r ∧ f x r = some q := by
  unfold ox_1 at h
  split at h
  · exact ⟨_, _, rfl, h⟩
  · cases h
theorem ox_2i {st : List Value} {f : Int32 → Int32 → List Value → Option ox_P} {q : ox_P} (h : ox_2 st f = some q) : ∃ x y r, st = .int y :: .int x :: r ∧ f x y r = some q := by
  unfold ox_2 at h
  split at h
  · exact ⟨_, _, _, rfl, h⟩
  · cases h
theorem ox_ai {st : List Value} {f : Nat → Int32 → List Value → Option ox_P} {q : ox_P} (h : ox_a st f = some q) : ∃ o i r, st = .int i :: .ref o :: r ∧ f o i r = some q := by
  unfold ox_a at h
  split at h
  · exact ⟨_, _, _, rfl, h⟩
  · cases h
theorem ox_a3i {st : List Value} {f : Nat → Int32 → Int32 → List Value → Option ox_P} {q : ox_P} (h : ox_a3 st f = some q) : ∃ o i x r, st = .int x :: .int i :: .ref o :: r ∧ f o i x r = some q := by
  unfold ox_a3 at h
  split at h
  · exact ⟨_, _, _, _, rfl, h⟩
  · cases h
theorem ox_stoi {v : Value} {i : Nat} {q : ox_P} (h : ox_sto ls i v pc st σ = some q) : i < ls.length ∧ ox_nl ls i = true ∧ q = (pc, ls.set i (some v), st, σ) := by
  unfold ox_sto at h
  cases hc : (Nat.blt i ls.length && ox_nl ls i) with
  | false => rw [hc] at h; cases h
  | true =>
    rw [hc] at h
    cases h
    rw [Bool.and_eq_true] at hc
    exact ⟨Nat.le_of_ble_eq_true hc.1, hc.2, rfl⟩
theorem ox_sto2i {v : Value} {i : Nat} {q : ox_P} (h : ox_sto2 ls i v pc st σ = some q) : i + 1 < ls.length ∧ ox_nl ls i = true ∧ q = (pc, (ls.set i (some v)).set (i + 1) none, st, σ) := by
  unfold ox_sto2 at h
  cases hc : (Nat.blt (i + 1) ls.length && ox_nl ls i) with
  | false => rw [hc] at h; cases h
  | true =>
    rw [hc] at h
    cases h
    rw [Bool.and_eq_true] at hc
    exact ⟨Nat.le_of_ble_eq_true hc.1, hc.2, rfl⟩
theorem ox_ldIi {i : Nat} {q : ox_P} (h : ox_lI ls i pc st σ = some q) : ∃ x, ls.getD i none = some (.int x) ∧ q = (pc, ls, .int x :: st, σ) := by
  unfold ox_lI at h
  split at h
  · rename_i x hx
    exact ⟨x, hx, (Option.some.inj h).symm⟩
  · cases h
theorem ox_ldAi {i : Nat} {q : ox_P} (h : ox_lA ls i pc st σ = some q) : ∃ x, ls.getD i none = some (.ref x) ∧ q = (pc, ls, .ref x :: st, σ) := by
  unfold ox_lA at h
  split at h
  · rename_i x hx
    exact ⟨x, hx, (Option.some.inj h).symm⟩
  · cases h
theorem ox_ldLi {i : Nat} {q : ox_P} (h : ox_lL ls i pc st σ = some q) : ∃ x, ls.getD i none = some (.long x) ∧ q = (pc, ls, .long x :: st, σ) := by
  unfold ox_lL at h
  split at h
  · rename_i x hx
    exact ⟨x, hx, (Option.some.inj h).symm⟩
  · cases h
theorem ox_L.store2 {ls' : Array Slot} {n i : Nat} {v : Value} (h : ox_L ad lsr n ls) (hi : i + 1 < n) (hnl : ox_nl ls i = true)
    (h' : lv_has ls' n ((i, ox_cv ad v) :: (ox_lv ad ls).filter (fun q => !(q.1 == i) && (!(q.1 == i + 1) && !(q.1 + 1 == i && q.2.category == 2))))) : ox_L ad ls' n ((ls.set i (some v)).set (i + 1) none) := by
  refine ⟨by rw [List.length_set, List.length_set]; exact h.1, h'.1, h'.2.1, fun j u hu => ?_⟩
  rw [ox_getD_set, List.length_set] at hu
  by_cases hj1 : i + 1 = j ∧ j < ls.length
  · rw [if_pos hj1] at hu; cases hu
  rw [if_neg hj1, ox_getD_set] at hu
  by_cases hj : i = j ∧ j < ls.length
  · rw [if_pos hj] at hu
    cases hu
    rw [← hj.1]
    exact h'.2.2 _ (List.mem_cons_self ..)
  · rw [if_neg hj] at hu
    have hij : j ≠ i := fun q => hj ⟨q.symm, by rw [h.1, q]; omega⟩
    have hij1 : j ≠ i + 1 := fun q => hj1 ⟨q.symm, by rw [h.1, q]; exact hi⟩
    refine h'.2.2 (j, ox_cv ad u) (List.mem_cons_of_mem _ (List.mem_filter.mpr ⟨ox_lv_mem.mpr ⟨u, hu, rfl⟩, ?_⟩))
    have hc : ¬ (j + 1 = i ∧ u.category = 2) := fun q => ox_nl_spec hnl q.1 hu q.2
    simp only [ox_cv_cat, Bool.and_eq_true, Bool.not_eq_true', beq_eq_false_iff_ne, ne_eq, Bool.and_eq_false_iff]
    refine ⟨hij, hij1, ?_⟩
    by_cases h1 : j + 1 = i
    · exact Or.inr (fun q => hc ⟨h1, q⟩)
    · exact Or.inl h1
end OX1
theorem ox_k14 {o : Nat} (h : ox_k o = 14) : o = 174 ∧ ∀ {L : Nat}, ox_n L o = L := by
  have h1 : ¬ o < 174 := by
    intro q
    have : ∀ o, o < 174 → ox_k o ≠ 14 := by decide +kernel
    exact this o q h
  have h2 : o = 174 := by
    rcases Nat.lt_or_ge 174 o with q | q
    · exfalso
      have e : ox_k o = 99 := by
        have hb : Nat.beq o 174 = false := by
          cases e : Nat.beq o 174 with
          | false => rfl
          | true => exact absurd (Nat.eq_of_beq_eq_true e) (by omega)
        simp only [ox_k, ox_blt (show 174 ≤ o by omega), hb, cond_false]
      rw [e] at h
      cases h
    · omega
  subst h2
  exact ⟨rfl, fun {L} => rfl⟩
theorem ox_notA {ad : Nat → Nat} {n : Nat} (hap : ox_ap ad) (h : ad 174 < n) : ¬ ox_A ad n (ad 174) := by
  rintro (⟨o, ho, e⟩ | q)
  · exact hap.2 o ho e.symm
  · omega
theorem ox_updL {f : Nat → Int32} {k : Nat} {x : Int64} (h : x.toInt32.toInt64 = x) : (fun i => (upd f k x.toInt32 i).toInt64) = vp_updL (fun i => (f i).toInt64) k x := by
  funext j
  simp only [upd, vp_updL]
  by_cases hj : j = k
  · rw [if_pos hj, if_pos hj, h]
  · rw [if_neg hj, if_neg hj]
