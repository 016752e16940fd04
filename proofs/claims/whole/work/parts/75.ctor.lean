/-- new int[][] may be made in this state -/
def oc_AO (U : State) : Prop := (Cond.arrayOver (.array .int)).before #[] U = true
theorem oc_AO.moved {u U : State} (hvm : u.vm.Alike U.vm) (h : oc_AO u) : oc_AO U := by
  obtain ⟨comp, c, k, h1, h2, h3, h4, h5⟩ := arrayOverA_spec h
  obtain ⟨k', hk', he⟩ := hvm.2.2 _ _ h3
  have hb : (U.vm.classes.findIdx? fun (x : Class) => match x.kind with | .array component _ => component == comp | _ => false) = some c := by
    have e1 := va_idx_bare U.vm comp
    rw [hvm.bare_eq] at e1
    exact e1.symm.trans ((va_idx_bare u.vm comp).trans h2)
  have f0 : k'.kind = .array comp (.array .int) := by rw [he]; exact h4
  have f1 : U.vm.findClass (FieldType.array .int).toString = some comp := by rw [hvm.findClass]; exact h1
  have f2 : U.vm.findClass ("[" ++ (FieldType.array .int).toString) = some c := by rw [hvm.findClass]; exact h5
  unfold oc_AO Cond.before Cond.holds
  simp only [Cond.value, f1, Option.bind_some]
  refine (congrArg (fun o : Option Nat => (o.bind (fun c => (U.vm.classes[c]?).map fun (k : Class) => match k.kind with | .array _ ty => decide (ty = FieldType.array .int) && decide (U.vm.findClass ("[" ++ (FieldType.array .int).toString) = some c) | _ => false) == some true)) hb).trans ?_
  simp [hk', f0, f2]
/-- what the walk of a constructor carries: the world, apart, what is old unchanged, the heap's size -/
def oc_I (D : va_G) (A : Nat → Prop) (ws : va_W) (H0 H : Heap) (locs : List Loc) (z : Nat) : Prop := va_P D ox_cl ws H ∧ va_D A ws ∧ va_S A H0 H locs ∧ H.size = z ∧ ∀ q, H0.size ≤ q → A q
theorem oc_outer (c : ClassId) (N h0 : Nat) : ∀ i : Nat, Jvm.Free.Multi.outerC c N h0 i = arrV c N (fun j => va_rf (if j < i then some (h0 + 1 + j) else none))
  | 0 => by
    show ({ cls := c, slots := Array.replicate N .null, vm := .none } : Cell) = _
    rw [arrV_new]
    exact congrArg (arrV c N) (funext fun j => by simp [va_rf])
  | i + 1 => by
    show (Jvm.Free.Multi.outerC c N h0 i).setSlot i (.ref (h0 + 1 + i)) = _
    rw [oc_outer c N h0 i, arrV_store]
    refine congrArg (arrV c N) (funext fun j => ?_)
    rcases Nat.lt_trichotomy j i with h | h | h
    · simp [updV, Nat.ne_of_lt h, h, Nat.lt_succ_of_lt h]
    · subst h; simp [updV, va_rf]
    · simp [updV, show j ≠ i by omega, show ¬ j < i by omega, show ¬ j < i + 1 by omega]
theorem oc_arrV {c : ClassId} {N : Nat} {f g : Nat → Value} (h : ∀ j, j < N → f j = g j) : arrV c N f = arrV c N g := by
  unfold arrV
  congr 1
  exact congrArg Array.ofFn (funext fun j => h j.val j.isLt)
section OC
variable {p : Program} {l : Launch} {e : Env} {R : Room} {s : State} {m : MethodId} {args : Array Value} {below : List Frame} {meth : Method} {c : Code} {H H0 : Heap} {locs : List Loc} {cells slots : Nat} {Q : State → Prop}
variable {cc : ByteArray} {pc : Nat} {ls : Array Slot} {rest : List Value} {D : va_G} {A : Nat → Prop} {cy : Nat → ClassId} {ws : va_W} {z : Nat}
/-- new T[n], T a primitive -/
theorem oc_na (hx : p.tables.exec = Jvm.exec) (hb : c.code = cc) {atype : ArrayType} {ty : FieldType} (hty : newarray.typeOf atype = ty) (harr : (Cond.arrayClass ty).before args s = true) (hK : va_K D ox_cl (ox_tys cy) s) (t0 : Nat) {cyt : ClassId} (ht : (ox_tys cy)[t0]? = some (cyt, ty)) (I : oc_I D A ws H0 H locs z) {n : Int32} {N' : Nat} {a0 : vp_A} (ha : ∀ cA : ClassId, vp_cell cA a0 = arrV cA N' (fun _ => defaultValue ty)) (hn : ¬ n < 0) (hN : n.toNatClampNeg = N') (hbytes : N' * componentBytes ty ≤ 536870912) (hcells : cells + 1 ≤ R.cells) (hslots : slots + N' ≤ R.slots) {q : Nat} (hq : q = z) (hdg : decode cc pc = .ok (.newarray atype, 2))
    (kk : ∀ H1 : Heap, oc_I D A (ws ++ [(q, .inl (cyt, a0))]) H0 H1 locs (z + 1) → W p l e R s m args below meth c H1 locs (cells + 1) (slots + N') Q (F0 m (pc + 2) ls (.ref q :: rest))) : W p l e R s m args below meth c H locs cells slots Q (F0 m pc ls (.int n :: rest)) := by
  obtain ⟨hP, hD, hS, hz, hA⟩ := I
  subst hty
  subst hq
  refine va_newaK hx hb harr rfl hdg rfl hn hN hbytes hcells hslots hz fun H1 cA e1 z1 o1 hAr hNm => ?_
  have hc : cA = cyt := by
    have h1 := (hK.2 t0 _ ht).2
    have h2 : s.vm.findClass ("[" ++ (newarray.typeOf atype).toString) = some cyt := by cases atype <;> exact h1
    exact Option.some.inj (hNm.symm.trans h2)
  subst hc
  have hk : ∀ (k : Nat) (x : Nat × va_E), ws[k]? = some x → H1[x.1]? = H[x.1]? := fun k x hx => o1 x.1 (by have := (hP k x hx).lt; rw [hz] at this; exact this)
  refine kk H1 ⟨(hP.kept hk).app (fun k x hx => ?_), hD.push hP hz.symm (hA _ (by rw [← hz]; exact hS.1)), ⟨Nat.le_trans hS.1 (by omega), fun x h1 h2 => (o1 x (by rw [← hz]; exact Nat.lt_of_lt_of_le h1 hS.1)).trans (hS.2.1 x h1 h2), hS.2.2⟩, z1, hA⟩
  have h0 : k < 1 := (List.getElem?_eq_some_iff.mp hx).1
  rw [show k = 0 by omega] at hx
  cases hx
  show H1[q]? = some (vp_cell _ _)
  rw [ha]
  exact e1
/-- new int[n][k] -/
theorem oc_mn (hx : p.tables.exec = Jvm.exec) (hb : c.code = cc) {own : String} {index : Nat} (hown : s.vm.findClass own = some m.cls) (hclink : (Cond.classLink own index "[[I").before args s = true) (hover : oc_AO s) (harr : (Cond.arrayClass .int).before args s = true) (hK : va_K D ox_cl (ox_tys cy) s) (I : oc_I D A ws H0 H locs z) {n k : Int32} {N' K' : Nat} (hn : ¬ n < 0) (hk : ¬ k < 0) (hN : n.toNatClampNeg = N') (hM : k.toNatClampNeg = K')
    (hb1 : N' * 4 ≤ 536870912) (hb2 : K' * 4 ≤ 536870912) (hcells : cells + (1 + N') ≤ R.cells) (hslots : slots + (N' + N' * K') ≤ R.slots) {q : Nat} (hq : q = z) {f r : Nat → Nat} (hf : ∀ i, i < N' → f i = z + 1 + i) (hr : ∀ i, i < N' → r i = z + 1 + i) {E : Nat → va_E} (hE : ∀ i, i < N' → E i = .inl (cy 0, K', .inl (fun _ => 0))) (hdg : decode cc pc = .ok (.multianewarray index 2, 4))
    (kk : ∀ H1 : Heap, oc_I D A ((ws ++ [(q, .inl (cy 2, N', .inr (.inr (.inr (.inr (fun i => some (f i)))))))]) ++ (List.range N').map (fun i => (r i, E i))) H0 H1 locs (z + 1 + N') → W p l e R s m args below meth c H1 locs (cells + 1 + N') (slots + N' + N' * K') Q (F0 m (pc + 4) ls (.ref q :: rest))) : W p l e R s m args below meth c H locs cells slots Q (F0 m pc ls (.int k :: .int n :: rest)) := by
  obtain ⟨hP, hD, hS, hz, hA⟩ := I
  subst hN; subst hM; subst hq; subst hz
  intro T hT Xs
  obtain ⟨vm₁, cA, comp, -, fA, fC, -, -, X', step⟩ := Xs.multianewarray2F (ty := .int) hx hown hclink hover harr (g := F0 m pc ls (.int k :: .int n :: rest)) rfl (by rw [hb]; exact hdg) rfl hn hk hb1 hb2 (by omega) rfl rfl hcells hslots
  have e0 : comp = cy 0 := Option.some.inj (fC.symm.trans (hK.2 0 _ rfl).2)
  have e2 : cA = cy 2 := Option.some.inj (fA.symm.trans (hK.2 2 _ rfl).2)
  subst e0; subst e2
  generalize hF : Jvm.Free.Multi.fill (T.setVm vm₁) (cy 2) (cy 0) n.toNatClampNeg k.toNatClampNeg (defaultValue .int) n.toNatClampNeg = F at X' step
  have hTh : (T.setVm vm₁).heap = H := hT
  obtain ⟨f1, f2, -, -⟩ := Jvm.Free.Multi.fill_facts (T.setVm vm₁) (cy 2) (cy 0) n.toNatClampNeg k.toNatClampNeg (defaultValue .int) n.toNatClampNeg
  rw [hF, hTh] at f1 f2
  have hold : ∀ x : Nat, x < H.size → F.heap[x]? = H[x]? := fun x hx => by
    have := Jvm.Free.Multi.fill_old (T.setVm vm₁) (cy 2) (cy 0) n.toNatClampNeg k.toNatClampNeg (defaultValue .int) (a := x) (by rw [hTh]; exact hx) n.toNatClampNeg
    rw [hF, hTh] at this
    exact this
  have hrow : ∀ j : Nat, j < n.toNatClampNeg → F.heap[H.size + 1 + j]? = some (vp_cell (cy 0) (k.toNatClampNeg, .inl (fun _ => 0))) := fun j hj => by
    have := Jvm.Free.Multi.fill_inner (T.setVm vm₁) (cy 2) (cy 0) n.toNatClampNeg k.toNatClampNeg (defaultValue .int) n.toNatClampNeg j hj
    rw [hF, hTh] at this
    rw [this]
    exact congrArg some (arrV_new _ _ _)
  have hout : F.heap[H.size]? = some (vp_cell (cy 2) (n.toNatClampNeg, .inr (.inr (.inr (.inr (fun i => some (f i))))))) := by
    rw [f2, oc_outer, vp_cell_q]
    refine congrArg some (oc_arrV fun j hj => ?_)
    rw [if_pos hj, hf j hj]
  have hP0 : va_P D ox_cl ws F.heap := hP.kept (fun k9 x hx => hold x.1 ((hP k9 x hx).lt))
  have hP1 : va_P D ox_cl (ws ++ [(H.size, .inl (cy 2, n.toNatClampNeg, .inr (.inr (.inr (.inr (fun i => some (f i)))))))]) F.heap := hP0.app (fun k9 x hx => by
    have h0 : k9 < 1 := (List.getElem?_eq_some_iff.mp hx).1
    rw [show k9 = 0 by omega] at hx
    cases hx
    exact hout)
  have hD1 : va_D A (ws ++ [(H.size, .inl (cy 2, n.toNatClampNeg, .inr (.inr (.inr (.inr (fun i => some (f i)))))))]) := hD.push hP rfl (hA _ hS.1)
  have hlt : ∀ (k9 : Nat) (x : Nat × va_E), (ws ++ [((H.size, .inl (cy 2, n.toNatClampNeg, .inr (.inr (.inr (.inr (fun i => some (f i))))))) : Nat × va_E)])[k9]? = some x → x.1 ≤ H.size := fun k9 x hx => by
    rcases List.mem_append.mp (List.mem_of_getElem? hx) with h | h
    · obtain ⟨i, hi⟩ := List.getElem?_of_mem h
      exact Nat.le_of_lt (hP i x hi).lt
    · cases List.mem_singleton.mp h
      exact Nat.le_refl _
  have hri : ∀ (k9 : Nat) (x : Nat × va_E), ((List.range n.toNatClampNeg).map (fun i => (r i, E i)))[k9]? = some x → k9 < n.toNatClampNeg ∧ x = (H.size + 1 + k9, .inl (cy 0, k.toNatClampNeg, .inl (fun _ => 0))) := fun k9 x hx => by
    have h0 : k9 < n.toNatClampNeg := by have := (List.getElem?_eq_some_iff.mp hx).1; simpa using this
    rw [List.getElem?_map, List.getElem?_range h0] at hx
    cases hx
    exact ⟨h0, by show (r k9, E k9) = _; rw [hr k9 h0, hE k9 h0]⟩
  refine (fun (K : W p l e R s m args below meth c F.heap locs _ _ Q _) => ?_) (kk F.heap ⟨hP1.app (fun k9 x hx => ?_), va_D.app hD1 ⟨fun i j x y hi hj exy => ?_, fun k9 x hx => ?_⟩ (fun i j x y hi hj exy => ?_), ⟨Nat.le_trans hS.1 (by rw [f1]; omega), fun x h1 h2 => (hold x (Nat.lt_of_lt_of_le h1 hS.1)).trans (hS.2.1 x h1 h2), hS.2.2⟩, by rw [f1], hA⟩)
  · obtain ⟨t, a1, b1⟩ := K F rfl X'
    have a1 : Steps p.tables e below (F.setTop (F0 m (pc + 4) ls (.ref T.heap.size :: rest))) t := by rw [show T.heap.size = H.size from by rw [hT]]; exact a1
    exact ⟨t, step t a1, b1⟩
  · obtain ⟨h0, rfl⟩ := hri k9 x hx
    exact hrow k9 h0
  · obtain ⟨-, rfl⟩ := hri i x hi
    obtain ⟨-, rfl⟩ := hri j y hj
    simp only at exy
    omega
  · obtain ⟨-, rfl⟩ := hri k9 x hx
    exact hA _ (by have := hS.1; simp only; omega)
  · have h1 := hlt i x hi
    obtain ⟨-, rfl⟩ := hri j y hj
    simp only at exy
    omega
end OC
section OC2
variable {p : Program} {l : Launch} {e : Env} {R : Room} {s : State} {m : MethodId} {args : Array Value} {below : List Frame} {meth : Method} {c : Code} {H H0 : Heap} {locs : List Loc} {cells slots : Nat} {Q : State → Prop}
variable {cc : ByteArray} {pc : Nat} {ls : Array Slot} {rest : List Value} {D : va_G} {A : Nat → Prop} {cy : Nat → ClassId} {ws : va_W} {z : Nat}
/-- a final field in its constructor -/
theorem oc_pf (hx : p.tables.exec = Jvm.exec) (hb : c.code = cc) {j : Nat} (hj : j < 7) (hts : ∀ w ∈ ox_gw, w.before args s = true) (hown : s.vm.findClass (ox_R j) = some m.cls) (hK : va_K D ox_cl (ox_tys cy) s) {a : Nat} {fs : List Value} {wr : va_W} (I : oc_I D A ((a, .inr (j, fs)) :: wr) H0 H locs z) (k : Nat) (hk : k < ox_fn j) {index : Nat} (hlink : (Cond.fieldLink (ox_R j) index (ox_T j k).1 (ox_T j k).2.1 (ox_T j k).2.2.1).before args s = true) (hfin : (ox_T j k).2.2.2 = true) (hin2 : meth.name = "<init>") (hdecl : (ox_T j k).1 = ox_R j) {ty : FieldType} {v : Value} (hd : parseFieldDescriptor (ox_T j k).2.2.1 = some ty) (hn : narrow ty v = v) (hfit : fits ty v = true) (hl : k < fs.length) (hdg : decode cc pc = .ok (.putfield index, 3))
    (kk : ∀ (H1 : Heap) (locs1 : List Loc), oc_I D A ((a, .inr (j, fs.set k v)) :: wr) H0 H1 locs1 z → W p l e R s m args below meth c H1 locs1 cells slots Q (F0 m (pc + 3) ls rest)) : W p l e R s m args below meth c H locs cells slots Q (F0 m pc ls (v :: .ref a :: rest)) := by
  obtain ⟨hP, hD, hS0, hz, hA⟩ := I
  have hin := ox_inT j hj
  have hc := ox_clT j hj
  have hap := va_apart (own := ox_R j) hts hin (ox_y j) (ox_yT j hj) (ox_nT j hj) hK hc
  obtain ⟨r, h1, cell, q1, q2, q3, q4⟩ := hP 0 _ rfl
  have hr : r = (ox_R j, ox_T j, ox_fn j) := Option.some.inj (h1.symm.trans hc)
  subst hr
  obtain ⟨hS, hfc, kC, hkC, hkind⟩ := hK.1 j _ hc
  obtain ⟨cf, kf, fi, f, hi, hsl⟩ := hS k hk
  have hlay := hts _ (hin _ (u_in_lay hk))
  unfold u_lay at hlay
  rw [if_pos hfin] at hlay
  have hst := (u_facts hfc hkC (u_lays hts hin hk) hi).1
  have hcf : m.cls = cf := by
    obtain ⟨_, _, c', _, _, _, -, -, hf', -, -, -, hown2, -⟩ := Cond.laysFinal_spec hlay
    have e1 : c' = cf := by have := hi.symm.trans hf'; simp at this; exact this.1.symm
    rw [hdecl] at hown2
    rw [← e1]; exact Option.some.inj (hown.symm.trans hown2)
  have h6 := u_fits hfc hkC hkind (Or.inr hlay) hi hd hn hfit
  refine W.putFinK hx hb hown hlink hi hst hcf hin2 (by rw [q2]; exact h6) q1 q3 (by rw [hsl]; exact k2_hasslot (q4 k hk)) rfl rfl hdg fun H' e1 e2 e3 => ?_
  rw [hsl] at e1 ⊢
  exact kk H' _ ⟨hP.set hD (p := 0) rfl ⟨_, hc, t_OB.to (V := updV (vp_V fs) k v) ⟨_, e1, q2, q3, t_set q4 hap hk v⟩ (fun j _ => vp_updV_set hl v j)⟩ e3, hD.set (p := 0) rfl, hS0.put e2 e3 (hD.2 0 _ rfl), e2.trans hz, hA⟩
/-- a field that isn't final -/
theorem oc_pi (hx : p.tables.exec = Jvm.exec) (hb : c.code = cc) {j : Nat} (hj : j < 7) (hts : ∀ w ∈ ox_gw, w.before args s = true) (hown : s.vm.findClass (ox_R j) = some m.cls) (hK : va_K D ox_cl (ox_tys cy) s) {a : Nat} {fs : List Value} {wr : va_W} (I : oc_I D A ((a, .inr (j, fs)) :: wr) H0 H locs z) (k : Nat) (hk : k < ox_fn j) {index : Nat} (hlink : (Cond.fieldLink (ox_R j) index (ox_T j k).1 (ox_T j k).2.1 (ox_T j k).2.2.1).before args s = true) (hfin : (ox_T j k).2.2.2 = false) {ty : FieldType} {v : Value} (hd : parseFieldDescriptor (ox_T j k).2.2.1 = some ty) (hn : narrow ty v = v) (hfit : fits ty v = true) (hl : k < fs.length) (hdg : decode cc pc = .ok (.putfield index, 3))
    (kk : ∀ (H1 : Heap) (locs1 : List Loc), oc_I D A ((a, .inr (j, fs.set k v)) :: wr) H0 H1 locs1 z → W p l e R s m args below meth c H1 locs1 cells slots Q (F0 m (pc + 3) ls rest)) : W p l e R s m args below meth c H locs cells slots Q (F0 m pc ls (v :: .ref a :: rest)) := by
  obtain ⟨hP, hD, hS0, hz, hA⟩ := I
  have hin := ox_inT j hj
  have hc := ox_clT j hj
  have hap := va_apart (own := ox_R j) hts hin (ox_y j) (ox_yT j hj) (ox_nT j hj) hK hc
  obtain ⟨r, h1, cell, q1, q2, q3, q4⟩ := hP 0 _ rfl
  have hr : r = (ox_R j, ox_T j, ox_fn j) := Option.some.inj (h1.symm.trans hc)
  subst hr
  obtain ⟨hS, hfc, kC, hkC, hkind⟩ := hK.1 j _ hc
  obtain ⟨cf, kf, fi, f, hi, hsl⟩ := hS k hk
  have hlay := hts _ (hin _ (u_in_lay hk))
  unfold u_lay at hlay
  rw [if_neg (by rw [hfin]; decide)] at hlay
  have hst := (u_facts hfc hkC (u_lays hts hin hk) hi).1
  have h6 := u_store hfc hkC hkind hlay hi hd hn hfit
  refine W.putK hx hb (f := f) ⟨hown, hlink, ⟨_, _, _, hi⟩, hst⟩ (by rw [q2]; exact h6) q1 q3 (by rw [hsl]; exact k2_hasslot (q4 k hk)) rfl rfl hdg fun H' e1 e2 e3 => ?_
  rw [hsl] at e1 ⊢
  exact kk H' _ ⟨hP.set hD (p := 0) rfl ⟨_, hc, t_OB.to (V := updV (vp_V fs) k v) ⟨_, e1, q2, q3, t_set q4 hap hk v⟩ (fun j _ => vp_updV_set hl v j)⟩ e3, hD.set (p := 0) rfl, hS0.put e2 e3 (hD.2 0 _ rfl), e2.trans hz, hA⟩
/-- a new object of class j -/
theorem oc_nw (hx : p.tables.exec = Jvm.exec) (hb : c.code = cc) {j : Nat} (hj : j < 7) (hts : ∀ w ∈ ox_gw, w.before args s = true) {own : String} {index : Nat} (hown : s.vm.findClass own = some m.cls) (hcl : (Cond.classLink own index (ox_R j)).before args s = true) (hinst : (Cond.instantiable (ox_R j) (ox_fn j)).before args s = true) (hini : (Cond.initialized (ox_R j)).before args s = true) (hK : va_K D ox_cl (ox_tys cy) s) (I : oc_I D A ws H0 H locs z) {fs : List Value} (hfs : ∀ i, i < ox_fn j → defaultValue (ox_y j i) = vp_V fs i) (hcells : cells + 1 ≤ R.cells) (hslots : slots + ox_fn j ≤ R.slots) {q : Nat} (hq : q = z) (hdg : decode cc pc = .ok (.new index, 3))
    (kk : ∀ H1 : Heap, oc_I D A (ws ++ [(q, .inr (j, fs))]) H0 H1 locs (z + 1) → W p l e R s m args below meth c H1 locs (cells + 1) (slots + ox_fn j) Q (F0 m (pc + 3) ls (.ref q :: rest))) : W p l e R s m args below meth c H locs cells slots Q (F0 m pc ls rest) := by
  obtain ⟨hP, hD, hS, hz, hA⟩ := I
  subst hq
  have hc := ox_clT j hj
  have hKn := hK.1 j _ hc
  refine W.newcK hx hb hown hcl hinst hini rfl hdg hcells hslots hKn.2.1 hz fun H1 kC hkC e1 z1 o1 => ?_
  have hk : ∀ (k : Nat) (x : Nat × va_E), ws[k]? = some x → H1[x.1]? = H[x.1]? := fun k x hx => o1 x.1 (by have := (hP k x hx).lt; rw [hz] at this; exact this)
  refine kk H1 ⟨(hP.kept hk).app (fun k x hx => ?_), hD.push hP hz.symm (hA _ (by rw [← hz]; exact hS.1)), ⟨Nat.le_trans hS.1 (by omega), fun x h1 h2 => (o1 x (by rw [← hz]; exact Nat.lt_of_lt_of_le h1 hS.1)).trans (hS.2.1 x h1 h2), hS.2.2⟩, z1, hA⟩
  have h0 : k < 1 := (List.getElem?_eq_some_iff.mp hx).1
  rw [show k = 0 by omega] at hx
  cases hx
  exact ⟨_, hc, (u_born (ox_y j) hts (ox_inT j hj) hKn hkC e1 (ox_yT j hj)).to hfs⟩
/-- a constructor's start and end: object q of class j, its fields fs at first; the heap's size z at first and z1 at the end; what it leaves is w1 -/
def oc_Pc (D : va_G) (cy : Nat → ClassId) (q j : Nat) (fs : List Value) (z : Nat) : Array Value → State → Prop := va_Pc [.ref q] (fun U => U.heap.size = z ∧ va_P D ox_cl [(q, .inr (j, fs))] U.heap ∧ va_K D ox_cl (ox_tys cy) U ∧ oc_AO U)
def oc_Qc (D : va_G) (q j : Nat) (fs : List Value) (z z1 : Nat) (w1 : va_W) : Array Value → State → Outcome → State → Prop := va_Qv (fun _ : Unit => True) (fun _ t => t.heap.size = z1 ∧ va_P D ox_cl w1 t.heap ∧ va_D (va_A [(q, .inr (j, fs))] z) w1) (va_A [(q, .inr (j, fs))] z)
def oc_ok (l : Launch) (y : MethodName) (b : ByteArray) (rm : Room) (D : va_G) (cy : Nat → ClassId) (q j : Nat) (fs : List Value) (z z1 : Nat) (w1 : va_W) (mc ms : Nat) : Prop :=
  Met l y (.code y b 1 none :: ox_gw) rm (oc_Pc D cy q j fs z) (oc_Qc D q j fs z z1 w1) mc ms (va_A [(q, .inr (j, fs))] z)
theorem oc_gin {Ts : List Cond} {w : Cond} (h : ∀ w ∈ ox_gw, w ∈ Ts) (hw : w ∈ ox_gw) : GoodIn Ts (w :: ox_gw) := fun v hv => by
  rcases List.mem_cons.mp hv with rfl | hv
  · exact ⟨h _ hw, ox_good hw⟩
  · exact ⟨h _ hv, ox_good hv⟩
/-- a call of a constructor -/
theorem oc_ci {Ts : List Cond} {nL index : Nat} {own : String} (S : CallFix p m c cc nL s args Ts own) (hin : ∀ w ∈ ox_gw, w ∈ Ts) {y : MethodName} {b : ByteArray} {rm : Room} {q j : Nat} {fs : List Value} {z1 : Nat} {w1 : va_W} {mc ms : Nat} (hM : oc_ok l y b rm D cy q j fs z z1 w1 mc ms) (hcode : Cond.code y b 1 none ∈ ox_gw) (hrc : rm.cells = mc) (hrs : rm.slots = ms) (hini : Cond.initialized y.cls ∈ ox_gw) (hl : (Cond.methodLink own index y).before args s = true) (hinst : Cond.instanceMethod y ∈ ox_gw) (hy1 : y.name = "<init>")
    (hd : y.cls ≠ "java/lang/invoke/MethodHandle" ∧ y.cls ≠ "java/lang/invoke/VarHandle" ∧ (parseMethodDescriptor y.desc).map (fun d => d.parameters.length) = some 0) (hR : rm.frames + 1 ≤ R.frames ∧ 8 + (1 + 11) + rm.locals ≤ R.locals) (hK : va_K D ox_cl (ox_tys cy) s) (hAO : oc_AO s) (I : oc_I D A (ws ++ [(q, .inr (j, fs))]) H0 H locs z) (hsize : ls.size = nL) (hW : (rest.map fun v => v.category).sum ≤ 8) (hdg : decode cc pc = .ok (.invokespecial index, 3)) (hf : cells + mc ≤ R.cells ∧ slots + ms ≤ R.slots)
    (kk : ∀ (H1 : Heap) (locs1 : List Loc), oc_I D A (ws ++ w1) H0 H1 locs1 z1 → W p l e R s m args below meth c H1 locs1 (cells + mc) (slots + ms) Q (F0 m (pc + 3) ls rest)) : W p l e R s m args below meth c H locs cells slots Q (F0 m pc ls (.ref q :: rest)) := by
  obtain ⟨hP, hD, hS, hz, hA⟩ := I
  have hlast : (ws ++ [((q, .inr (j, fs)) : Nat × va_E)])[ws.length]? = some (q, .inr (j, fs)) := by simp
  have hPc : va_P D ox_cl [(q, .inr (j, fs))] H := fun k x hk => by
    have h0 : k < 1 := (List.getElem?_eq_some_iff.mp hk).1
    rw [show k = 0 by omega] at hk
    cases hk
    exact hP _ _ hlast
  have hF : ∀ x, va_A [((q, .inr (j, fs)) : Nat × va_E)] z x → A x := fun x h => by
    rcases h with ⟨k, e, h⟩ | h
    · have h0 : k < 1 := (List.getElem?_eq_some_iff.mp h).1
      rw [show k = 0 by omega] at h
      cases h
      exact hD.2 _ _ hlast
    · exact hA x (Nat.le_trans hS.1 (by rw [hz]; exact h))
  have hts := S.2.2.2.2
  have hw : ∀ w ∈ ox_gw, w.before args s = true := fun w h => hts w (hin w h)
  refine va_callv (va_runI (As := []) (rest := rest) S hM (cwI 0 hts (oc_gin hin hcode) rfl hrc hrs (hw _ hini) hl (hw _ hinst) hy1 hd hR) ⟨fun a U g mk h => ⟨h.1, h.2.1, h.2.2.1, va_K.moved (u := U) (U := U.calling g mk a) (Vm.Alike.refl U.vm) h.2.2.2.1, oc_AO.moved (u := U) (U := U.calling g mk a) (Vm.Alike.refl U.vm) h.2.2.2.2⟩, fun U hU hW => ⟨rfl, by rw [hU]; exact hz, by rw [hU]; exact hPc, va_K.moved hW.alike hK, oc_AO.moved hW.alike hAO⟩⟩ rfl rfl hsize rfl (lv_room hW) hdg hf) hS (fun x _ h => hF x h) hF (fun u t H1 locs1 ht hvm _ hB hz1 hk1 hS1 => ?_)
  obtain ⟨hB0, hB1, hB2⟩ := hB
  rw [ht] at hB0 hB1
  have hws : ∀ (k : Nat) (x : Nat × va_E), ws[k]? = some x → x.1 < H.size ∧ ¬ va_A [((q, .inr (j, fs)) : Nat × va_E)] z x.1 := fun k x hx => by
    have hlt : k < ws.length := (List.getElem?_eq_some_iff.mp hx).1
    have hx' : (ws ++ [((q, .inr (j, fs)) : Nat × va_E)])[k]? = some x := by rw [List.getElem?_append_left hlt]; exact hx
    have hl9 := (hP k x hx').lt
    refine ⟨hl9, fun h => ?_⟩
    rcases h with ⟨k2, e2, h⟩ | h
    · have h0 : k2 < 1 := (List.getElem?_eq_some_iff.mp h).1
      rw [show k2 = 0 by omega] at h
      have hq : q = x.1 := by have := Option.some.inj h; exact congrArg Prod.fst this
      have := hD.1 k ws.length x _ hx' hlast hq.symm
      omega
    · omega
  refine kk H1 locs1 ⟨va_P.app (fun k x hx => ?_) hB1, va_D.app ⟨fun i k x y hi hk e => ?_, fun k x hx => ?_⟩ (hB2.weaken (fun _ x _ h => hF x.1 h)) (fun i k x y hi hk e => ?_), hS1, hB0, hA⟩
  · have h9 := hws k x hx
    have hlt : k < ws.length := (List.getElem?_eq_some_iff.mp hx).1
    exact (hP k x (by rw [List.getElem?_append_left hlt]; exact hx)).kept (hk1 x.1 h9.1 h9.2)
  · exact hD.1 i k x y (by rw [List.getElem?_append_left (List.getElem?_eq_some_iff.mp hi).1]; exact hi) (by rw [List.getElem?_append_left (List.getElem?_eq_some_iff.mp hk).1]; exact hk) e
  · exact hD.2 k x (by rw [List.getElem?_append_left (List.getElem?_eq_some_iff.mp hx).1]; exact hx)
  · exact (hws i x hi).2 (by rw [e]; exact hB2.2 k y hk)
end OC2
/-- what a constructor's walk knows -/
def oc_X (p : Program) (s : State) (m : MethodId) (args : Array Value) (meth : Method) (c : Code) (b : ByteArray) (j : Nat) (D : va_G) (cy : Nat → ClassId) : Prop := p.tables.exec = Jvm.exec ∧ c.code = b ∧ c.maxLocals = 1 ∧ meth.sig.returnType = none ∧ meth.locks = false ∧ meth.name = "<init>" ∧ s.vm.findClass (ox_R j) = some m.cls ∧ (∀ w ∈ ox_gw, w.before args s = true) ∧ va_K D ox_cl (ox_tys cy) s ∧ oc_AO s ∧ j < 7
theorem oc_leaf {l : Launch} {y : MethodName} {b : ByteArray} {rm : Room} {D : va_G} {cy : Nat → ClassId} {q j : Nat} {fs : List Value} {z z1 pe : Nat} {w1 : va_W} {mc ms : Nat} (hj : j < 7) (hpl : plainName y.cls = true) (hy : y.cls = ox_R j) (hyn : y.name = "<init>") (hde : decode b pe = .ok (.return_, 1))
    (body : ∀ (p : Program) (e : Env) (s : State) (m : MethodId) (args : Array Value) (below : List Frame) (meth : Method) (c : Code) (ls : Array Slot), oc_X p s m args meth c b j D cy → ∀ (Q : State → Prop) (A : Nat → Prop), lv_has ls 1 [(0, .ref q)] → oc_I D A [(q, .inr (j, fs))] s.heap s.heap [] z → (∀ (H1 : Heap) (locs1 : List Loc), oc_I D A w1 s.heap H1 locs1 z1 → W p l e rm s m args below meth c H1 locs1 mc ms Q (F0 m pe ls [])) → W p l e rm s m args below meth c s.heap [] 0 0 Q (F0 m 0 ls [])) : oc_ok l y b rm D cy q j fs z z1 w1 mc ms := by
  refine Met.ofW (cc := b) (maxL := 1) (ret := none) hpl rfl ?_
  intro p e s m args below meth c s₁ B hml hv
  obtain ⟨rfl, hsz, hP, hK, hAO⟩ := hv
  have hts := atoms_spec (ws := .code y b 1 none :: ox_gw) B.pre
  have hown : s.vm.findClass (ox_R j) = some m.cls := by rw [← hy]; exact findClass_of_methodNamed B.named
  have hin : meth.name = "<init>" := (name_of_methodNamed B.named B.method).1.trans hyn
  have hl := lv_entry ([.ref q]) (n := 1) (Nat.le_of_ble_eq_true rfl)
  rw [lg_entry_eq]
  generalize (lg_sl ([.ref q]) ++ List.replicate (1 - (lg_sl ([.ref q])).length) Slot.unset).toArray = ls at hl ⊢
  have hl : lv_has ls 1 [(0, .ref q)] := hl
  refine body p e s m _ below meth c ls ⟨B.exec, B.bytes, hml, B.returns, B.notSynchronized, hin, hown, fun w hw => hts w (List.mem_cons_of_mem _ hw), hK, hAO, hj⟩ _ (va_A [(q, .inr (j, fs))] z) hl ⟨hP, ⟨fun i k x y hi hk _ => ?_, fun k x hk => ?_⟩, va_S.rf, hsz, fun x hx => Or.inr (by omega)⟩ (fun H1 locs1 I => ?_)
  · have h1 : i < 1 := (List.getElem?_eq_some_iff.mp hi).1
    have h2 : k < 1 := (List.getElem?_eq_some_iff.mp hk).1
    omega
  · exact va_A.in hk
  · obtain ⟨h1, h2, h3, h4, -⟩ := I
    exact W.vret B.exec B.bytes B.returns (fun t ht hW => ⟨⟨(), rfl, trivial, by rw [ht]; exact h4, by rw [ht]; exact h1, h2⟩, h3.F ht⟩) h3.2.2 hde
section OC3
variable {p : Program} {l : Launch} {e : Env} {R : Room} {s : State} {m : MethodId} {args : Array Value} {below : List Frame} {meth : Method} {c : Code} {H H0 : Heap} {locs : List Loc} {cells slots : Nat} {Q : State → Prop}
variable {b : ByteArray} {pc pn : Nat} {ls : Array Slot} {D : va_G} {A : Nat → Prop} {cy : Nat → ClassId} {z j a : Nat} {fs : List Value} {wr : va_W}
theorem oc_w60 : Cond.instanceMethod objectInit ∈ ox_gw := ox_mem 60 (by decide +kernel) (by decide +kernel)
theorem oc_w61 : Cond.code objectInit ⟨#[0xb1]⟩ 1 none ∈ ox_gw := ox_mem 61 (by decide +kernel) (by decide +kernel)
theorem oc_wI : Cond.arrayClass .int ∈ ox_gw := ox_mem 126 (by decide +kernel) (by decide +kernel)
theorem oc_wZ : Cond.arrayClass .boolean ∈ ox_gw := ox_mem 263 (by decide +kernel) (by decide +kernel)
theorem oc_wJ : Cond.arrayClass .long ∈ ox_gw := ox_mem 985 (by decide +kernel) (by decide +kernel)
theorem oc_s0 (X : oc_X p s m args meth c b j D cy) (hl : lv_has ls 1 [(0, .ref a)]) (hR : 1 ≤ R.frames ∧ 12 ≤ R.locals) {idx : Nat} (hm : Cond.methodLink (ox_R j) idx objectInit ∈ ox_gw) (d0 : decode b 0 = .ok (.aload_n 0, 1)) (d1 : decode b 1 = .ok (.invokespecial idx, 3)) (k : W p l e R s m args below meth c H locs cells slots Q (F0 m 4 ls [])) : W p l e R s m args below meth c H locs cells slots Q (F0 m 0 ls []) := by
  obtain ⟨hx, hb, hml, -, -, -, hown, hts, -⟩ := X
  refine lv_aload_n hx hb d0 rfl (lv_at hl 0 rfl) ?_
  refine W.objInit hx hb hown (hts _ hm) (hts _ oc_w60) (hts _ oc_w61) rfl (by rw [hml]; exact hl.1) rfl d1 hR.1 hR.2 ?_
  exact W.eq (g2 := F0 m 4 ls []) rfl k
/-- this.f = new T[n] -/
theorem oc_sa (X : oc_X p s m args meth c b j D cy) (hl : lv_has ls 1 [(0, .ref a)]) (I : oc_I D A ((a, .inr (j, fs)) :: wr) H0 H locs z) {n : Int32} (d0 : decode b pc = .ok (.aload_n 0, 1)) (push : W p l e R s m args below meth c H locs cells slots Q (F0 m pn ls [.int n, .ref a]) → W p l e R s m args below meth c H locs cells slots Q (F0 m (pc + 1) ls [.ref a]))
    {atype : ArrayType} {ty : FieldType} (hty : newarray.typeOf atype = ty) (harr : Cond.arrayClass ty ∈ ox_gw) (t0 : Nat) {cyt : ClassId} (ht : (ox_tys cy)[t0]? = some (cyt, ty)) (N : Nat) (ha : ∀ cA : ClassId, vp_cell cA (N, .inl (fun _ => 0)) = arrV cA N (fun _ => defaultValue ty)) (hN : ¬ n < 0 ∧ n.toNatClampNeg = N ∧ N * componentBytes ty ≤ 536870912) (hroom : cells + 1 ≤ R.cells ∧ slots + N ≤ R.slots) {q : Nat} (hq : q = z) (d2 : decode b pn = .ok (.newarray atype, 2))
    (k : Nat) {index : Nat} (hlink : Cond.fieldLink (ox_R j) index (ox_T j k).1 (ox_T j k).2.1 (ox_T j k).2.2.1 ∈ ox_gw) (hk : k < ox_fn j ∧ (ox_T j k).2.2.2 = true ∧ (ox_T j k).1 = ox_R j ∧ parseFieldDescriptor (ox_T j k).2.2.1 = some (.array ty)) (hkl : k < fs.length) (d3 : decode b (pn + 2) = .ok (.putfield index, 3))
    (kk : ∀ (H1 : Heap) (locs1 : List Loc), oc_I D A ((a, .inr (j, fs.set k (.ref q))) :: (wr ++ [(q, .inl (cyt, N, .inl (fun _ => 0)))])) H0 H1 locs1 (z + 1) → W p l e R s m args below meth c H1 locs1 (cells + 1) (slots + N) Q (F0 m (pn + 5) ls [])) : W p l e R s m args below meth c H locs cells slots Q (F0 m pc ls []) := by
  obtain ⟨hx, hb, hml, hr, hlk, hnm, hown, hts, hK, hAO, hj⟩ := X
  refine lv_aload_n hx hb d0 rfl (lv_at hl 0 rfl) (push ?_)
  refine oc_na hx hb hty (hts _ harr) hK t0 ht I ha hN.1 hN.2.1 hN.2.2 hroom.1 hroom.2 hq d2 (fun H1 I => ?_)
  exact oc_pf hx hb hj hts hown hK I k hk.1 (hts _ hlink) hk.2.1 hnm hk.2.2.1 hk.2.2.2 (by cases ty <;> rfl) (by cases ty <;> rfl) hkl d3 kk
/-- this.f = new int[n][k] -/
theorem oc_sm (X : oc_X p s m args meth c b j D cy) (hl : lv_has ls 1 [(0, .ref a)]) (I : oc_I D A ((a, .inr (j, fs)) :: wr) H0 H locs z) {n n2 : Int32} (d0 : decode b pc = .ok (.aload_n 0, 1)) (push : W p l e R s m args below meth c H locs cells slots Q (F0 m pn ls [.int n2, .int n, .ref a]) → W p l e R s m args below meth c H locs cells slots Q (F0 m (pc + 1) ls [.ref a]))
    {ix : Nat} (hcl : Cond.classLink (ox_R j) ix "[[I" ∈ ox_gw) (N K : Nat) (hN : ¬ n < 0 ∧ ¬ n2 < 0 ∧ n.toNatClampNeg = N ∧ n2.toNatClampNeg = K ∧ N * 4 ≤ 536870912 ∧ K * 4 ≤ 536870912) (hroom : cells + (1 + N) ≤ R.cells ∧ slots + (N + N * K) ≤ R.slots) {q : Nat} (hq : q = z) {f r : Nat → Nat} (hf : ∀ i, i < N → f i = z + 1 + i) (hr : ∀ i, i < N → r i = z + 1 + i) {E : Nat → va_E} (hE : ∀ i, i < N → E i = .inl (cy 0, K, .inl (fun _ => 0))) (d2 : decode b pn = .ok (.multianewarray ix 2, 4))
    (k : Nat) {index : Nat} (hlink : Cond.fieldLink (ox_R j) index (ox_T j k).1 (ox_T j k).2.1 (ox_T j k).2.2.1 ∈ ox_gw) (hk : k < ox_fn j ∧ (ox_T j k).2.2.2 = true ∧ (ox_T j k).1 = ox_R j ∧ parseFieldDescriptor (ox_T j k).2.2.1 = some (.array (.array .int))) (hkl : k < fs.length) (d3 : decode b (pn + 4) = .ok (.putfield index, 3))
    (kk : ∀ (H1 : Heap) (locs1 : List Loc), oc_I D A ((a, .inr (j, fs.set k (.ref q))) :: ((wr ++ [(q, .inl (cy 2, N, .inr (.inr (.inr (.inr (fun i => some (f i)))))))]) ++ (List.range N).map (fun i => (r i, E i)))) H0 H1 locs1 (z + 1 + N) → W p l e R s m args below meth c H1 locs1 (cells + 1 + N) (slots + N + N * K) Q (F0 m (pn + 7) ls [])) : W p l e R s m args below meth c H locs cells slots Q (F0 m pc ls []) := by
  obtain ⟨hx, hb, hml, hrt, hlk, hnm, hown, hts, hK, hAO, hj⟩ := X
  refine lv_aload_n hx hb d0 rfl (lv_at hl 0 rfl) (push ?_)
  refine oc_mn hx hb hown (hts _ hcl) hAO (hts _ oc_wI) hK I hN.1 hN.2.1 hN.2.2.1 hN.2.2.2.1 hN.2.2.2.2.1 hN.2.2.2.2.2 hroom.1 hroom.2 hq hf hr hE d2 (fun H1 I => ?_)
  exact oc_pf hx hb hj hts hown hK I k hk.1 (hts _ hlink) hk.2.1 hnm hk.2.2.1 hk.2.2.2 rfl rfl hkl d3 kk
/-- this.f = n -/
theorem oc_si (X : oc_X p s m args meth c b j D cy) (hl : lv_has ls 1 [(0, .ref a)]) (I : oc_I D A ((a, .inr (j, fs)) :: wr) H0 H locs z) {n : Int32} (d0 : decode b pc = .ok (.aload_n 0, 1)) (push : W p l e R s m args below meth c H locs cells slots Q (F0 m pn ls [.int n, .ref a]) → W p l e R s m args below meth c H locs cells slots Q (F0 m (pc + 1) ls [.ref a]))
    (k : Nat) {index : Nat} (hlink : Cond.fieldLink (ox_R j) index (ox_T j k).1 (ox_T j k).2.1 (ox_T j k).2.2.1 ∈ ox_gw) (hk : k < ox_fn j ∧ (ox_T j k).2.2.2 = false ∧ parseFieldDescriptor (ox_T j k).2.2.1 = some .int) (hkl : k < fs.length) (d3 : decode b pn = .ok (.putfield index, 3))
    (kk : ∀ (H1 : Heap) (locs1 : List Loc), oc_I D A ((a, .inr (j, fs.set k (.int n))) :: wr) H0 H1 locs1 z → W p l e R s m args below meth c H1 locs1 cells slots Q (F0 m (pn + 3) ls [])) : W p l e R s m args below meth c H locs cells slots Q (F0 m pc ls []) := by
  obtain ⟨hx, hb, hml, hrt, hlk, hnm, hown, hts, hK, hAO, hj⟩ := X
  refine lv_aload_n hx hb d0 rfl (lv_at hl 0 rfl) (push ?_)
  exact oc_pi hx hb hj hts hown hK I k hk.1 (hts _ hlink) hk.2.1 hk.2.2 rfl rfl hkl d3 kk
end OC3
