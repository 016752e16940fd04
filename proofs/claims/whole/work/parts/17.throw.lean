section OX8
variable {p : Program} {l : Launch} {e : Env} {R R' : Room} {s T : State} {m : MethodId} {args : Array Value} {below : List Frame} {meth : Method} {c : Code} {locs : List Loc} {cells slots : Nat}
/-- the walk, begun anew where it stands -/
theorem ox_reroot (X : Stand p l e R s m args below meth c T locs cells slots) (hf : R'.frames ≤ R.frames) (hlo : R'.locals ≤ R.locals) (hc : cells + R'.cells ≤ R.cells) (hs : slots + R'.slots ≤ R.slots) :
    Stand p l e R' (T.setFrames (.invoking m args :: below)) m args below meth c T [] 0 0 := by
  have hcur : T.cur < T.threads.size := State.cur_lt_of_top X.here.top
  have hF : (T.setFrames (.invoking m args :: below)).frames = .invoking m args :: below := State.frames_setFrames _ hcur
  have hU := X.heapSize
  have hV := X.used
  refine ⟨X.admits, X.cas, X.clock, hF, ?_, ?_, X.method', X.code, X.here, X.tail, State.WarmedH.refl _, by rw [State.stackLimits_setFrames], by rw [State.stackBytes_setFrames], ?_⟩
  · obtain ⟨r1, r2, r3, r4⟩ := State.hasRoom_stack X.room
    have r5 := State.hasRoom_real X.room
    have h := X.room
    simp only [State.hasRoom, Bool.and_eq_true, decide_eq_true_eq] at h
    rw [State.localsInUse_invoking X.frames X.method X.code] at r3 r4 r5
    rw [X.frames, List.length_cons] at r1 r2
    have hL : (T.setFrames (.invoking m args :: below)).localsInUse = _ := State.localsInUse_invoking hF (meth := meth) (c := c) X.method' X.code
    simp only [State.hasRoom, Bool.and_eq_true, decide_eq_true_eq, hF, hL, List.length_cons, State.stackLimits_setFrames, State.stackBytes_setFrames, X.limits, X.bytes]
    refine ⟨⟨⟨⟨by omega, by omega, by omega, by omega, by omega, h.1.1.1.2.2.2.2.2⟩, ?_⟩, ?_⟩, X.book⟩
    · have := h.1.1.2
      show T.heap.size + R'.cells ≤ _
      omega
    · have := h.1.2
      show T.slotsUsed + R'.slots ≤ _
      omega
  · have h := X.hears
    have hcode : ∀ q, (T.setFrames (.invoking m args :: below)).code? q = s.code? q := fun q => by
      rw [State.code?_eq, State.code?_eq]
      show (T.vm.method? q).bind _ = _
      rw [X.warmed.alike.method?]
    have hmeth : (T.setFrames (.invoking m args :: below)).vm.method? m = s.vm.method? m := by
      show T.vm.method? m = _
      rw [X.warmed.alike.method?]
    cases below with
    | nil => simp only [State.hears] at h ⊢; rw [hmeth]; exact h
    | cons f r => cases f <;> simp only [State.hears] at h ⊢ <;> first | (rw [hcode]; exact h) | (rw [hmeth]; exact h)
  · obtain ⟨t, ht, -⟩ := State.frames_cons hF
    have h := (State.sameButNew.refl (T.setFrames (.invoking m args :: below)) ht).setFrames T.frames (State.cur_lt_of_frames hF)
    obtain ⟨g₀, hg⟩ := Option.isSome_iff_exists.mp X.here.top
    obtain ⟨r, hr⟩ := State.topJava?_eq_some.mp hg
    obtain ⟨t2, ht2, -⟩ := State.frames_cons hr
    rw [State.setFrames_setFrames, State.setFrames_self ht2] at h
    exact h
/-- the words of a throw of kind x -/
def ox_ic (x : Nat) : Nat := bif Nat.beq x 0 then 55 else bif Nat.beq x 1 then 66 else 173
def ox_xa (x : Nat) : List Cond := Bundle.ownAtoms "OrderAxioms" (ox_ic x) (ox_ex x) ["java/lang/RuntimeException", "java/lang/Exception"]
def ox_isS (w : Cond) : Bool := match w with
  | .isRef (.static _ _ _) => true
  | _ => false
def ox_isD (w : Cond) : Bool := match w with
  | .declares _ => true
  | .castable _ _ => true
  | _ => false
def ox_isL (w : Cond) : Bool := match w with
  | .laysStatic o _ _ => o == Bundle.tN
  | .isRef (.static o _ _) => o == Bundle.tN
  | _ => false
theorem ox_xg : ∀ x, x < 3 → ∀ w ∈ ox_xa x, (w.keepsFace = true) ∧ (w.onTables = true ∨ ox_isL w = true) := by decide +kernel
theorem ox_xg2 : ∀ x, x < 3 → ∀ w ∈ ox_xa x, ox_isS w = true ∨ w ∈ lw_tbl := by decide +kernel
end OX8
theorem ox_zff {V U : State} (hvm : V.vm = U.vm) (o n d : String) : U.fieldFound? o n d = V.fieldFound? o n d := by
  simp only [State.fieldFound?, hvm]
theorem ox_zL {V U : State} {w : Cond} (hw : ox_isL w = true) (hvm : V.vm = U.vm) (hU : ∀ (a : Nat) (cell : Cell), V.heap[a]? = some cell → cell.vm.isStatics = true → U.heap[a]? = some cell) (h : w.before #[] V = true) : w.before #[] U = true := by
  cases w with
  | laysStatic o n d =>
    obtain ⟨c, k, i, f, a, cell, hc, hi, hst, ha, hcell, hs, hcls, hlt, hty⟩ := Cond.laysStatic_spec h
    have e1 : U.vm.findClass o = some c := by rw [← hvm]; exact hc
    have e2 : U.fieldFound? o n d = some (c, k, i, f) := by rw [ox_zff hvm]; exact hi
    have e3 := hU a cell hcell hs
    simp [Cond.before, Cond.holds, Cond.value, e1, e2, ha, e3, hst, hs, hcls, hlt, hty]
  | isRef t =>
    cases t with
    | static o n d =>
      have hev : ∀ v, (Term.static o n d).eval #[] V none [] V = some v → (Term.static o n d).eval #[] U none [] U = some v := by
        intro v hv
        cases hi : V.fieldFound? o n d with
        | none => simp [Term.eval, State.fieldNamed?, hi] at hv
        | some q =>
          obtain ⟨c, k, i, f⟩ := q
          have e2 : U.fieldFound? o n d = some (c, k, i, f) := by rw [ox_zff hvm]; exact hi
          simp only [Term.eval, State.fieldNamed?, hi, e2, Option.bind_eq_bind, Option.bind_some] at hv ⊢
          cases hst : f.isStatic with
          | false => simp [hst] at hv
          | true =>
            simp only [hst] at hv ⊢
            cases ha : k.statics with
            | none => simp [ha] at hv
            | some a =>
              cases hcell : V.heap[a]? with
              | none => simp [ha, hcell] at hv
              | some cell =>
                cases hs : cell.vm.isStatics with
                | false => simp [ha, hcell, hs] at hv
                | true =>
                  have e3 := hU a cell hcell hs
                  simpa [ha, hcell, hs, e3] using hv
      cases hv : (Term.static o n d).eval #[] V none [] V with
      | none => simp [Cond.before, Cond.holds, Cond.value, hv] at h
      | some v =>
        have h2 := hev v hv
        simp only [Cond.before, Cond.holds, Cond.value, hv, h2] at h ⊢
        exact h
    | _ => simp [ox_isL] at hw
  | _ => simp [ox_isL] at hw
/-- the String constants of the class -/
def ox_SL : List (Nat × String) := [(53, "there are four threads"), (64, "no such thread"), (67, "no such kind"), (69, "no such place"), (74, "there are twelve events"), (80, "no such event"), (89, "no dependence of an event on a read before it"), (94, "no such way to make a relation"), (103, "no such relation"), (105, "there are forty relations"), (114, "there are eight rules"), (135, "more than 5000 executions"), (171, "no such outcome or read"), (178, "no such outcome or question"), (186, "no such execution"), (204, "no such read"), (212, "no such write"), (218, "no such relation or event"), (220, "no such event of a ring")]
/-- what throws and the one call across the nest need of a state -/
def ox_Z (ad : Nat → Nat) (s : State) : Prop :=
  (∀ q ∈ ox_NL, va_Nw (.methodLinkNest (ox_R q.1) q.2.1 (ox_nm q.2.2.1) "OrderAxioms") s) ∧ (∀ q ∈ ox_SL, ∃ a, vk_R "OrderAxioms" q.1 q.2 a s) ∧ (∀ x, x < 3 → ∀ w ∈ ox_xa x, w.before #[] s = true) ∧
  (∀ o, o < 174 → ∀ cell, s.heap[ad o]? = some cell → cell.vm.isStatics = false) ∧ ∀ x y, x < 3 → y < 3 → x ≠ y → va_Nc (ox_ex x) (ox_ex y) s
theorem ox_Pns {D : va_G} {ad : Nat → Nat} {cy : Nat → ClassId} {σ : ox_S} {H : Heap} (hP : va_P D ox_cl (ox_ws ad cy σ) H) {o : Nat} (ho : o < 174) {cell : Cell} (hc : H[ad o]? = some cell) : cell.vm.isStatics = false := by
  have h := hP o _ (ox_ws_get ho)
  by_cases h7 : ox_k o < 7
  · rw [ox_enF h7] at h
    obtain ⟨r, h1, cell', g1, g2, g3, -⟩ := h
    cases hc.symm.trans g1
    rw [g3]
    rfl
  · have hE : ∃ ca z, ox_en ad cy σ o = .inl (ca, z) := by
      unfold ox_en
      rw [if_neg h7]
      split
      · exact ⟨_, _, rfl⟩
      · split
        · exact ⟨_, _, rfl⟩
        · split <;> exact ⟨_, _, rfl⟩
    obtain ⟨ca, z, he⟩ := hE
    rw [he] at h
    have h : H[ad o]? = some (vp_cell ca z) := h
    cases hc.symm.trans h
    obtain ⟨n, a⟩ := z
    rcases a with f | f | f | f | f <;> rfl
theorem ox_Zs {D : va_G} {ad : Nat → Nat} {cy : Nat → ClassId} {σ : ox_S} {s U : State} (hz : ox_Z ad s) (hW : s.WarmedH U.vm) (hF : va_F (ox_A ad s.heap.size) s U) (hP : va_P D ox_cl (ox_ws ad cy σ) U.heap) : ox_Z ad U := by
  obtain ⟨h1, h2, h3, h4, h5⟩ := hz
  refine ⟨fun q hq => va_Nw.warmM hW (h1 q hq), fun q hq => ?_, fun x hx w hw => ?_, fun o ho cell hc => ox_Pns hP ho hc, fun x y hx hy hxy => va_Nc.moved hW.alike (h5 x y hx hy hxy)⟩
  · obtain ⟨a, ha⟩ := h2 q hq
    exact ⟨a, vk_R.warm hW ha⟩
  · obtain ⟨g1, g2⟩ := ox_xg x hx w hw
    have h5 : w.before #[] (s.setVm U.vm) = true := Cond.before_shiftedFace (State.Shifted.of_warmed hW) w g1 (h3 x hx w hw)
    rcases g2 with g2 | g2
    · exact va_tabs g2 (rfl : (s.setVm U.vm).vm = U.vm) h5
    · refine ox_zL (V := s.setVm U.vm) g2 rfl (fun a cell hc hs => ?_) h5
      have hc : s.heap[a]? = some cell := hc
      rw [hF.2 a (Array.getElem?_eq_some_iff.mp hc).1 ?_]
      · exact hc
      · rintro (⟨o, ho, e⟩ | q)
        · subst e
          rw [h4 o ho cell hc] at hs
          cases hs
        · exact absurd (Array.getElem?_eq_some_iff.mp hc).1 (by omega)
