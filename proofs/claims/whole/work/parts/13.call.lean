/-- a thrown object of kind x -/
def ox_Xc (x : Nat) (a : Addr) (t : State) : Prop := ∃ cell : Cell, t.heap[a]? = some cell ∧ (∀ k, cell.vm ≠ .statics k) ∧ t.vm.findClass (ox_ex x) = some cell.cls
/-- what an invocation leaves, whatever its end -/
def ox_Q (D : va_G) (ad : Nat → Nat) (cy : Nat → ClassId) (xs : Nat → Int32) (k : Nat) (out : ox_O × ox_S × Nat × Nat) (s : State) (o : Outcome) (t : State) : Prop :=
  s.WarmedH t.vm ∧ (∃ Lc, s.sameButNew ({ t with vm := s.vm } : State) Lc out.2.2.1 out.2.2.2 ∧ ∀ q ∈ Lc, ox_A ad s.heap.size q.base) ∧ va_P D ox_cl (ox_ws ad cy out.2.1) t.heap ∧ out.2.1 174 = xs ∧ va_F (ox_A ad s.heap.size) s t ∧ out.2.2.1 ≤ ox_rc k ∧ out.2.2.2 ≤ ox_rs k ∧
  match out.1 with
  | .inl v => o = .returned (v.map (ox_cv ad))
  | .inr x => ∃ a, o = .threw a ∧ ox_Xc x a t
def ox_E (below : List Frame) (D : va_G) (ad : Nat → Nat) (cy : Nat → ClassId) (xs : Nat → Int32) (k : Nat) (out : ox_O × ox_S × Nat × Nat) (s : State) : State → Prop := fun t => ∃ o, t.status = .running ∧ Ended t below o ∧ ox_Q D ad cy xs k out s o t
def ox_Pc (D : va_G) (ad : Nat → Nat) (cy : Nat → ClassId) (L : Nat) (xs : Nat → Int32) (Zp : State → Prop) (as : List Value) (σ : ox_S) (a : Array Value) (U : State) : Prop :=
  a = (as.map (ox_cv ad)).toArray ∧ va_P D ox_cl (ox_ws ad cy σ) U.heap ∧ va_K D ox_cl (ox_tys cy) U ∧ va_X (ad 174) L xs U U.heap ∧ ad 174 < U.heap.size ∧ Zp U
/-- the contract of method i at level k, for these arguments and ints -/
def ox_M (l : Launch) (D : va_G) (ad : Nat → Nat) (cy : Nat → ClassId) (L : Nat) (xs : Nat → Int32) (Zp : State → Prop) (k i : Nat) (as : List Value) (σ : ox_S) (out : ox_O × ox_S × Nat × Nat) : Prop :=
  MetFree l (ox_nm i) (headSpec ox_gw (ox_rm k)) (ox_Pc D ad cy L xs Zp as σ) (fun _ _ _ _ _ => True) (fun _ s o t => ox_Q D ad cy xs k out s o t)
theorem ox_cwG {i : Nat} (h : i < 114) : ox_cw i ∈ ox_gw := List.mem_filter.mpr ⟨ox_w1 i h, ox_w1g i h⟩
/-- a method by its code word -/
theorem ox_code {i : Nat} {a : Array Value} {U : State} (h : (ox_cw i).before a U = true) : ∃ mk methY cY, U.methodNamed? (ox_nm i) = some mk ∧ U.vm.method? mk = some methY ∧ methY.code = some cY ∧ cY.code = ox_b i ∧ cY.maxLocals = ox_mL i ∧ methY.sig.returnType = ox_rt i ∧ methY.locks = false ∧ parseMethodDescriptor (ox_nm i).desc = some methY.sig ∧ cY.exceptionTable.toList.map (fun x => (x.startPc, x.endPc, x.handlerPc, x.catchType)) = ox_hh i := by
  unfold ox_cw at h
  split at h
  · rename_i hh
    obtain ⟨mk, hnamed⟩ := Cond.code_named h
    obtain ⟨methY, cY, h1, h2, h3, h4, h5, h6, h7, h8⟩ := Cond.code_spec hnamed h
    refine ⟨mk, methY, cY, hnamed, h1, h2, h3, h4, h5, h6, h8, ?_⟩
    rw [hh]
    have h9 : cY.exceptionTable = #[] := by simpa using h7
    rw [h9]
    rfl
  · obtain ⟨m9, methY, cY, hn9, h1, h2, h3, h4, h5, h6, h7, h8⟩ := Cond.codeWith_spec h
    refine ⟨m9, methY, cY, hn9, h1, h2, h3, h4, h6, h7, ?_, ?_⟩
    · exact h8
    · exact h5
section OX3
variable {p : Program} {l : Launch} {e : Env} {R : Room} {s : State} {m : MethodId} {args : Array Value} {below : List Frame} {meth : Method} {c : Code} {H : Heap} {locs : List Loc} {cells slots : Nat}
variable {D : va_G} {ad : Nat → Nat} {cy : Nat → ClassId} {L : Nat} {xs : Nat → Int32} {Zp : State → Prop} {U : State} {g : JFrame} {i k : Nat} {as : List Value} {σ : ox_S} {out : ox_O × ox_S × Nat × Nat} {a : Array Value} {mk : MethodId} {ig : Instr} {len : Nat}
theorem ox_call1 (X : Stand p l e (ox_rm (k + 1)) s m args below meth c U locs cells slots) (hg : g.method = m) (hsize : g.locals.size = c.maxLocals) (hdg : decode c.code g.pc = .ok (ig, len))
    (hW : 2 * g.monitorRoom + (g.stack.map fun v => v.category).sum ≤ 8) (hn : U.methodNamed? (ox_nm i) = some mk) (hi : i < 114) (hM : ox_M l D ad cy L xs Zp k i as σ out)
    (hc1 : cells + ox_rc k ≤ ox_rc (k + 1)) (hc2 : slots + ox_rs k ≤ ox_rs (k + 1)) (hws : ∀ w ∈ ox_gw, ∀ (a' : Array Value) (V : State), s.WarmedH V.vm → w.before a' V = true) (hP : ox_Pc D ad cy L xs Zp as σ a (U.calling g mk a)) :
    ∃ o s₂, Steps p.tables e below (doInvoke e (U.setTop g) [] mk a).1 s₂ ∧ Ended s₂ (U.setTop g).frames o ∧ ox_Q D ad cy xs k out (U.calling g mk a) o s₂ := by
  have hwU : ∀ w ∈ ox_gw, w.before a U = true := fun w hw => hws w hw a U X.warmed
  obtain ⟨mk', methY, cY, hn', hmY, hcY, -, hlY, -, -, -, -⟩ := ox_code (hwU _ (ox_cwG hi))
  cases hn.symm.trans hn'
  obtain ⟨kY, hkY, -⟩ := className_of_methodNamed hn
  obtain ⟨hcls, how, hml9, -⟩ := ox_w4 i (by omega)
  have hini : (Cond.initialized (ox_nm i).cls).before a U = true := by
    rw [hcls]
    exact hwU _ (ox_mem _ (ox_w2 _ how) rfl)
  have hinitY : kY.init = .initialized := Cond.initialized_spec (findClass_of_methodNamed hn) hkY hini
  have h : At U g.method c below := by rw [hg]; exact X.here
  have h1 : (headSpec ox_gw (ox_rm k)).pre.before a U = true := atoms_intro hwU
  have happ : (headSpec ox_gw (ox_rm k)).appliesLoose (ox_nm i) e.platform (U.calling g mk a) = true :=
    Spec.appliesLoose_calling (g := g) h hdg hn hkY hinitY
      (X.room_calling (g := g) (R' := (headSpec ox_gw (ox_rm k)).room) hsize hmY hcY (by show k + 1 ≤ k + 1; omega) (by rw [hlY]; show _ + _ + (40 + 31 * k) ≤ 40 + 31 * (k + 1); omega) hc1 hc2) h1
  obtain ⟨mid, hmid⟩ := h.above
  have hfr : (U.setTop g).frames = (.java g :: mid) ++ below := by rw [State.frames_setTop' g h.top, hmid]; rfl
  obtain ⟨o, s₂, hsteps, -, hend, hq⟩ := Steps.callFree hM p X.admits X.cas X.clock (acts := []) hfr happ hP trivial
  exact ⟨o, s₂, hsteps, hend, hq⟩
/-- behind the call: the caller stands again -/
theorem ox_call2 (X : Stand p l e R s m args below meth c U locs cells slots) (hg : g.method = m) (hdg : decode c.code g.pc = .ok (ig, len)) {o : Outcome} {s₂ : State} (hend : Ended s₂ (U.setTop g).frames o) (hq : ox_Q D ad cy xs k out (U.calling g mk a) o s₂) :
    ∃ (U' : State) (Lc : List Loc), U'.heap = s₂.heap ∧ U'.vm = s₂.vm ∧ Stand p l e R s m args below meth c U' (locs ++ Lc) (cells + out.2.2.1) (slots + out.2.2.2) ∧ (∀ q ∈ Lc, ox_A ad U.heap.size q.base) ∧
      (∀ v, o = .returned v → s₂ = U'.setTop { g with pc := g.pc + len, stack := v.toList ++ g.stack }) ∧ (∀ x, o = .threw x → s₂ = (U'.setTop g).pushFrame (.throwing x)) := by
  obtain ⟨hW₂, ⟨Lc, hsb, hLc⟩, -⟩ := hq
  obtain ⟨e2, q2, q3, q4, q5, q6⟩ := id hsb
  have h : At U g.method c below := by rw [hg]; exact X.here
  rw [State.frames_setTop' g h.top] at hend
  have e3 : s₂ = ({ (U.calling g mk a).setFrames s₂.frames with heap := s₂.heap, slotsUsed := s₂.slotsUsed } : State).setVm s₂.vm := by
    have : s₂ = ({ s₂ with vm := (U.calling g mk a).vm } : State).setVm s₂.vm := rfl
    rw [e2] at this
    exact this
  have hW' : U.WarmedH s₂.vm := hW₂
  obtain ⟨g₀, hg0⟩ := Option.isSome_iff_exists.mp h.top
  obtain ⟨r, hr⟩ := State.topJava?_eq_some.mp hg0
  have hsame : U.sameButNew ({ U with heap := s₂.heap, slotsUsed := s₂.slotsUsed } : State) Lc out.2.2.1 out.2.2.2 := by
    refine ⟨?_, q2, q3, q4, q5, q6⟩
    obtain ⟨t, ht, -⟩ := State.frames_cons hr
    show ({ U with heap := s₂.heap, slotsUsed := s₂.slotsUsed } : State) = { U.setFrames U.frames with heap := s₂.heap, slotsUsed := s₂.slotsUsed }
    rw [State.setFrames_self ht]
  have hr' : (({ U with heap := s₂.heap, slotsUsed := s₂.slotsUsed } : State).setVm s₂.vm).frames = .java g₀ :: r := hr
  refine ⟨(({ U with heap := s₂.heap, slotsUsed := s₂.slotsUsed } : State).setVm s₂.vm), Lc, rfl, rfl,
    ⟨X.admits, X.cas, X.clock, X.frames, X.room, X.hears, X.method, X.code, (X.here.setHeapUsed s₂.heap s₂.slotsUsed).setVm hW'.alike, X.tail, State.WarmedH.trans X.warmed hW', X.limits, X.bytes, X.same.trans (hsame.setVm s.vm)⟩, hLc, ?_, ?_⟩
  · intro v hv
    subst hv
    obtain ⟨c₂, i₂, len₂, hc₂, hd₂, hf₂⟩ := hend
    have hcc : c₂ = c := by
      have h1 : s₂.code? g.method = U.code? g.method := by
        rw [State.code?_eq, State.code?_eq, hW'.alike.method?]
      exact Option.some.inj (hc₂.symm.trans (h1.trans h.code))
    subst hcc
    have hlen : len₂ = len := by rw [hdg] at hd₂; cases hd₂; rfl
    subst hlen
    refine e3.trans ?_
    rw [hf₂, State.calling_eq h.top, State.setFrames_setFrames, State.setTop_of_frames _ hr', hr]
    rfl
  · intro x hx
    subst hx
    have hend : s₂.frames = .throwing x :: .java g :: U.frames.tail := hend
    refine e3.trans ?_
    rw [hend, State.calling_eq h.top, State.setFrames_setFrames]
    show _ = State.setFrames (State.setTop _ g) (.throwing x :: (State.setTop _ g).frames)
    rw [State.setTop_of_frames _ hr', State.frames_setFrames _ (State.cur_lt_of_frames hr'), State.setFrames_setFrames, hr]
    rfl
end OX3
