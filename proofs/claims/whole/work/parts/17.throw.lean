section OX8
variable {p : Program} {l : Launch} {e : Env} {R R' : Room} {s T : State} {m : MethodId} {args : Array Value} {below : List Frame} {meth : Method} {c : Code} {locs : List Loc} {cells slots : Nat}
/-- the walk, begun anew where it stands -/
theorem ox_reroot (X : Stand p l e R s m args below meth c T locs cells slots) (hf : R'.frames ≤ R.frames) (hlo : R'.locals ≤ R.locals) (hc : cells + R'.cells ≤ R.cells) (hs : slots + R'.slots ≤ R.slots) :
    Stand p l e R' (T.setFrames (.invoking m args :: below)) m args below meth c T [] 0 0 := by
  have hcur : T.cur < T.threads.size := State.cur_lt_of_top X.here.top
  have hF : (T.setFrames (.invoking m args :: below)).frames = .invoking m args :: below := State.frames_setFrames _ hcur
  have hU := X.heapSize
  have hV := X.used
  refine ⟨X.admits, X.cas, X.clock, hF, ?_, ?_, X.method', X.code, X.here, X.tail, State.WarmedH.refl _, by rw [State.stackLimits_setFrames], by rw [State.stackBytes_setFrames], ?_⟩
  · obtain ⟨r1, r2, r3, r4⟩ := State.hasRoom_stack X.room
    have r5 := State.hasRoom_real X.room
    have h := X.room
    simp only [State.hasRoom, Bool.and_eq_true, decide_eq_true_eq] at h
    rw [State.localsInUse_invoking X.frames X.method X.code] at r3 r4 r5
    rw [X.frames, List.length_cons] at r1 r2
    have hL : (T.setFrames (.invoking m args :: below)).localsInUse = _ := State.localsInUse_invoking hF (meth := meth) (c := c) X.method' X.code
    simp only [State.hasRoom, Bool.and_eq_true, decide_eq_true_eq, hF, hL, List.length_cons, State.stackLimits_setFrames, State.stackBytes_setFrames, X.limits, X.bytes]
    refine ⟨⟨⟨⟨by omega, by omega, by omega, by omega, by omega, h.1.1.1.2.2.2.2.2⟩, ?_⟩, ?_⟩, X.book⟩
    · have := h.1.1.2
      show T.heap.size + R'.cells ≤ _
      omega
    · have := h.1.2
      show T.slotsUsed + R'.slots ≤ _
      omega
  · have h := X.hears
    have hcode : ∀ q, (T.setFrames (.invoking m args :: below)).code? q = s.code? q := fun q => by
      rw [State.code?_eq, State.code?_eq]
      show (T.vm.method? q).bind _ = _
      rw [X.warmed.alike.method?]
    have hmeth : (T.setFrames (.invoking m args :: below)).vm.method? m = s.vm.method? m := by
      show T.vm.method? m = _
      rw [X.warmed.alike.method?]
    cases below with
    | nil => simp only [State.hears] at h ⊢; rw [hmeth]; exact h
    | cons f r => cases f <;> simp only [State.hears] at h ⊢ <;> first | (rw [hcode]; exact h) | (rw [hmeth]; exact h)
  · obtain ⟨t, ht, -⟩ := State.frames_cons hF
    have h := (State.sameButNew.refl (T.setFrames (.invoking m args :: below)) ht).setFrames T.frames (State.cur_lt_of_frames hF)
    obtain ⟨g₀, hg⟩ := Option.isSome_iff_exists.mp X.here.top
    obtain ⟨r, hr⟩ := State.topJava?_eq_some.mp hg
    obtain ⟨t2, ht2, -⟩ := State.frames_cons hr
    rw [State.setFrames_setFrames, State.setFrames_self ht2] at h
    exact h
/-- the words of a throw of kind x -/
def ox_ic (x : Nat) : Nat := bif Nat.beq x 0 then 55 else bif Nat.beq x 1 then 66 else 173
def ox_xa (x : Nat) : List Cond := Bundle.ownAtoms "OrderAxioms" (ox_ic x) (ox_ex x) ["java/lang/RuntimeException", "java/lang/Exception"]
def ox_isS (w : Cond) : Bool := match w with
  | .isRef (.static _ _ _) => true
  | _ => false
def ox_isD (w : Cond) : Bool := match w with
  | .declares _ => true
  | .castable _ _ => true
  | _ => false
theorem ox_t1 : goodWord (.superclass "a" "b") = true := by decide
theorem ox_t2 : goodWord (.laysStatic "a" "b" "c") = true := by decide
theorem ox_t3 : goodWord (.native ⟨"a", "b", "c"⟩) = true := by decide
theorem ox_t4 : goodWord (.codeSync ⟨"a", "b", "c"⟩ ⟨#[]⟩ 1 none) = true := by decide
theorem ox_t5 : goodWord (.selects "a" ⟨"a", "b", "c"⟩ ⟨"a", "b", "c"⟩) = true := by decide
theorem ox_t6 : goodWord (.instantiable "a" 6) = true := by decide
theorem ox_t7 : goodWord (.lays "a" "b" "c" "d") = true := by decide
theorem ox_t8 : goodWord (.castable "a" "b") = true := by decide
theorem ox_t9 : goodWord (.declares ⟨"a", "b", "c"⟩) = true := by decide
theorem ox_t10 : goodWord (.stringRef "a" 3 "c") = true := by decide
theorem ox_t11 : (Cond.superclass "a" "b").keepsFace = true := by decide
theorem ox_t12 : (Cond.laysStatic "a" "b" "c").keepsFace = true := by decide
theorem ox_t13 : (Cond.castable "a" "b").keepsCast = true := by decide
theorem ox_t14 : (Cond.castable "a" "b").keepsFace = true := by decide
theorem ox_t15 : (Cond.declares ⟨"a", "b", "c"⟩).keepsFace = true := by decide
theorem ox_t16 : (Cond.superclass "a" "b").keeps = true := by decide
theorem ox_t17 : (Cond.laysStatic "a" "b" "c").keeps = true := by decide
theorem ox_t18 : (Cond.native ⟨"a", "b", "c"⟩).keeps = true := by decide
theorem ox_t19 : (Cond.codeSync ⟨"a", "b", "c"⟩ ⟨#[]⟩ 1 none).keeps = true := by decide
theorem ox_t20 : (Cond.stringRef "a" 3 "c").keeps = true := by decide
theorem ox_xg2 : ∀ x, x < 3 → ∀ w ∈ ox_xa x, ox_isS w = true ∨ w ∈ lw_tbl := by decide +kernel
end OX8
