theorem ox_Sjoin {ad : Nat → Nat} {H0 H : Heap} {locs Lc : List Loc} {st t : State} (hS : va_S (ox_A ad H0.size) H0 H locs) (hh : st.heap = H) (hF : va_F (ox_A ad st.heap.size) st t) (hL : ∀ q ∈ Lc, ox_A ad H.size q.base) : va_S (ox_A ad H0.size) H0 t.heap (locs ++ Lc) := by
  subst hh
  have hA : ∀ q, ox_A ad st.heap.size q → ox_A ad H0.size q := by
    rintro q (h | h)
    · exact Or.inl h
    · exact Or.inr (Nat.le_trans hS.1 h)
  refine ⟨Nat.le_trans hS.1 hF.1, fun q h1 h2 => ?_, fun q hq => ?_⟩
  · rw [hF.2 q (Nat.lt_of_lt_of_le h1 hS.1) (fun h3 => ?_)]
    · exact hS.2.1 q h1 h2
    · exact h2 (hA q h3)
  · rcases List.mem_append.mp hq with h | h
    · exact hS.2.2 q h
    · exact hA _ (hL q h)
section OX5
variable {p : Program} {l : Launch} {e : Env} {s : State} {m : MethodId} {args : Array Value} {below : List Frame} {meth : Method} {cd : Code} {H : Heap} {locs : List Loc} {c w : Nat} {Q : State → Prop}
variable {D : va_G} {ad : Nat → Nat} {cy : Nat → ClassId} {L : Nat} {xs : Nat → Int32} {Zp : State → Prop} {i k mi pc : Nat} {as : List Value} {σ : ox_S} {out : ox_O × ox_S × Nat × Nat} {lsr : Array Slot} {rest stack : List Value}
/-- the nest facts and what a throw needs stay -/
def ox_HZ (D : va_G) (ad : Nat → Nat) (cy : Nat → ClassId) (Zp : State → Prop) : Prop := (∀ (s U : State) (σ : ox_S), Zp s → s.WarmedH U.vm → va_F (ox_A ad s.heap.size) s U → va_P D ox_cl (ox_ws ad cy σ) U.heap → Zp U) ∧ ∀ s : State, Zp s → ∀ q ∈ ox_NL, va_Nw (.methodLinkNest (ox_R q.1) q.2.1 (ox_nm q.2.2.1) "OrderAxioms") s
theorem ox_inv (hZ : ox_HZ D ad cy Zp) (C : ox_C p s m args meth cd mi D ad cy L xs) (hz : Zp s) (hP : va_P D ox_cl (ox_ws ad cy σ) H) (hS : va_S (ox_A ad s.heap.size) s.heap H locs) (hsz : lsr.size = cd.maxLocals) {ig : Instr} (hdg : decode cd.code pc = .ok (ig, 3)) (hW : (rest.map fun v => v.category).sum ≤ 8)
    (hfirst : ∀ T : State, T.heap = H → Stand p l e (ox_rm (k + 1)) s m args below meth cd T locs c w → ∃ (vm₁ : Vm) (mk : MethodId), Stand p l e (ox_rm (k + 1)) s m args below meth cd (T.setVm vm₁) locs c w ∧ s.methodNamed? (ox_nm i) = some mk ∧
      ∀ target, (∀ acts, Steps p.tables e below (doInvoke e ((T.setVm vm₁).setTop (F0 m pc lsr rest)) acts mk (as.map (ox_cv ad)).toArray).1 target) → Steps p.tables e below (T.setTop (F0 m pc lsr stack)) target)
    (hi : i < 114) (hM : ox_M l D ad cy L xs Zp k i as σ out) (hc1 : c + ox_rc k ≤ ox_rc (k + 1)) (hc2 : w + ox_rs k ≤ ox_rs (k + 1))
    (hret : ∀ v, out.1 = .inl v → ∀ (H' : Heap) (locs' : List Loc), va_P D ox_cl (ox_ws ad cy out.2.1) H' → va_S (ox_A ad s.heap.size) s.heap H' locs' → out.2.1 174 = xs → out.2.2.1 ≤ ox_rc k → out.2.2.2 ≤ ox_rs k → W p l e (ox_rm (k + 1)) s m args below meth cd H' locs' (c + out.2.2.1) (w + out.2.2.2) Q (F0 m (pc + 3) lsr ((v.map (ox_cv ad)).toList ++ rest)))
    (hthr : ∀ x, out.1 = .inr x → ∀ (T' : State) (locs' : List Loc) (a : Addr), va_P D ox_cl (ox_ws ad cy out.2.1) T'.heap → va_S (ox_A ad s.heap.size) s.heap T'.heap locs' → out.2.1 174 = xs → out.2.2.1 ≤ ox_rc k → out.2.2.2 ≤ ox_rs k → Stand p l e (ox_rm (k + 1)) s m args below meth cd T' locs' (c + out.2.2.1) (w + out.2.2.2) → ox_Xc x a T' → ∃ t, Steps p.tables e below ((T'.setTop (F0 m pc lsr rest)).pushFrame (.throwing a)) t ∧ Q t) :
    W p l e (ox_rm (k + 1)) s m args below meth cd H locs c w Q (F0 m pc lsr stack) := by
  obtain ⟨hmi, hx, hb, hml, hown, hts, hr, hlocks, hK, hap, hX, hbl⟩ := C
  intro T hT X
  obtain ⟨vm₁, mk, X₁, hnamed, hstep⟩ := hfirst T hT X
  have hT1 : (T.setVm vm₁).heap = H := hT
  have hWm : s.WarmedH vm₁ := X₁.warmed
  have hPc : ox_Pc D ad cy L xs Zp as σ (as.map (ox_cv ad)).toArray ((T.setVm vm₁).calling (F0 m pc lsr rest) mk (as.map (ox_cv ad)).toArray) := by
    have hheap : ((T.setVm vm₁).calling (F0 m pc lsr rest) mk (as.map (ox_cv ad)).toArray).heap = H := hT
    have hvm : ((T.setVm vm₁).calling (F0 m pc lsr rest) mk (as.map (ox_cv ad)).toArray).vm = vm₁ := rfl
    have hF : va_F (ox_A ad s.heap.size) s ((T.setVm vm₁).calling (F0 m pc lsr rest) mk (as.map (ox_cv ad)).toArray) := hS.F hheap
    refine ⟨rfl, by rw [hheap]; exact hP, va_K.moved (by rw [hvm]; exact hWm.alike) hK, va_X.kept (va_X.moved (by rw [hvm]; exact hWm.alike) hX) ?_, ?_, hZ.1 s _ σ hz (by rw [hvm]; exact hWm) hF (by rw [hheap]; exact hP)⟩
    · exact hF.2 _ hbl (ox_notA hap hbl)
    · exact Nat.lt_of_lt_of_le hbl hF.1
  obtain ⟨o, s₂, hsteps, hend, hq⟩ := ox_call1 (g := F0 m pc lsr rest) (ig := ig) (len := 3) X₁ rfl hsz hdg (by show 2 * 0 + (rest.map fun v => v.category).sum ≤ 8; omega) (X₁.named hnamed) hi hM hc1 hc2 (fun w hw a' V hV => word_at hV (ox_good hw) (hts w hw)) hPc
  obtain ⟨U', Lc, hh, hv, X', hLc, h1, h2⟩ := ox_call2 (g := F0 m pc lsr rest) (ig := ig) (len := 3) X₁ rfl hdg hend hq
  obtain ⟨hq1, -, hq3, hq4, hq5, hq6, hq7, hq8⟩ := hq
  rw [hT1] at hLc
  have hS' := ox_Sjoin hS (st := (T.setVm vm₁).calling (F0 m pc lsr rest) mk (as.map (ox_cv ad)).toArray) hT hq5 hLc
  cases ho : out.1 with
  | inl v =>
    rw [ho] at hq8
    dsimp only at hq8
    obtain ⟨t, a1, b1⟩ := hret v ho s₂.heap (locs ++ Lc) hq3 hS' hq4 hq6 hq7 U' hh X'
    refine ⟨t, hstep t (fun acts => ?_), b1⟩
    rw [doInvoke_state]
    refine hsteps.trans ?_
    rw [h1 _ hq8]
    exact a1
  | inr x =>
    rw [ho] at hq8
    obtain ⟨a, hq8, cell, hc, hst, hcl⟩ := hq8
    obtain ⟨t, a1, b1⟩ := hthr x ho U' (locs ++ Lc) a (by rw [hh]; exact hq3) (by rw [hh]; exact hS') hq4 hq6 hq7 X' ⟨cell, by rw [hh]; exact hc, hst, by rw [hv]; exact hcl⟩
    refine ⟨t, hstep t (fun acts => ?_), b1⟩
    rw [doInvoke_state]
    refine hsteps.trans ?_
    rw [h2 _ hq8]
    exact a1
end OX5
