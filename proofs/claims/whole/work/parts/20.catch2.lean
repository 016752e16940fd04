theorem ox_L.store0 {ad : Nat → Nat} {lsr ls' : Array Slot} {n i : Nat} {ls : List (Option Value)} {v : Value} (h : ox_L ad lsr n ls) (hnl : ox_nl ls i = true)
    (h' : lv_has ls' n ((i, v) :: (ox_lv ad ls).filter (fun q => !(q.1 == i) && !(q.1 + 1 == i && q.2.category == 2)))) : ox_L ad ls' n (ls.set i none) := by
  refine ⟨by rw [List.length_set]; exact h.1, h'.1, h'.2.1, fun j u hu => ?_⟩
  rw [ox_getD_set] at hu
  by_cases hj : i = j ∧ j < ls.length
  · rw [if_pos hj] at hu; cases hu
  · rw [if_neg hj] at hu
    have hij : j ≠ i := by
      intro q
      rcases Nat.lt_or_ge j ls.length with hlt | hge
      · exact hj ⟨q.symm, hlt⟩
      · rw [List.getD_eq_getElem?_getD, List.getElem?_eq_none hge] at hu; cases hu
    refine h'.2.2 (j, ox_cv ad u) (List.mem_cons_of_mem _ (List.mem_filter.mpr ⟨ox_lv_mem.mpr ⟨u, hu, rfl⟩, ?_⟩))
    have hc : ¬ (j + 1 = i ∧ u.category = 2) := fun q => ox_nl_spec hnl q.1 hu q.2
    simp only [ox_cv_cat, Bool.and_eq_true, Bool.not_eq_true', beq_eq_false_iff_ne, ne_eq, Bool.and_eq_false_iff]
    refine ⟨hij, ?_⟩
    by_cases h1 : j + 1 = i
    · exact Or.inr (fun q => hc ⟨h1, q⟩)
    · exact Or.inl h1
theorem ox_stepCatch {e : Env} {s s2 : State} {a : Addr} {f : JFrame} {r : List Frame} {pc : Nat} (hfind : ∀ (Q : Handler → Pre) (E : CtlPost) (d : Bool) (acts : List Action), wp (findHandler f a) Q E e d acts s ↔ Q (.found pc) d acts s2) :
    (stepThrowing e s a (.java f :: r)).Is (s2.setFrames (.java { f with pc := pc, stack := [.ref a] } :: r)) [] := by
  simp only [stepThrowing, searchFrame, vmDo]
  generalize hr : Sem.go _ e false [] s = res
  obtain ⟨as, rfl, ha⟩ := Sem.eq_ok_of hr (a := Handler.found pc) (s' := s2) (acts' := []) (by simp [hfind _ _ _ _])
  exact ⟨rfl, ha⟩
section OX10
variable {l : Launch} {D : va_G} {ad : Nat → Nat} {cy : Nat → ClassId} {L : Nat} {xs : Nat → Int32}
theorem ox_catch : ox_HC l D ad cy L xs (ox_Z ad) := by
  intro k mi pc x h j ls rest c w p e s m args below meth cd T' locs lsr a Q C hz hex hhd hnl hj X hXc hl kk
  obtain ⟨hmi, hx, hb, hml, hown, hts, hr, hlocks, hK, hap, hX, hbl⟩ := C
  obtain ⟨cell, hcell, hobj, hcl⟩ := hXc
  unfold ox_hd at hhd
  cases hf : (ox_hh mi).find? (fun h => decide (h.1 ≤ pc) && decide (pc < h.2.1) && ox_hx h.2.2.2 == x) with
  | none => rw [hf] at hhd; cases hhd
  | some q =>
    rw [hf] at hhd
    dsimp only at hhd
    obtain ⟨hq1, hq2⟩ := ox_hhc mi hmi q (List.mem_of_find?_eq_some hf)
    have hq3 := List.find?_some hf
    simp only [Bool.and_eq_true, beq_iff_eq] at hq3
    have hx3 : x < 3 := by rw [← hq3.2]; exact (ox_cat _ hq1).2
    rw [hq2] at hown
    have hpl : e.platform.magicAccessors = ({} : Platform).magicAccessors := by rw [X.admits.platform]
    obtain ⟨y0, hy0, hyq⟩ : ∃ y0, cd.exceptionTable.toList.find? (fun y => covers y pc && ox_hx y.catchType == x) = some y0 ∧ (y0.startPc, y0.endPc, y0.handlerPc, y0.catchType) = q := by
      rw [← hex, List.find?_map] at hf
      cases hf2 : cd.exceptionTable.toList.find? (fun y => covers y pc && ox_hx y.catchType == x) with
      | none => rw [show ((fun h : Nat × Nat × Nat × Nat => decide (h.1 ≤ pc) && decide (pc < h.2.1) && ox_hx h.2.2.2 == x) ∘ fun x : ExceptionTableEntry => (x.startPc, x.endPc, x.handlerPc, x.catchType)) = (fun y => covers y pc && ox_hx y.catchType == x) from rfl, hf2] at hf; cases hf
      | some y0 =>
        rw [show ((fun h : Nat × Nat × Nat × Nat => decide (h.1 ≤ pc) && decide (pc < h.2.1) && ox_hx h.2.2.2 == x) ∘ fun x : ExceptionTableEntry => (x.startPc, x.endPc, x.handlerPc, x.catchType)) = (fun y => covers y pc && ox_hx y.catchType == x) from rfl, hf2] at hf
        exact ⟨y0, rfl, Option.some.inj hf⟩
    have hct : ∀ y ∈ cd.exceptionTable.toList, y.catchType ∈ [13, 19, 43] := fun y hy => (ox_hhc mi hmi _ (by rw [← hex]; exact List.mem_map.mpr ⟨y, hy, rfl⟩)).1
    obtain ⟨vm', hW', hfind⟩ := ox_scan (f := F0 m pc lsr rest) (a := a) hpl hown hts hz hx3 hobj (by rw [← X.warmed.alike.findClass]; exact hcl) cd.exceptionTable.toList ((T'.setTop (F0 m pc lsr rest)).pushFrame (.throwing a)) y0 (by rw [Stand.throwing_vm]; exact X.warmed) (by rw [Stand.throwing_heap]; exact hcell) hct hy0
    have X' := X.noted hW'
    have hfind2 : ∀ (Q : Handler → Pre) (E : CtlPost) (d : Bool) (acts : List Action), wp (findHandler (F0 m pc lsr rest) a) Q E e d acts ((T'.setTop (F0 m pc lsr rest)).pushFrame (.throwing a)) ↔ Q (.found y0.handlerPc) d acts (((T'.setTop (F0 m pc lsr rest)).pushFrame (.throwing a)).setVm vm') := fun Q E d acts =>
      (W.findHandler_eq (f := F0 m pc lsr rest) (by rw [Stand.throwing_vm]; exact X.method') X.code).trans (hfind Q E d acts)
    have hsteps : ∀ target, Steps p.tables e below ((T'.setVm vm').setTop (F0 m y0.handlerPc lsr [.ref a])) target → Steps p.tables e below ((T'.setTop (F0 m pc lsr rest)).pushFrame (.throwing a)) target := by
      intro target hrest
      have hAt : At T' (F0 m pc lsr rest).method cd below := X.here
      obtain ⟨hgo, hw⟩ := hAt.throwing a
      refine Steps.head hgo hw ?_
      rw [stepThread_throwing (frames_entered hAt.top _), (ox_stepCatch (s := (T'.setTop (F0 m pc lsr rest)).pushFrame (.throwing a)) hfind2).1]
      obtain ⟨g₀, hg⟩ := Option.isSome_iff_exists.mp hAt.top
      obtain ⟨r, hr⟩ := State.topJava?_eq_some.mp hg
      have hr' : (T'.setVm vm').frames = .java g₀ :: r := hr
      rw [State.setTop_of_frames _ hr'] at hrest
      rw [State.pushFrame, State.setTop_of_frames _ hr, State.setFrames_setFrames]
      show Steps p.tables e below (State.setFrames (State.setFrames (T'.setVm vm') _) _) target
      rw [State.setFrames_setFrames, hr]
      exact hrest
    have hW2 : W p l e (ox_rm k) s m args below meth cd T'.heap locs c w Q (F0 m y0.handlerPc lsr [.ref a]) := by
      have hh : y0.handlerPc = q.2.2.1 := by rw [← hyq]
      rw [hh]
      split at hhd
      · rename_i kk' u1 u2 u3 hI
        obtain ⟨rfl, rfl⟩ := Prod.mk.inj (Option.some.inj hhd)
        obtain ⟨hd, hc⟩ := ox_I1 mi hmi _ _ hI
        dsimp only at hd
        unfold ox_chk at hc
        rw [Bool.and_eq_true] at hc
        obtain rfl : u1 = 1 := eq_of_beq hc.2
        exact lv_astore_n hx hb hd rfl hl.has (by rw [← hl.1]; exact hj) rfl (fun ls' hl' => kk ls' (hl.store0 hnl hl'))
      · rename_i kk' u1 u2 u3 hI
        obtain ⟨rfl, rfl⟩ := Prod.mk.inj (Option.some.inj hhd)
        obtain ⟨hd, hc⟩ := ox_I1 mi hmi _ _ hI
        dsimp only at hd
        unfold ox_chk at hc
        rw [Bool.and_eq_true] at hc
        obtain rfl : u1 = 2 := eq_of_beq hc.2
        exact lv_astore hx hb hd hl.has (by rw [← hl.1]; exact hj) rfl (fun ls' hl' => kk ls' (hl.store0 hnl hl'))
      · cases hhd
    obtain ⟨t, a1, b1⟩ := hW2 (T'.setVm vm') rfl X'
    exact ⟨t, hsteps t a1, b1⟩
end OX10
