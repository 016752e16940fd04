theorem ox_args1 : ∀ (as : List Value) (k0 j : Nat) (v : Value), as.all ox_c1 = true → as[j]? = some v → ∀ ad : Nat → Nat, (k0 + j, ox_cv ad v) ∈ lv_args k0 (as.map (ox_cv ad)) := by
  intro as
  induction as with
  | nil => intro k0 j v _ h; simp at h
  | cons u as ih =>
    intro k0 j v ha h ad
    simp only [List.all_cons, Bool.and_eq_true] at ha
    have hu : (ox_cv ad u).category = 1 := by
      rw [ox_cv_cat]
      cases u <;> first | rfl | (simp [ox_c1] at ha)
    simp only [List.map_cons, lv_args]
    cases j with
    | zero =>
      simp at h
      subst h
      exact List.mem_cons_self ..
    | succ j =>
      refine List.mem_cons_of_mem _ ?_
      rw [hu]
      have h9 := ih (k0 + 1) j v ha.2 (by simpa using h) ad
      rw [show k0 + (j + 1) = k0 + 1 + j by omega]
      exact h9
theorem ox_entry (ad : Nat → Nat) (as : List Value) {n : Nat} (ha : as.all ox_c1 = true) (hn : as.length ≤ n) : ∃ lsr, (∀ m : MethodId, entryFrame m (as.map (ox_cv ad)).toArray n = F0 m 0 lsr []) ∧ ox_L ad lsr n (as.map some ++ List.replicate (n - as.length) none) := by
  have hlen : (lg_sl (as.map (ox_cv ad))).length ≤ n := by
    have h1 : ∀ vs : List Value, vs.all ox_c1 = true → (lg_sl (vs.map (ox_cv ad))).length = vs.length := by
      intro vs
      induction vs with
      | nil => intro _; rfl
      | cons u vs ih =>
        intro h
        simp only [List.all_cons, Bool.and_eq_true] at h
        have h2 := ih h.2
        cases u <;> first | (simp [ox_c1] at h; done) | (exact congrArg Nat.succ h2)
    rw [h1 as ha]
    exact hn
  have hl := lv_entry (as.map (ox_cv ad)) (n := n) hlen
  refine ⟨_, fun m => by rw [lg_entry_eq], ?_⟩
  refine ⟨by simp; omega, hl.1, hl.2.1, fun j v hv => ?_⟩
  have hj : as[j]? = some v := by
    rw [List.getD_eq_getElem?_getD] at hv
    rcases Nat.lt_or_ge j as.length with q | q
    · rw [List.getElem?_append_left (by simpa using q)] at hv
      simpa [q] using hv
    · rw [List.getElem?_append_right (by simpa using q)] at hv
      rw [List.getElem?_replicate] at hv
      split at hv <;> simp at hv
  have h9 := ox_args1 as 0 j v ha hj ad
  rw [Nat.zero_add] at h9
  exact hl.2.2 _ h9
section OX4
variable {l : Launch} {D : va_G} {ad : Nat → Nat} {cy : Nat → ClassId} {L : Nat} {xs : Nat → Int32} {Zp : State → Prop}
/-- what the machine says with fuel n is so on the real one -/
def ox_So (l : Launch) (D : va_G) (ad : Nat → Nat) (cy : Nat → ClassId) (L : Nat) (xs : Nat → Int32) (Zp : State → Prop) (n : Nat) : Prop :=
  ∀ (k mi pc : Nat) (ls : List (Option Value)) (st : List Value) (σ : ox_S) (c w : Nat) (out : ox_O × ox_S × Nat × Nat), ox_x L n k mi pc ls st σ c w = some out → 1 ≤ k → c ≤ ox_rc k → w ≤ ox_rs k →
    ∀ (p : Program) (e : Env) (s : State) (m : MethodId) (args : Array Value) (below : List Frame) (meth : Method) (cd : Code), ox_C p s m args meth cd mi D ad cy L xs → Zp s → cd.exceptionTable.toList.map (fun x => (x.startPc, x.endPc, x.handlerPc, x.catchType)) = ox_hh mi →
    ∀ (H : Heap) (locs : List Loc) (lsr : Array Slot), va_P D ox_cl (ox_ws ad cy σ) H → va_S (ox_A ad s.heap.size) s.heap H locs → ox_L ad lsr (ox_mL mi) ls → σ 174 = xs →
      W p l e (ox_rm k) s m args below meth cd H locs c w (ox_E below D ad cy xs k out s) (F0 m pc lsr (st.map (ox_cv ad)))
theorem ox_contract (hap : ox_ap ad) {n k i : Nat} (ih : ox_So l D ad cy L xs Zp n) {as : List Value} {σ : ox_S} {out : ox_O × ox_S × Nat × Nat} (h : ox_x L n k i 0 (as.map some ++ List.replicate (ox_mL i - as.length) none) [] σ 0 0 = some out) (hk : 1 ≤ k) (hi : i < 114) (hσ : σ 174 = xs) (hlen : as.length ≤ ox_mL i) (ha : as.all ox_c1 = true) :
    ox_M l D ad cy L xs Zp k i as σ out := by
  obtain ⟨hcls, how, hml9, hpl, hy⟩ := ox_w4 i (by omega)
  refine MetFree.of_bodyS (code := ox_b i) (maxLocals := ox_mL i) (ret := ox_rt i) hpl ?_ ?_
  · intro args s m hpre hn
    obtain ⟨mk, methY, cY, hn', h1, h2, h3, h4, h5, h6, -, -⟩ := ox_code (atoms_spec (ws := ox_gw) hpre _ (ox_cwG hi))
    cases hn.symm.trans hn'
    exact ⟨methY, cY, h1, h2, h3, h4, h5, h6⟩
  · intro p e s m args below meth c s₁ B hml hP _
    obtain ⟨rfl, hPh, hK, hX, hbl, hZ⟩ := hP
    have hts := atoms_spec (ws := ox_gw) B.pre
    have hown : s.vm.findClass (ox_R (ox_ow i)) = some m.cls := by
      rw [← hcls]
      exact findClass_of_methodNamed B.named
    have C : ox_C p s m (as.map (ox_cv ad)).toArray meth c i D ad cy L xs := ⟨by omega, B.exec, B.bytes, hml, hown, hts, B.returns, B.notSynchronized, hK, hap, hX, hbl⟩
    obtain ⟨mk, methY, cY, hn', h1, h2, h3, h4, h5, h6, h7, h8⟩ := ox_code (hts _ (ox_cwG hi))
    cases B.named.symm.trans hn'
    cases B.method.symm.trans h1
    cases (Stand.of_body B).code.symm.trans h2
    obtain ⟨lsr, he, hl⟩ := ox_entry ad as ha hlen
    have hh0 : s₁.heap = s.heap := by rw [B.state]; rfl
    obtain ⟨t, a1, o, b1, b2, b3⟩ := ih k i 0 _ [] σ 0 0 out h hk (Nat.zero_le _) (Nat.zero_le _) p e s m _ below meth c C hZ h8 s.heap [] lsr hPh va_S.rf hl hσ s₁ hh0 (Stand.of_body B)
    rw [he m]
    exact ⟨t, o, a1, b1, b2, b3⟩
end OX4
