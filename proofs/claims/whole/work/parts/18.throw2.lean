theorem ox_xi : ∀ x, x < 3 → Cond.initialized (ox_ex x) ∈ ox_gw ∧ Cond.instantiable (ox_ex x) 6 ∈ ox_gw := by decide +kernel
theorem ox_xf : ∀ x, x < 3 → Bundle.fit (ox_ex x) = true := by decide +kernel
theorem ox_ow5 : ∀ i, i < 115 → ox_ow i = 5 → 32 ≤ i ∧ i ≤ 50 := by decide +kernel
theorem ox_XL5 : ∀ q ∈ ox_XL, q.1 = 5 := by decide +kernel
def ox_patB (mi pc : Nat) : Bool := match ox_I mi pc with
  | some (.new _, _, x, _) => !(Nat.blt x 3) || (ox_hh mi == [] && (match ox_I mi (pc + 3) with | some (.dup, 1, _, _) => true | _ => false) && (match ox_I mi (pc + 4) with | some (.ldc j, 2, _, _) => ox_SL.any (fun q => q.1 == j) | _ => false) && (match ox_I mi (pc + 6) with | some (.invokespecial j, 3, _, _) => j == ox_ic x | _ => false) && (match ox_I mi (pc + 9) with | some (.athrow, 1, _, _) => true | _ => false))
  | _ => true
theorem ox_pat0 : ∀ mi, 32 ≤ mi → mi ≤ 50 → ∀ pc, 330 ≤ pc → ox_I mi pc = none := by
  intro mi h1 h2 pc h
  match mi, h1, h2 with
  | 0, h1, _ => exact absurd h1 (by omega)
  | 1, h1, _ => exact absurd h1 (by omega)
  | 2, h1, _ => exact absurd h1 (by omega)
  | 3, h1, _ => exact absurd h1 (by omega)
  | 4, h1, _ => exact absurd h1 (by omega)
  | 5, h1, _ => exact absurd h1 (by omega)
  | 6, h1, _ => exact absurd h1 (by omega)
  | 7, h1, _ => exact absurd h1 (by omega)
  | 8, h1, _ => exact absurd h1 (by omega)
  | 9, h1, _ => exact absurd h1 (by omega)
  | 10, h1, _ => exact absurd h1 (by omega)
  | 11, h1, _ => exact absurd h1 (by omega)
  | 12, h1, _ => exact absurd h1 (by omega)
  | 13, h1, _ => exact absurd h1 (by omega)
  | 14, h1, _ => exact absurd h1 (by omega)
  | 15, h1, _ => exact absurd h1 (by omega)
  | 16, h1, _ => exact absurd h1 (by omega)
  | 17, h1, _ => exact absurd h1 (by omega)
  | 18, h1, _ => exact absurd h1 (by omega)
  | 19, h1, _ => exact absurd h1 (by omega)
  | 20, h1, _ => exact absurd h1 (by omega)
  | 21, h1, _ => exact absurd h1 (by omega)
  | 22, h1, _ => exact absurd h1 (by omega)
  | 23, h1, _ => exact absurd h1 (by omega)
  | 24, h1, _ => exact absurd h1 (by omega)
  | 25, h1, _ => exact absurd h1 (by omega)
  | 26, h1, _ => exact absurd h1 (by omega)
  | 27, h1, _ => exact absurd h1 (by omega)
  | 28, h1, _ => exact absurd h1 (by omega)
  | 29, h1, _ => exact absurd h1 (by omega)
  | 30, h1, _ => exact absurd h1 (by omega)
  | 31, h1, _ => exact absurd h1 (by omega)
  | 32, _, _ => exact oxn_32 pc (by omega)
  | 33, _, _ => exact oxn_33 pc (by omega)
  | 34, _, _ => exact oxn_34 pc (by omega)
  | 35, _, _ => exact oxn_35 pc (by omega)
  | 36, _, _ => exact oxn_36 pc (by omega)
  | 37, _, _ => exact oxn_37 pc (by omega)
  | 38, _, _ => exact oxn_38 pc (by omega)
  | 39, _, _ => exact oxn_39 pc (by omega)
  | 40, _, _ => exact oxn_40 pc (by omega)
  | 41, _, _ => exact oxn_41 pc (by omega)
  | 42, _, _ => exact oxn_42 pc (by omega)
  | 43, _, _ => exact oxn_43 pc (by omega)
  | 44, _, _ => exact oxn_44 pc (by omega)
  | 45, _, _ => exact oxn_45 pc (by omega)
  | 46, _, _ => exact oxn_46 pc (by omega)
  | 47, _, _ => exact oxn_47 pc (by omega)
  | 48, _, _ => exact oxn_48 pc (by omega)
  | 49, _, _ => exact oxn_49 pc (by omega)
  | 50, _, _ => exact oxn_50 pc (by omega)
  | k + 51, _, h2 => exact absurd h2 (by omega)
theorem ox_pat1 : ∀ mi, mi < 51 → 32 ≤ mi → ∀ pc, pc < 330 → ox_patB mi pc = true := by decide +kernel
theorem ox_pat {mi pc i x b : Nat} (hmi : mi < 115) (hI : ox_I mi pc = some (.new i, 3, x, b)) (hx : x < 3) : ox_ow mi = 5 ∧ Cond.classLink "OrderAxioms" i (ox_ex x) ∈ ox_gw ∧ ox_hh mi = [] ∧ (∃ u v, ox_I mi (pc + 3) = some (.dup, 1, u, v)) ∧ (∃ j u v tx, ox_I mi (pc + 4) = some (.ldc j, 2, u, v) ∧ (j, tx) ∈ ox_SL) ∧ (∃ u v, ox_I mi (pc + 6) = some (.invokespecial (ox_ic x), 3, u, v)) ∧ (∃ u v, ox_I mi (pc + 9) = some (.athrow, 1, u, v)) := by
  obtain ⟨hd, hc⟩ := ox_I1 mi hmi pc _ hI
  unfold ox_chk at hc
  rw [Bool.and_eq_true] at hc
  have hc := hc.1
  unfold ox_lnk at hc
  dsimp only at hc
  rw [Bool.or_eq_true] at hc
  have hc2 : ox_ow mi = 5 ∧ Cond.classLink "OrderAxioms" i (ox_ex x) ∈ ox_gw := by
    rcases hc with h | h
    · have := eq_of_beq h
      omega
    · obtain ⟨q, hq, h⟩ := List.any_eq_true.mp h
      simp only [Bool.and_eq_true, beq_iff_eq] at h
      obtain ⟨⟨h1, rfl⟩, rfl⟩ := h
      have h5 := ox_XL5 q hq
      have h6 := ox_XLok q hq
      rw [h5] at h6
      exact ⟨by rw [← h1]; exact h5, ox_mem _ h6 rfl⟩
  obtain ⟨g1, g2⟩ := ox_ow5 mi hmi hc2.1
  have hpc : pc < 330 := by
    rcases Nat.lt_or_ge pc 330 with q | q
    · exact q
    · rw [ox_pat0 mi g1 g2 pc q] at hI; cases hI
  have hp := ox_pat1 mi (by omega) g1 pc hpc
  unfold ox_patB at hp
  rw [hI] at hp
  have hx3 : Nat.blt x 3 = true := Nat.ble_eq_true_of_le hx
  simp only [hx3, Bool.not_true, Bool.false_or, Bool.and_eq_true] at hp
  obtain ⟨⟨⟨⟨p0, p1⟩, p2⟩, p3⟩, p4⟩ := hp
  refine ⟨hc2.1, hc2.2, by simpa using p0, ?_, ?_, ?_, ?_⟩
  · split at p1
    · rename_i u v h; exact ⟨_, _, h⟩
    · cases p1
  · split at p2
    · rename_i j u v h
      obtain ⟨q, hq, h3⟩ := List.any_eq_true.mp p2
      obtain rfl := eq_of_beq h3
      exact ⟨_, _, _, q.2, h, hq⟩
    · cases p2
  · split at p3
    · rename_i j u v h
      obtain rfl := eq_of_beq p3
      exact ⟨_, _, h⟩
    · cases p3
  · split at p4
    · rename_i u v h; exact ⟨_, _, h⟩
    · cases p4
theorem ox_isLa {w : Cond} (hw : ox_isL w = true) (A : Array Value) (U : State) (h : w.before #[] U = true) : w.before A U = true := by
  cases w with
  | laysStatic o n d => exact h
  | isRef t => cases t with
    | static o n d => exact h
    | _ => simp [ox_isL] at hw
  | _ => simp [ox_isL] at hw
theorem ox_sbT {T X : State} {F : List Frame} {L : List Loc} {k n : Nat} (h : (T.setFrames F).sameButNew X L k n) : T.sameButNew X L k n := by
  obtain ⟨e1, h2⟩ := h
  refine ⟨?_, h2⟩
  rw [State.setFrames_setFrames] at e1
  exact e1
section OX9
variable {l : Launch} {D : va_G} {ad : Nat → Nat} {cy : Nat → ClassId} {L : Nat} {xs : Nat → Int32}
set_option maxHeartbeats 4000000 in
theorem ox_throw (htr : ∀ e : Env, l.admits e → e.platform.stackTraces = false) : ox_HT l D ad cy L xs (ox_Z ad) := by
  intro k mi pc i x b ls σ c w p e s m args below meth cd H locs lsr C hz hex hI hx3 h5 hc hw hP hS hl hσ
  obtain ⟨hmi, hx, hb, hml, hown, hts, hr, hlocks, hK, hap, hX, hbl⟩ := C
  obtain ⟨how, hcl, hh0, ⟨u1, v1, hI1⟩, ⟨j, u2, v2, tx, hI2, htx⟩, ⟨u3, v3, hI3⟩, ⟨u4, v4, hI4⟩⟩ := ox_pat hmi hI hx3
  have hd0 := (ox_I1 mi hmi pc _ hI).1
  have hd1 := (ox_I1 mi hmi (pc + 3) _ hI1).1
  have hd2 := (ox_I1 mi hmi (pc + 4) _ hI2).1
  have hd3 := (ox_I1 mi hmi (pc + 6) _ hI3).1
  have hd4 := (ox_I1 mi hmi (pc + 9) _ hI4).1
  dsimp only at hd0 hd1 hd2 hd3 hd4
  rw [how] at hown
  intro T hT X
  have X' := ox_reroot (R' := { frames := k, cells := 1, slots := 6, locals := 40 + 31 * k }) X (Nat.le_refl _) (Nat.le_refl _) (by show c + 1 ≤ ox_rc k; omega) (by show w + 6 ≤ ox_rs k; omega)
  generalize hs' : T.setFrames (.invoking m args :: below) = s' at X'
  have hvm' : s'.vm = T.vm := by rw [← hs']; rfl
  have hheap' : s'.heap = T.heap := by rw [← hs']; rfl
  have hW : s.WarmedH s'.vm := by rw [hvm']; exact X.warmed
  have hts' : ∀ w ∈ ox_gw, w.before args s' = true := fun w hw => word_at hW (ox_good hw) (hts w hw)
  have hown' : s'.vm.findClass "OrderAxioms" = some m.cls := by rw [hW.alike.findClass]; exact hown
  have hz' : ox_Z ad s' := ox_Zs (σ := σ) hz hW (hS.F (by rw [hheap', hT])) (by rw [hheap', hT]; exact hP)
  obtain ⟨qa, hqa⟩ := hz'.2.1 _ htx
  have hatoms : ∀ a ∈ Bundle.ownAtoms "OrderAxioms" (ox_ic x) (ox_ex x) ["java/lang/RuntimeException", "java/lang/Exception"], a.before args s' = true := by
    intro a ha
    have h9 := hz'.2.2.1 x hx3 a ha
    obtain ⟨-, g2⟩ := ox_xg x hx3 a ha
    rcases g2 with g2 | g2
    · exact va_tabs g2 rfl h9
    · exact ox_isLa g2 args s' h9
  obtain ⟨hini, hins⟩ := ox_xi x hx3
  have htab : cd.exceptionTable.toList = [] := by
    rw [hh0] at hex
    simpa using hex
  have K : W p l e { frames := k, cells := 1, slots := 6, locals := 40 + 31 * k } s' m args below meth cd T.heap [] 0 0 (fun t => ∃ a, t.status = .running ∧ Ended t below (.threw a) ∧ s'.WarmedH t.vm ∧ s'.sameButNew ({ t with vm := s'.vm } : State) [] 1 6 ∧ ∃ ce, t.heap[a]? = some ce ∧ Bundle.OwnCell args s' (ox_ex x) a (.ref qa) ce) (F0 m pc lsr []) := by
    refine W.newc hx hb hown' (hts' _ hcl) (hts' _ hins) (hts' _ hini) rfl hd0 (Nat.le_refl 1) (Nat.le_refl 6) (fun cC kC hfc hk hkind hsz => ?_)
    refine lv_dup hx hb hd1 rfl ?_
    refine va_ldcS hx hb hown' hqa hd2 ?_
    intro T2 hT2 X2
    have hcell : T2.heap[T.heap.size]? = some (freshCell cC kC) := by rw [hT2]; simp
    obtain ⟨U, st, h1, h2, h3, h4, h6⟩ := X2.ctorThrowS hx (htr e X2.admits) hown' (ox_xf x hx3) (by decide +kernel) hatoms (fun x hx => by cases hx) hfc hk hcell (by rw [hheap']; exact Nat.le_refl _) (msg := .ref qa) rfl (g := F0 m (pc + 3 + 1 + 2) lsr [.ref qa, .ref T.heap.size, .ref T.heap.size]) rfl (by rw [hl.2.1, hml]) rfl rfl (rest := []) rfl (by rw [hb]; exact hd3) (by rw [hb]; exact hd4) (by rw [htab]; intro x hx; cases hx) (by show 2 + 3 < k; omega) (by show 2 * 0 + 1 + (13 * 3 + 42) ≤ 40 + 31 * k; omega) hlocks
    exact ⟨U, st, _, h1, h2, h3, h4, h6⟩
  obtain ⟨t, a1, a, b1, b2, b3, b4, ce, hce, hoc⟩ := K T rfl X'
  have hold : ∀ q cell, H[q]? = some cell → t.heap[q]? = some cell := fun q cell hq => b4.old_cell (by rw [hheap', hT]; exact hq)
  refine ⟨t, a1, .threw a, b1, b2, State.WarmedH.trans hW b3, ⟨locs, ?_, hS.2.2⟩, ?_, hσ, ?_, by show c + 1 ≤ _; omega, hw, a, rfl, ce, hce, ?_, ?_⟩
  · have h9 : T.sameButNew ({ t with vm := s'.vm } : State) [] 1 6 := ox_sbT (by rw [hs']; exact b4)
    have h10 := X.same.trans (h9.setVm s.vm)
    rw [List.append_nil] at h10
    exact h10
  · exact hP.kept (fun k q hq => by
      have hlt := (hP k q hq).lt
      rw [hold q.1 H[q.1] (Array.getElem?_eq_getElem hlt), Array.getElem?_eq_getElem hlt])
  · have hF0 := hS.F (t := s') (by rw [hheap', hT])
    refine ⟨?_, fun q h1 h2 => ?_⟩
    · have := b4.2.1
      rw [hheap', hT] at this
      exact Nat.le_trans hS.1 this
    · have hlt : q < H.size := Nat.lt_of_lt_of_le h1 hS.1
      rw [hold q H[q] (Array.getElem?_eq_getElem hlt), ← Array.getElem?_eq_getElem hlt]
      exact hS.2.1 q h1 h2
  · intro kk; rw [hoc.vm]; simp
  · rw [b3.alike.findClass]; exact hoc.cls
end OX9
