theorem oc_e1 : ∀ q ∈ ox_SL, Cond.exactly (Term.string "OrderAxioms" q.1) "java/lang/String" ∈ flatC (Jvm.Cond.and given_1 narrow_1) := by decide +kernel
theorem oc_e2 : ∀ q ∈ ox_SL, Cond.stringRef "OrderAxioms" q.1 q.2 ∈ lw_tbl := by decide +kernel
theorem oc_e3 : ∀ x, x < 3 → ∀ y, y < 3 → x ≠ y → Cond.not (.castable (ox_ex x) (ox_ex y)) ∈ flatC (Jvm.Cond.and given_1 narrow_1) := by decide +kernel
theorem oc_e4 : ∀ x, x < 3 → ∀ w ∈ ox_xa x, w ∈ lw_tbl ∨ w ∈ flatC (Jvm.Cond.and given_1 narrow_1) := by decide +kernel
theorem oc_e5 : ∀ q ∈ oc_NL, Cond.methodLinkNest "OrderAxioms" q.1 ⟨q.2, "<init>", "()V"⟩ "OrderAxioms" ∈ lw_tbl := by decide +kernel
theorem oc_isL {w : Cond} (h : ox_isL w = true) {A A' : Array Value} {s : State} (hb : w.before A s = true) : w.before A' s = true := by
  cases w with
  | laysStatic o n d => exact hb
  | isRef t =>
    cases t with
    | static o n d => exact hb
    | _ => simp [ox_isL] at h
  | _ => simp [ox_isL] at h
/-- what throws need, at the law's entry -/
theorem oc_Z {ad : Nat → Nat} {s : State} {b : Nat} (hts : ∀ w ∈ lw_tbl, w.before #[Value.ref b] s = true) (hgv : (Jvm.Cond.and given_1 narrow_1).before #[Value.ref b] s = true) (had : ∀ o, o < 174 → s.heap.size ≤ ad o) : ox_Z ad s := by
  have hs := flat_of_before _ hgv
  refine ⟨fun q hq => ?_, fun q hq => ?_, fun x hx w hw => ?_, fun o ho cell hc => ?_, fun x y hx hy hxy => va_Nc.of (hs _ (oc_e3 x hx y hy hxy))⟩
  · exact hts _ (List.mem_of_getElem? (ox_NLok q hq).1)
  · obtain ⟨a, _, _, _, h, -⟩ := Cond.exactly_spec (hs _ (oc_e1 q hq))
    exact ⟨a, vk_R.of (A := #[Value.ref b]) (hts _ (oc_e2 q hq)) h⟩
  · have h : w.before #[Value.ref b] s = true := by
      rcases oc_e4 x hx w hw with h | h
      · exact hts _ h
      · exact hs _ h
    rcases (ox_xg x hx w hw).2 with g | g
    · exact va_tabs g rfl h
    · exact oc_isL g h
  · have h1 := had o ho
    have h2 := (Array.getElem?_eq_some_iff.mp hc).1
    omega
/-- how many cells were made before object o's -/
def oc_off (o : Nat) : Nat := bif Nat.blt o 9 then [0, 1, 15, 20, 36, 90, 144, 147, 173].getD o 0 else bif Nat.blt o 22 then o - 7 else bif Nat.blt o 26 then o - 6 else bif Nat.blt o 28 then o + 119 else bif Nat.blt o 43 then o - 7 else bif Nat.blt o 68 then o + 105 else bif Nat.blt o 121 then o - 31 else o - 30
def oc_L2 : List Nat := [7, 43, 44, 45, 46, 47, 48, 49, 50, 51, 52, 53, 54, 55, 56, 57, 58, 59, 60, 61, 62, 63, 64, 65, 66, 67]
/-- the object that was made behind n others -/
def oc_inv (n : Nat) : Nat := (oc_L1 ++ oc_L2 ++ [8]).getD n 0
theorem oc_f1 : ∀ o, o < 174 → oc_inv (oc_off o) = o := by decide +kernel
theorem oc_f2 : ∀ o, o < 174 → o ∈ oc_L1 ∨ o ∈ oc_L2 ∨ o = 8 := by decide +kernel
/-- where the objects lie: from sz on; the script at b -/
def oc_ad (b sz : Nat) (o : Nat) : Nat := bif Nat.blt o 174 then sz + oc_off o else b
theorem oc_adE {b sz o : Nat} (h : o < 174) : oc_ad b sz o = sz + oc_off o := by
  have h9 : Nat.blt o 174 = true := Nat.ble_eq_true_of_le h
  simp only [oc_ad, h9, cond_true]
theorem oc_ad174 {b sz : Nat} : oc_ad b sz 174 = b := rfl
theorem oc_adap {b sz : Nat} (hb : b < sz) : ox_ap (oc_ad b sz) := by
  refine ⟨fun i j hi hj e => ?_, fun i hi e => ?_⟩
  · rw [oc_adE hi, oc_adE hj] at e
    have e9 : oc_off i = oc_off j := by omega
    rw [← oc_f1 i hi, ← oc_f1 j hj, e9]
  · rw [oc_adE hi, oc_ad174] at e
    omega
theorem oc_g0 : ∀ i, i < 13 → oc_off (9 + i) = 2 + i := by decide +kernel
theorem oc_g1 : ∀ i, i < 4 → oc_off (22 + i) = 16 + i := by decide +kernel
theorem oc_g2 : ∀ i, i < 15 → oc_off (28 + i) = 21 + i := by decide +kernel
theorem oc_g3 : ∀ i, i < 53 → oc_off (68 + i) = 37 + i := by decide +kernel
theorem oc_g4 : ∀ i, i < 53 → oc_off (121 + i) = 91 + i := by decide +kernel
theorem oc_g5 : ∀ i, i < 2 → oc_off (26 + i) = 145 + i := by decide +kernel
theorem oc_g6 : ∀ i, i < 25 → oc_off (43 + i) = 148 + i := by decide +kernel
theorem oc_ads {b sz o n : Nat} (h : o < 174) (e : oc_off o = n) : oc_ad b sz o = sz + n := by rw [oc_adE h, e]
theorem oc_adr {b sz a n N z : Nat} (g : ∀ i, i < N → oc_off (a + i) = n + i) (hN : a + N ≤ 174) (hz : z = sz + n) : ∀ i, i < N → oc_ad b sz (a + i) = z + i := fun i hi => by rw [oc_adE (by omega), g i hi]; omega
/-- the world of the abstract machine, out of what was made -/
theorem oc_world {D : va_G} {ad : Nat → Nat} {cy : Nat → ClassId} {xs : Nat → Int32} {H : Heap} (h : va_P D ox_cl ((oc_L1.map (oc_e ad cy xs) ++ oc_L2.map (oc_e ad cy xs)) ++ [oc_e ad cy xs 8]) H) : va_P D ox_cl (ox_ws ad cy (oc_z xs)) H := by
  intro k q hk
  have h1 : k < 174 := by have := (List.getElem?_eq_some_iff.mp hk).1; simpa [ox_ws] using this
  rw [ox_ws_get h1] at hk
  cases hk
  have hm : oc_e ad cy xs k ∈ (oc_L1.map (oc_e ad cy xs) ++ oc_L2.map (oc_e ad cy xs)) ++ [oc_e ad cy xs 8] := by
    rcases oc_f2 k h1 with h9 | h9 | h9
    · exact List.mem_append_left _ (List.mem_append_left _ (List.mem_map_of_mem h9))
    · exact List.mem_append_left _ (List.mem_append_right _ (List.mem_map_of_mem h9))
    · rw [h9]; exact List.mem_append_right _ (List.mem_singleton.mpr rfl)
  obtain ⟨i, hi⟩ := List.getElem?_of_mem hm
  exact h i _ hi
def R_law : String := "OrderAxiomsLaw"
def lw_P (b : Addr) (xs : List Int32) (args : Array Value) (s : State) : Prop := args = #[.ref b] ∧ s.IntsAt b xs ∧ xs.length ≤ 2560 ∧ (Jvm.Cond.and given_1 narrow_1).before args s = true
def lw_Q (_ : Array Value) (s : State) (o : Outcome) (t : State) : Prop := o = .returned (some (.int 1)) ∧ Framed s o t [] 601024 7293034
def lw_Z (below : List Frame) (a : Array Value) (s : State) : State → Prop := fun t => ∃ o, t.status = .running ∧ Ended t below o ∧ lw_Q a s o t
/-- what holds at the law's entry -/
def lw_At (p : Program) (s : State) (m : MethodId) (meth : Method) (c : Code) (b L : Nat) (xs : Nat → Int32) : Prop :=
  p.tables.exec = Jvm.exec ∧ c.code = code ∧ meth.sig.returnType = ret ∧ c.maxLocals = 7 ∧ s.vm.findClass R_law = some m.cls ∧ (∀ w ∈ lw_tbl, w.before #[Value.ref b] s = true) ∧ va_X b L xs s s.heap ∧ b < s.heap.size ∧ meth.locks = false ∧ (Jvm.Cond.and given_1 narrow_1).before #[Value.ref b] s = true ∧ c.exceptionTable = #[]
/-- from the loop's head on, the objects made -/
theorem oc_end {p : Program} {l : Launch} {e : Env} {s : State} {m : MethodId} {below : List Frame} {meth : Method} {c : Code} {b L : Nat} {xs : Nat → Int32} {D : va_G} {cy : Nat → ClassId} {H : Heap} {locs : List Loc} {ls : Array Slot} {C S : Nat} (hL : L ≤ 2560) (htr : ∀ e : Env, l.admits e → e.platform.stackTraces = false) (C0 : lw_At p s m meth c b L xs) (hK : va_K D ox_cl (ox_tys cy) s) (hP : va_P D ox_cl (ox_ws (oc_ad b s.heap.size) cy (oc_z xs)) H) (hS : va_S (fun q => s.heap.size ≤ q) s.heap H locs) (hl : lv_has ls 7 [(4, .int 0), (3, .ref (oc_ad b s.heap.size 8)), (2, .ref (oc_ad b s.heap.size 7)), (1, .ref (oc_ad b s.heap.size 0)), (0, .ref b)]) (hC : C ≤ 1000) (hSl : S ≤ 200000) :
    W p l e room_1 s m #[Value.ref b] below meth c H locs C S (lw_Z below #[Value.ref b] s) (F0 m 23 ls []) := by
  obtain ⟨hx, hb, hr, hml, hown, hts, hX, hbl, hlocks, hgv, hex⟩ := C0
  have hap : ox_ap (oc_ad b s.heap.size) := oc_adap hbl
  have hge : ∀ o, o < 174 → s.heap.size ≤ oc_ad b s.heap.size o := fun o ho => by rw [oc_adE ho]; exact Nat.le_add_right _ _
  obtain ⟨o, σ', c', w', ho, n, hn⟩ := ol_loop hL 512 0 C S (oc_z xs) none none (by omega) (by omega) (by omega) (by omega) (oc_first xs)
  subst ho
  have hCx : ox_C p s m #[Value.ref b] meth c 114 D (oc_ad b s.heap.size) cy L xs := ⟨by decide, hx, hb, hml, hown, fun w hw => hts w (List.mem_filter.mp hw).1, hr, hlocks, hK, hap, hX, hbl⟩
  have hSx : va_S (ox_A (oc_ad b s.heap.size) s.heap.size) s.heap H locs := ⟨hS.1, fun q h1 h2 => hS.2.1 q h1 (fun h => h2 (Or.inr h)), fun q hq => Or.inr (hS.2.2 q hq)⟩
  have hLx : ox_L (oc_ad b s.heap.size) ls (ox_mL 114) [some (.ref 174), some (.ref 0), some (.ref 7), some (.ref 8), some (.int (nI 0)), none, none] := by
    refine ⟨rfl, hl.1, hl.2.1, fun i v hv => ?_⟩
    match i, hv with
    | 0, hv => cases hv; exact lv_at hl 4 rfl
    | 1, hv => cases hv; exact lv_at hl 3 rfl
    | 2, hv => cases hv; exact lv_at hl 2 rfl
    | 3, hv => cases hv; exact lv_at hl 1 rfl
    | 4, hv => cases hv; exact lv_at hl 0 rfl
    | 5, hv => cases hv
    | 6, hv => cases hv
    | i + 7, hv => cases hv
  have K := ox_snd (l := l) (D := D) (cy := cy) (L := L) (xs := xs) hap htr n 10 114 23 _ [] (oc_z xs) C S _ (hn n (Nat.le_refl n)) (by decide) (show C ≤ 601024 by omega) (show S ≤ 7293034 by omega) p e s m #[Value.ref b] below meth c hCx (oc_Z hts hgv hge) (by rw [hex]; rfl) H locs ls hP hSx hLx rfl
  intro T hT X
  obtain ⟨t, a1, o, b1, b2, b3, ⟨Lc, b4, b5⟩, -, -, -, b6, b7, b8⟩ := K T hT X
  have b8 : o = .returned (some (.int 1)) := b8
  refine ⟨t, a1, o, b1, b2, b8, ⟨_, b8⟩, b3, ?_⟩
  refine State.sameButNew.mono (State.sameButNew.drop_fresh (L := []) (J := Lc) b4 (fun q hq => ?_)) b6 b7
  rcases b5 q hq with ⟨o9, h1, h2⟩ | h
  · rw [h2]; exact hge o9 h1
  · exact h
theorem oc_wN : ∀ j, j < 7 → Cond.instantiable (ox_R j) (ox_fn j) ∈ lw_tbl := by decide +kernel
theorem oc_wA : Cond.arrayOver (.array .int) ∈ lw_tbl := List.mem_of_getElem? (i := 69) (by decide +kernel)
/-- the classes and array classes of the start -/
theorem oc_K {s : State} {b : Nat} (hts : ∀ w ∈ lw_tbl, w.before #[Value.ref b] s = true) : ∃ (D : va_G) (cy : Nat → ClassId), va_K D ox_cl (ox_tys cy) s := by
  have htg : ∀ w ∈ ox_gw, w.before #[Value.ref b] s = true := fun w hw => hts w (List.mem_filter.mp hw).1
  have hk : ∀ j, ∃ q : ClassId × (Nat → Nat), j < 7 → u_Kn s (ox_R j) (ox_T j) (ox_fn j) q.1 q.2 := fun j => by
    by_cases h : j < 7
    · obtain ⟨cC, iS, h9⟩ := u_known (C := ox_R j) (T := ox_T j) (N := ox_fn j) (n := ox_fn j) htg (ox_inT j h) (hts _ (oc_wN j h))
      exact ⟨(cC, iS), fun _ => h9⟩
    · exact ⟨(0, fun _ => 0), fun h9 => absurd h9 h⟩
  obtain ⟨c0, k0, m0, f0, g0, e0⟩ := Cond.arrayClass_spec (htg _ oc_wI)
  obtain ⟨c1, k1, m1, f1, g1, e1⟩ := Cond.arrayClass_spec (htg _ oc_wZ)
  obtain ⟨m2, c2, k2, -, -, g2, e2, f2⟩ := arrayOverA_spec (hts _ oc_wA)
  obtain ⟨c3, k3, m3, f3, g3, e3⟩ := Cond.arrayClass_spec (htg _ oc_wJ)
  refine ⟨(fun j => (Classical.choose (hk j)).1, fun j => (Classical.choose (hk j)).2), fun t => match t with | 0 => c0 | 1 => c1 | 2 => c2 | _ => c3, fun j q hq => ?_, fun k q hq => ?_⟩
  · have hj : j < 7 := (List.getElem?_eq_some_iff.mp hq).1
    cases (ox_clT j hj).symm.trans hq
    exact Classical.choose_spec (hk j) hj
  · match k, hq with
    | 0, hq => cases hq; exact ⟨fun n z => ⟨fun k h => (by cases h), k0, g0, m0, e0⟩, f0⟩
    | 1, hq => cases hq; exact ⟨fun n z => ⟨fun k h => (by cases h), k1, g1, m1, e1⟩, f1⟩
    | 2, hq => cases hq; exact ⟨fun n z => ⟨fun k h => (by cases h), k2, g2, m2, e2⟩, f2⟩
    | 3, hq => cases hq; exact ⟨fun n z => ⟨fun k h => (by cases h), k3, g3, m3, e3⟩, f3⟩
    | k + 4, hq => cases hq
set_option maxRecDepth 100000 in
set_option maxHeartbeats 4000000 in
/-- THE LAW, from its entry -/
theorem whole_start {p : Program} {e : Env} {s : State} {m : MethodId} {below : List Frame} {meth : Method} {c : Code} (l : Launch) (hfl : l.flags = flags0) {b L : Nat} {xs : Nat → Int32} (hL : L ≤ 2560) (C0 : lw_At p s m meth c b L xs) : W p l e room_1 s m #[Value.ref b] below meth c s.heap [] 0 0 (lw_Z below #[Value.ref b] s) (entryFrame m ([Value.ref b] : List Value).toArray 7) := by
  have htr : ∀ e : Env, l.admits e → e.platform.stackTraces = false := fun e he => Launch.traces_off hfl he
  obtain ⟨hx, hb, hr, hml, hown, hts, hX, hbl, hlocks, hgv, hex⟩ := id C0
  have htg : ∀ w ∈ ox_gw, w.before #[Value.ref b] s = true := fun w hw => hts w (List.mem_filter.mp hw).1
  obtain ⟨D, cy, hK⟩ := oc_K hts
  have hAO : oc_AO s := hts _ oc_wA
  have hNA : oc_NA s := fun q hq => hts _ (oc_e5 q hq)
  have I : oc_I D (fun q : Nat => s.heap.size ≤ q) [] s.heap s.heap [] s.heap.size := ⟨fun k q h => by simp at h, ⟨fun i j p q h => by simp at h, fun k q h => by simp at h⟩, va_S.rf, rfl, fun _ h => h⟩
  have hl := lv_entry ([.ref b]) (n := 7) (Nat.le_of_ble_eq_true rfl)
  rw [lg_entry_eq]
  generalize (lg_sl ([.ref b]) ++ List.replicate (7 - (lg_sl ([.ref b])).length) Slot.unset).toArray = ls at hl ⊢
  have hl : lv_has ls 7 [(0, .ref b)] := hl
  generalize hz : s.heap.size = sz at I
  have had : ∀ o, o < 174 → oc_ad b s.heap.size o = sz + oc_off o := fun o ho => by rw [oc_adE ho, hz]
  generalize hade : oc_ad b s.heap.size = ad at had
  have hr9 : ∀ (a n N z : Nat), (∀ i, i < N → oc_off (a + i) = n + i) → a + N ≤ 174 → z = sz + n → ∀ i, i < N → ad (a + i) = z + i := fun a n N z g hN hz i hi => by rw [had (a + i) (by omega), g i hi]; omega
  refine oc_nw (j := 5) (own := R_law) (index := 8) hx hb (by decide) htg hown (htg _ (ox_mem 54 (by decide +kernel) (by decide +kernel))) (htg _ (ox_mem 55 (by decide +kernel) (by decide +kernel))) (htg _ (ox_mem 39 (by decide +kernel) (by decide +kernel))) hK I (fs := [.null, .null, .null, .null, .null, .null]) (by decide +kernel) (Nat.le_of_ble_eq_true rfl) (Nat.le_of_ble_eq_true rfl) (q := ad 0) (had 0 (by decide)) (by decide +kernel) (fun H1 I => ?_)
  refine lv_dup hx hb (by decide +kernel) rfl ?_
  refine oc_cm (own := R_law) (index := 64) (nL := 7) ⟨hx, hb, hml, hown, htg⟩ (fun w h => h) (oc_Main (xs := xs) (ad := ad) rfl (had 1 (by decide)) (hr9 9 2 13 _ oc_g0 (by decide) rfl) (had 2 (by decide)) (hr9 22 16 4 _ oc_g1 (by decide) rfl) (had 3 (by decide)) (hr9 28 21 15 _ oc_g2 (by decide) rfl) (had 4 (by decide)) (hr9 68 37 53 _ oc_g3 (by decide) rfl) (had 5 (by decide)) (hr9 121 91 53 _ oc_g4 (by decide) rfl) (had 6 (by decide)) (hr9 26 145 2 _ oc_g5 (by decide) rfl)) (ox_mem 58 (by decide +kernel) (by decide +kernel)) rfl rfl (ox_mem 39 (by decide +kernel) (by decide +kernel)) (htg _ (ox_mem 56 (by decide +kernel) (by decide +kernel))) (ox_mem 57 (by decide +kernel) (by decide +kernel)) rfl (by decide +kernel) ⟨Nat.le_of_ble_eq_true rfl, Nat.le_of_ble_eq_true rfl⟩ hK hAO hNA I hl.1 (by simp [Value.category]) (by decide +kernel) ⟨Nat.le_of_ble_eq_true rfl, Nat.le_of_ble_eq_true rfl⟩ (fun H1 locs1 I => ?_)
  refine lv_astore_n (lv' := [(1, .ref (ad 0)), (0, .ref b)]) hx hb (by decide +kernel : decode code 7 = .ok (.astore_n 1, 1)) rfl hl (by decide) rfl (fun ls hl => ?_)
  refine oc_nw (j := 6) (own := R_law) (index := 65) hx hb (by decide) htg hown (htg _ (ox_mem 695 (by decide +kernel) (by decide +kernel))) (htg _ (ox_mem 696 (by decide +kernel) (by decide +kernel))) (htg _ (ox_mem 45 (by decide +kernel) (by decide +kernel))) hK I (fs := [.int 0, .int 0, .int 0, .null, .null, .null, .null, .null, .int 0, .null, .null, .null, .int 0, .null, .null, .null, .null, .null, .null, .null, .int 0, .int 0, .int 0, .int 0, .null, .null, .null, .null, .null, .int 0, .int 0, .int 0, .int 0, .null, .null, .null, .null, .null]) (by decide +kernel) (Nat.le_of_ble_eq_true rfl) (Nat.le_of_ble_eq_true rfl) (q := ad 7) (had 7 (by decide)) (by decide +kernel) (fun H1 I => ?_)
  refine lv_dup hx hb (by decide +kernel) rfl ?_
  refine oc_ci (own := R_law) (index := 67) (nL := 7) ⟨hx, hb, hml, hown, htg⟩ (fun w h => h) (oc_Ref (xs := xs) (ad := ad) rfl (hr9 43 148 25 _ oc_g6 (by decide) rfl)) (ox_mem 699 (by decide +kernel) (by decide +kernel)) rfl rfl (ox_mem 45 (by decide +kernel) (by decide +kernel)) (htg _ (ox_mem 697 (by decide +kernel) (by decide +kernel))) (ox_mem 698 (by decide +kernel) (by decide +kernel)) rfl (by decide +kernel) ⟨Nat.le_of_ble_eq_true rfl, Nat.le_of_ble_eq_true rfl⟩ hK hAO I hl.1 (by simp [Value.category]) (by decide +kernel) ⟨Nat.le_of_ble_eq_true rfl, Nat.le_of_ble_eq_true rfl⟩ (fun H1 locs1 I => ?_)
  refine lv_astore_n (lv' := [(2, .ref (ad 7)), (1, .ref (ad 0)), (0, .ref b)]) hx hb (by decide +kernel : decode code 15 = .ok (.astore_n 2, 1)) rfl hl (by decide) rfl (fun ls hl => ?_)
  refine lv_iconst (v := 1) hx hb (by decide +kernel : decode code 16 = .ok (.iconst 1, 1)) (by decide) ?_
  refine oc_na (atype := .long) (ty := .long) (cyt := cy 3) hx hb rfl (htg _ oc_wJ) hK 3 rfl I (N' := 1) (a0 := (1, .inr (.inl (fun i => (oc_z xs 8 i).toInt64)))) (fun cA => rfl) (by decide) (by decide) (by decide) (Nat.le_of_ble_eq_true rfl) (Nat.le_of_ble_eq_true rfl) (q := ad 8) (had 8 (by decide)) (by decide +kernel) (fun H1 I => ?_)
  refine lv_astore_n (lv' := [(3, .ref (ad 8)), (2, .ref (ad 7)), (1, .ref (ad 0)), (0, .ref b)]) hx hb (by decide +kernel : decode code 19 = .ok (.astore_n 3, 1)) rfl hl (by decide) rfl (fun ls hl => ?_)
  refine lv_iconst (v := 0) hx hb (by decide +kernel : decode code 20 = .ok (.iconst 0, 1)) (by decide) ?_
  refine lv_istore (lv' := [(4, .int 0), (3, .ref (ad 8)), (2, .ref (ad 7)), (1, .ref (ad 0)), (0, .ref b)]) hx hb (by decide +kernel : decode code 21 = .ok (.istore 4, 2)) hl (by decide) rfl (fun ls hl => ?_)
  have hP : va_P D ox_cl (ox_ws ad cy (oc_z xs)) H1 := oc_world I.1
  have hS := I.2.2.1
  subst hz
  subst hade
  exact oc_end hL htr C0 hK hP hS hl (by decide) (by decide)
