section OX6
variable {p : Program} {l : Launch} {e : Env} {R : Room} {s : State} {m : MethodId} {args : Array Value} {below : List Frame} {meth : Method} {cd : Code} {H : Heap} {locs : List Loc} {c w : Nat} {Q Q' : State → Prop} {g : JFrame}
variable {D : va_G} {ad : Nat → Nat} {cy : Nat → ClassId} {L : Nat} {xs : Nat → Int32} {Zp : State → Prop} {k mi pc : Nat} {σ : ox_S} {lsr : Array Slot}
theorem ox_mono (h : ∀ t, Q t → Q' t) (k : W p l e R s m args below meth cd H locs c w Q g) : W p l e R s m args below meth cd H locs c w Q' g := fun T hT X => by
  obtain ⟨t, a, b⟩ := k T hT X
  exact ⟨t, a, h t b⟩
theorem ox_retI {v : Int32} {ty : FieldType} (C : ox_C p s m args meth cd mi D ad cy L xs) (hP : va_P D ox_cl (ox_ws ad cy σ) H) (hS : va_S (ox_A ad s.heap.size) s.heap H locs) (hσ : σ 174 = xs) (hc : c ≤ ox_rc k) (hw : w ≤ ox_rs k) (hd : decode (ox_b mi) pc = .ok (.ireturn, 1)) (ht : ox_rt mi = some ty) (hn : narrow ty (.int v) = .int v) :
    W p l e R s m args below meth cd H locs c w (ox_E below D ad cy xs k (.inl (some (.int v)), σ, c, w) s) (F0 m pc lsr [.int v]) := by
  obtain ⟨hmi, hx, hb, hml, hown, hts, hr, hlocks, hK, hap, hX, hbl⟩ := C
  refine ox_mono ?_ (W.zret (Qc := fun _ st o t => o = .returned (some (.int v)) ∧ t.heap = H) (free := ox_A ad s.heap.size) hx hb (by rw [hr, ht]) hn (fun t ht hW => ⟨rfl, ht⟩) hS.2.2 hd hlocks)
  rintro t ⟨o, h1, h2, ⟨rfl, hh⟩, Lc, hFE, hL⟩
  exact ⟨_, h1, h2, hFE.2.1, ⟨Lc, hFE.2.2, hL⟩, by rw [hh]; exact hP, hσ, hS.F hh, hc, hw, rfl⟩
theorem ox_retV (C : ox_C p s m args meth cd mi D ad cy L xs) (hP : va_P D ox_cl (ox_ws ad cy σ) H) (hS : va_S (ox_A ad s.heap.size) s.heap H locs) (hσ : σ 174 = xs) (hc : c ≤ ox_rc k) (hw : w ≤ ox_rs k) (hd : decode (ox_b mi) pc = .ok (.return_, 1)) (ht : ox_rt mi = none) :
    W p l e R s m args below meth cd H locs c w (ox_E below D ad cy xs k (.inl none, σ, c, w) s) (F0 m pc lsr []) := by
  obtain ⟨hmi, hx, hb, hml, hown, hts, hr, hlocks, hK, hap, hX, hbl⟩ := C
  refine ox_mono ?_ (W.vret (Qc := fun _ st o t => o = .returned none ∧ t.heap = H) (free := ox_A ad s.heap.size) hx hb (by rw [hr, ht]) (fun t ht hW => ⟨rfl, ht⟩) hS.2.2 hd hlocks)
  rintro t ⟨o, h1, h2, ⟨rfl, hh⟩, Lc, hFE, hL⟩
  exact ⟨_, h1, h2, hFE.2.1, ⟨Lc, hFE.2.2, hL⟩, by rw [hh]; exact hP, hσ, hS.F hh, hc, hw, rfl⟩
/-- what is still to be shown of a throw -/
def ox_HT (l : Launch) (D : va_G) (ad : Nat → Nat) (cy : Nat → ClassId) (L : Nat) (xs : Nat → Int32) (Zp : State → Prop) : Prop :=
  ∀ (k mi pc i x b : Nat) (ls : List (Option Value)) (σ : ox_S) (c w : Nat) (p : Program) (e : Env) (s : State) (m : MethodId) (args : Array Value) (below : List Frame) (meth : Method) (cd : Code) (H : Heap) (locs : List Loc) (lsr : Array Slot),
    ox_C p s m args meth cd mi D ad cy L xs → Zp s → cd.exceptionTable.toList.map (fun x => (x.startPc, x.endPc, x.handlerPc, x.catchType)) = ox_hh mi → ox_I mi pc = some (.new i, 3, x, b) → x < 3 → 5 < k → c < ox_rc k → w + 6 ≤ ox_rs k →
    va_P D ox_cl (ox_ws ad cy σ) H → va_S (ox_A ad s.heap.size) s.heap H locs → ox_L ad lsr (ox_mL mi) ls → σ 174 = xs →
    W p l e (ox_rm k) s m args below meth cd H locs c w (ox_E below D ad cy xs k (.inr x, σ, c + 1, w + 6) s) (F0 m pc lsr [])
/-- what is still to be shown of a catch -/
def ox_HC (l : Launch) (D : va_G) (ad : Nat → Nat) (cy : Nat → ClassId) (L : Nat) (xs : Nat → Int32) (Zp : State → Prop) : Prop :=
  ∀ (k mi pc x h j : Nat) (ls : List (Option Value)) (rest : List Value) (c w : Nat) (p : Program) (e : Env) (s : State) (m : MethodId) (args : Array Value) (below : List Frame) (meth : Method) (cd : Code) (T' : State) (locs : List Loc) (lsr : Array Slot) (a : Addr) (Q : State → Prop),
    ox_C p s m args meth cd mi D ad cy L xs → Zp s → cd.exceptionTable.toList.map (fun x => (x.startPc, x.endPc, x.handlerPc, x.catchType)) = ox_hh mi → ox_hd mi pc x = some (h, j) → ox_nl ls j = true → j < ls.length → Stand p l e (ox_rm k) s m args below meth cd T' locs c w → ox_Xc x a T' → ox_L ad lsr (ox_mL mi) ls →
    (∀ lsr', ox_L ad lsr' (ox_mL mi) (ls.set j none) → W p l e (ox_rm k) s m args below meth cd T'.heap locs c w Q (F0 m h lsr' [])) → ∃ t, Steps p.tables e below ((T'.setTop (F0 m pc lsr rest)).pushFrame (.throwing a)) t ∧ Q t
theorem ox_kown : ∀ i, i < 115 → ox_sta i = false → ox_ow i < 7 := by decide +kernel
theorem ox_catsum (ad : Nat → Nat) (r : List Value) : ((r.map (ox_cv ad)).map fun v => v.category).sum = (r.map Value.category).sum := by
  rw [List.map_map]
  congr 1
  exact List.map_congr_left (fun v _ => ox_cv_cat ad v)
/-- the link of an invokevirtual -/
theorem ox_mlV {j pc i len a b : Nat} (h : ox_lnk j pc (.invokevirtual i, len, a, b) = true) : a < 114 ∧ Cond.methodLink (ox_R j) i (ox_nm a) ∈ ox_gw ∧ (parseMethodDescriptor (ox_nm a).desc).map (fun d => d.parameters.length) = some (b - 1) ∧ ox_sta a = false := by
  unfold ox_lnk at h
  dsimp only at h
  obtain ⟨q, hq, h⟩ := List.any_eq_true.mp h
  simp only [Bool.and_eq_true, beq_iff_eq, Bool.not_eq_true'] at h
  obtain ⟨⟨⟨⟨rfl, rfl⟩, rfl⟩, rfl⟩, h5⟩ := h
  obtain ⟨h1, h2, h3, h4⟩ := ox_MLok q hq
  rw [h5] at h3
  exact ⟨h2, ox_mem _ h1 rfl, h3, h5⟩
theorem ox_fV {o i a : Nat} {as rest : List Value} (C : ox_C p s m args meth cd mi D ad cy L xs) (hP : va_P D ox_cl (ox_ws ad cy σ) H) (ho : o < 174) (hko : ox_k o = ox_ow a) (hi : a < 114) (hst0 : ox_sta a = false) (hlink : Cond.methodLink (ox_R (ox_ow mi)) i (ox_nm a) ∈ ox_gw)
    (hlen : (parseMethodDescriptor (ox_nm a).desc).map (fun d => d.parameters.length) = some as.length) (hsz : lsr.size = cd.maxLocals) (hd : decode (ox_b mi) pc = .ok (.invokevirtual i, 3)) (T : State) (hT : T.heap = H) (X : Stand p l e R s m args below meth cd T locs c w) :
    ∃ (vm₁ : Vm) (mk : MethodId), Stand p l e R s m args below meth cd (T.setVm vm₁) locs c w ∧ s.methodNamed? (ox_nm a) = some mk ∧
      ∀ target, (∀ acts, Steps p.tables e below (doInvoke e ((T.setVm vm₁).setTop (F0 m pc lsr rest)) acts mk ((Value.ref o :: as).map (ox_cv ad)).toArray).1 target) → Steps p.tables e below (T.setTop (F0 m pc lsr ((as.map (ox_cv ad)).reverse ++ .ref (ad o) :: rest))) target := by
  obtain ⟨hmi, hx, hb, hml, hown, hts, hr, hlocks, hK, hap, hX, hbl⟩ := C
  obtain ⟨hcls, how, -, -, hy⟩ := ox_w4 a (by omega)
  obtain ⟨w1, w2⟩ := (ox_w3 a hi).2 hst0
  have hinst := hts _ (ox_mem _ w1 rfl)
  have hsel := hts _ (ox_mem _ w2 rfl)
  obtain ⟨mk, methM, hnamed, hmethM, hstM, habM⟩ := Cond.instanceMethod_spec hinst
  obtain ⟨mk', methY, cY, hn', h1, h2, h3, h4, h5, h6, h7, h8⟩ := ox_code (hts _ (ox_cwG hi))
  cases hnamed.symm.trans hn'
  cases hmethM.symm.trans h1
  have hk7 : ox_k o < 7 := by
    have := ox_kown a (by omega) hst0
    omega
  obtain ⟨cellB, hcB, hoB, hclB⟩ := va_recv hK hP (ox_clT _ hk7) (by rw [ox_ws_get ho, ox_enF hk7])
  dsimp only at hclB
  rw [hko, ← hcls] at hclB
  obtain ⟨c2, r2, m2, q1, q2, q3, q4, kP, hkP, hkPi⟩ := Cond.selects_spec hsel
  cases hclB.symm.trans q1
  cases (State.methodFound?_of_named hnamed hy).symm.trans q2
  cases hnamed.symm.trans q3
  have hselP : selectMethod e.platform s.vm cellB.cls mk = .method mk := by rw [Launch.admits_selectMethod X.admits]; exact q4
  obtain ⟨vm₁, X₁, hstep₁⟩ := X.invokevirtual hx hown (hts _ hlink) hnamed hmethM hstM hkP hkPi hy (a := ad o) (cell := cellB) (by rw [hT]; exact hcB)
    (fun z h => by rw [h] at hoB; cases hoB) hselP hmethM habM hkP hkPi (g := F0 m pc lsr ((as.map (ox_cv ad)).reverse ++ .ref (ad o) :: rest)) rfl (argsL := as.map (ox_cv ad)) (rest := rest) (by rw [h7] at hlen; simpa using hlen.symm) rfl (by rw [hb]; exact hd)
  exact ⟨vm₁, mk, X₁, hnamed, fun target h => hstep₁ target h⟩
/-- the link of an invokestatic of our own -/
theorem ox_mlS {j pc i len a b : Nat} (h : ox_lnk j pc (.invokestatic i, len, a, b) = true) (ha : Nat.beq a 901 = false) : a < 114 ∧ (Cond.methodLink (ox_R j) i (ox_nm a) ∈ ox_gw ∨ ∃ q ∈ ox_NL, q.1 = j ∧ q.2.1 = i ∧ q.2.2.1 = a) ∧ (parseMethodDescriptor (ox_nm a).desc).map (fun d => d.parameters.length) = some b ∧ ox_sta a = true := by
  unfold ox_lnk at h
  dsimp only at h
  rw [Bool.or_eq_true, Bool.or_eq_true] at h
  rcases h with (h | h) | h
  · obtain ⟨q, hq, h⟩ := List.any_eq_true.mp h
    simp only [Bool.and_eq_true, beq_iff_eq] at h
    obtain ⟨⟨⟨⟨rfl, rfl⟩, rfl⟩, rfl⟩, h5⟩ := h
    obtain ⟨h1, h2, h3, h4⟩ := ox_MLok q hq
    rw [h5] at h3
    exact ⟨h2, Or.inl (ox_mem _ h1 rfl), h3, h5⟩
  · obtain ⟨q, hq, h⟩ := List.any_eq_true.mp h
    simp only [Bool.and_eq_true, beq_iff_eq] at h
    obtain ⟨⟨⟨rfl, rfl⟩, rfl⟩, rfl⟩ := h
    obtain ⟨h1, h2, h3, h4⟩ := ox_NLok q hq
    exact ⟨h2, Or.inr ⟨q, hq, rfl, rfl, rfl⟩, h3, h4⟩
  · rw [Bool.and_eq_true, beq_iff_eq] at h
    rw [h.1] at ha
    cases ha
theorem ox_fS {i a : Nat} {as rest : List Value} (hZ : ox_HZ D ad cy Zp) (C : ox_C p s m args meth cd mi D ad cy L xs) (hz : Zp s) (hi : a < 114) (hst0 : ox_sta a = true) (hlink : Cond.methodLink (ox_R (ox_ow mi)) i (ox_nm a) ∈ ox_gw ∨ ∃ q ∈ ox_NL, q.1 = ox_ow mi ∧ q.2.1 = i ∧ q.2.2.1 = a)
    (hlen : (parseMethodDescriptor (ox_nm a).desc).map (fun d => d.parameters.length) = some as.length) (hd : decode (ox_b mi) pc = .ok (.invokestatic i, 3)) (T : State) (X : Stand p l e R s m args below meth cd T locs c w) :
    ∃ (vm₁ : Vm) (mk : MethodId), Stand p l e R s m args below meth cd (T.setVm vm₁) locs c w ∧ s.methodNamed? (ox_nm a) = some mk ∧
      ∀ target, (∀ acts, Steps p.tables e below (doInvoke e ((T.setVm vm₁).setTop (F0 m pc lsr rest)) acts mk (as.map (ox_cv ad)).toArray).1 target) → Steps p.tables e below (T.setTop (F0 m pc lsr ((as.map (ox_cv ad)).reverse ++ rest))) target := by
  obtain ⟨hmi, hx, hb, hml, hown, hts, hr, hlocks, hK, hap, hX, hbl⟩ := C
  obtain ⟨hcls, how, -, -, hy⟩ := ox_w4 a (by omega)
  have hstat := hts _ (ox_mem _ ((ox_w3 a hi).1 hst0) rfl)
  have hini : (Cond.initialized (ox_nm a).cls).before args s = true := by
    rw [hcls]
    exact hts _ (ox_mem _ (ox_w2 _ how) rfl)
  obtain ⟨mk, methM, cY, hnamed, hmethM, h2, h3, h4, h5, h6, h7, h8⟩ := ox_code (hts _ (ox_cwG hi))
  have hstatic : methM.isStatic = true := Cond.static_spec hnamed hmethM hstat
  obtain ⟨kP, hkP, -⟩ := className_of_methodNamed hnamed
  have hinitP : kP.init = .initialized := Cond.initialized_spec (findClass_of_methodNamed hnamed) hkP hini
  rcases hlink with hlink | ⟨q, hq, e1, e2, e3⟩
  · obtain ⟨vm₁, X₁, hstep₁⟩ := X.invokestatic hx hown (hts _ hlink) hnamed hmethM hstatic hkP hinitP hy (g := F0 m pc lsr ((as.map (ox_cv ad)).reverse ++ rest)) rfl (argsL := as.map (ox_cv ad)) (rest := rest) (by rw [h7] at hlen; simpa using hlen.symm) rfl (by rw [hb]; exact hd)
    exact ⟨vm₁, mk, X₁, hnamed, fun target h => hstep₁ target h⟩
  · have hl2 : (Cond.methodLinkNest (ox_R (ox_ow mi)) i (ox_nm a) "OrderAxioms").before args s = true := by
      have h9 := va_Nw.use (A := args) rfl (hZ.2 s hz q hq)
      rw [e1, e2, e3] at h9
      exact h9
    obtain ⟨vm₁, X₁, hstep₁⟩ := X.invokestaticNest hx hown hl2 hnamed hmethM hstatic hkP hinitP hy (g := F0 m pc lsr ((as.map (ox_cv ad)).reverse ++ rest)) rfl (argsL := as.map (ox_cv ad)) (rest := rest) (by rw [h7] at hlen; simpa using hlen.symm) rfl (by rw [hb]; exact hd)
    exact ⟨vm₁, mk, X₁, hnamed, fun target h => hstep₁ target h⟩
end OX6
section OX7
variable {l : Launch} {D : va_G} {ad : Nat → Nat} {cy : Nat → ClassId} {L : Nat} {xs : Nat → Int32} {Zp : State → Prop}
set_option maxHeartbeats 4000000 in
set_option maxRecDepth 100000 in
theorem ox_sound (hap : ox_ap ad) (hZ : ox_HZ D ad cy Zp) (hT : ox_HT l D ad cy L xs Zp) (hC : ox_HC l D ad cy L xs Zp) : ∀ n, ox_So l D ad cy L xs Zp n := by
  intro n
  induction n with
  | zero => intro k mi pc ls st σ c w out h; cases h
  | succ n ih =>
    intro k mi pc ls st σ c w out h hk hc hw p e s m args below meth cd C hz hex H locs lsr hP hS hl hσ
    have h : ox_F L (ox_x L n) k mi pc ls st σ c w = some out := h
    unfold ox_F at h
    cases hI : ox_I mi pc with
    | none => rw [hI] at h; cases h
    | some en =>
      rw [hI] at h
      simp only at h
      cases hs : ox_s1 L pc en ls st σ with
      | some q =>
        rw [hs] at h
        obtain ⟨pc', ls', st', σ'⟩ := q
        exact ox_snd1 (R := ox_rm k) hk (by show 21 ≤ 40 + 31 * k; omega) hc hw C hI hs hP hS hl hσ (fun H locs lsr hP hS hl hσ => ih k mi pc' ls' st' σ' c w out h hk hc hw p e s m args below meth cd C hz hex H locs lsr hP hS hl hσ)
      | none =>
        rw [hs] at h
        simp only at h
        obtain ⟨hd, hck⟩ := ox_I1 mi C.1 pc en hI
        obtain ⟨ei, len, a, b⟩ := en
        unfold ox_chk at hck
        rw [Bool.and_eq_true] at hck
        obtain ⟨hck, hn⟩ := hck
        have hml : cd.maxLocals = ox_mL mi := C.2.2.2.1
        have hb : cd.code = ox_b mi := C.2.2.1
        have hx := C.2.1
        have hown := C.2.2.2.2.1
        have hts := C.2.2.2.2.2.1
        cases ei with
        | ireturn =>
          obtain rfl : len = 1 := eq_of_beq hn
          dsimp only at h
          split at h
          · rename_i v
            split at h
            · rename_i ty ht
              split at h
              · rename_i hnw
                obtain rfl := Option.some.inj h
                exact ox_retI C hP hS hσ hc hw hd ht hnw
              · cases h
            · cases h
          · cases h
        | return_ =>
          obtain rfl : len = 1 := eq_of_beq hn
          dsimp only at h
          split at h
          · split at h
            · rename_i ht
              obtain rfl := Option.some.inj h
              exact ox_retV C hP hS hσ hc hw hd ht
            · cases h
          · cases h
        | new i =>
          obtain rfl : len = 3 := eq_of_beq hn
          cases st with
          | cons v r => cases h
          | nil =>
          dsimp only at h
          cases hg : (Nat.blt a 3 && Nat.blt 5 k && Nat.blt c (ox_rc k) && Nat.ble (w + 6) (ox_rs k)) with
          | false => rw [hg] at h; cases h
          | true =>
            rw [hg] at h
            obtain rfl := Option.some.inj h
            simp only [Bool.and_eq_true] at hg
            exact hT k mi pc i a b ls σ c w p e s m args below meth cd H locs lsr C hz hex hI (Nat.le_of_ble_eq_true hg.1.1.1) (Nat.le_of_ble_eq_true hg.1.1.2) (Nat.le_of_ble_eq_true hg.1.2) (Nat.le_of_ble_eq_true hg.2) hP hS hl hσ
        | invokevirtual i =>
          obtain rfl : len = 3 := eq_of_beq hn
          cases k with
          | zero => cases h
          | succ k =>
            dsimp only at h
            cases hg : ox_gd k c w a b st with
            | false => rw [hg] at h; cases h
            | true =>
              rw [hg] at h
              dsimp only [cond_true] at h
              obtain ⟨g0, g1, g2, g3, g4, g5, g6, g7⟩ := ox_gdi hg
              split at h
              · rename_i o as hta
                cases hg2 : (Nat.beq (ox_k o) (ox_ow a) && Nat.blt o 174) with
                | false => rw [hg2] at h; cases h
                | true =>
                  rw [hg2] at h
                  dsimp only [cond_true] at h
                  obtain ⟨hi, hlink, hlen, hst0⟩ := ox_mlV hck
                  rw [Bool.and_eq_true] at hg2
                  have hko : ox_k o = ox_ow a := Nat.eq_of_beq_eq_true hg2.1
                  have ho : o < 174 := Nat.le_of_ble_eq_true hg2.2
                  have hb1 : as.length + 1 = b := by
                    have h9 := congrArg List.length hta
                    simp only [List.length_reverse, List.length_take, List.length_cons] at h9
                    omega
                  have hall : (Value.ref o :: as).all ox_c1 = true := by rw [← hta, List.all_reverse]; exact g4
                  have hstk : st.map (ox_cv ad) = (as.map (ox_cv ad)).reverse ++ .ref (ad o) :: (st.drop b).map (ox_cv ad) := by
                    have h9 : st.take b = (Value.ref o :: as).reverse := by rw [← hta, List.reverse_reverse]
                    conv => lhs; rw [← List.take_append_drop b st, h9]
                    simp [ox_cv]
                  cases hxx : ox_x L n k a 0 (((Value.ref o :: as).map some) ++ List.replicate (ox_mL a - (as.length + 1)) none) [] σ 0 0 with
                  | none => rw [hxx] at h; cases h
                  | some q =>
                    rw [hxx] at h
                    have hM := ox_contract (k := k) (i := a) (as := .ref o :: as) hap ih hxx g1 hi hσ (by simp; omega) hall
                    rw [hstk]
                    refine ox_inv (i := a) (as := .ref o :: as) (rest := (st.drop b).map (ox_cv ad)) hZ C hz hP hS (by rw [hl.2.1, hml]) (ig := .invokevirtual i) (by rw [hb]; exact hd) (by rw [ox_catsum]; exact g7) ?_ hi hM g5 g6 ?_ ?_
                    · intro T hTh X
                      exact ox_fV C hP ho hko hi hst0 hlink (by rw [hlen]; simp; omega) (by rw [hl.2.1, hml]) hd T hTh X
                    · intro v hv H' locs' hP' hS' hσ' hc' hw'
                      obtain ⟨o1, σ', c', w'⟩ := q
                      dsimp only at hv hP' hσ' hc' hw' ⊢
                      subst hv
                      have h9 := ih (k + 1) mi (pc + 3) ls (v.toList ++ st.drop b) σ' (c + c') (w + w') out h hk (by omega) (by omega) p e s m args below meth cd C hz hex H' locs' lsr hP' hS' hl hσ'
                      rw [List.map_append] at h9
                      cases v <;> exact h9
                    · intro x hv T' locs' av hP' hS' hσ' hc' hw' X' hXc
                      obtain ⟨o1, σ', c', w'⟩ := q
                      dsimp only at hv hP' hσ' hc' hw' X' ⊢
                      subst hv
                      dsimp only at h
                      cases hh : ox_hd mi pc x with
                      | none => rw [hh] at h; cases h
                      | some hj =>
                        rw [hh] at h
                        obtain ⟨h1, j⟩ := hj
                        dsimp only at h
                        cases hnj : (ox_nl ls j && Nat.blt j ls.length) with
                        | false => rw [hnj] at h; cases h
                        | true =>
                        rw [hnj] at h
                        rw [Bool.and_eq_true] at hnj
                        exact hC (k + 1) mi pc x h1 j ls _ (c + c') (w + w') p e s m args below meth cd T' locs' lsr av _ C hz hex hh hnj.1 (Nat.le_of_ble_eq_true hnj.2) X' hXc hl (fun lsr' hl' => ih (k + 1) mi h1 (ls.set j none) [] σ' (c + c') (w + w') out h hk (by omega) (by omega) p e s m args below meth cd C hz hex T'.heap locs' lsr' hP' hS' hl' hσ')
              · cases h
        | invokestatic i =>
          obtain rfl : len = 3 := eq_of_beq hn
          cases k with
          | zero => cases h
          | succ k =>
            dsimp only at h
            cases hg : ox_gd k c w a b st with
            | false => rw [hg] at h; cases h
            | true =>
              rw [hg] at h
              dsimp only [cond_true] at h
              obtain ⟨g0, g1, g2, g3, g4, g5, g6, g7⟩ := ox_gdi hg
              cases ha9 : Nat.beq a 901 with
              | true =>
                have ha9 := Nat.eq_of_beq_eq_true ha9
                omega
              | false =>
                obtain ⟨hi, hlink, hlen, hst0⟩ := ox_mlS hck ha9
                have hb1 : ((st.take b).reverse).length = b := by simp only [List.length_reverse, List.length_take]; omega
                have hall : ((st.take b).reverse).all ox_c1 = true := by rw [List.all_reverse]; exact g4
                have hstk : st.map (ox_cv ad) = (((st.take b).reverse).map (ox_cv ad)).reverse ++ (st.drop b).map (ox_cv ad) := by
                  rw [List.map_reverse, List.reverse_reverse, ← List.map_append, List.take_append_drop]
                rw [show ox_mL a - b = ox_mL a - ((st.take b).reverse).length by rw [hb1]] at h
                rw [hstk]
                generalize (st.take b).reverse = as at h hb1 hall hstk ⊢
                cases hxx : ox_x L n k a 0 (as.map some ++ List.replicate (ox_mL a - as.length) none) [] σ 0 0 with
                | none => rw [hxx] at h; cases h
                | some q =>
                  rw [hxx] at h
                  have hM := ox_contract (k := k) (i := a) (as := as) hap ih hxx g1 hi hσ (by omega) hall
                  refine ox_inv (i := a) (as := as) (rest := (st.drop b).map (ox_cv ad)) hZ C hz hP hS (by rw [hl.2.1, hml]) (ig := .invokestatic i) (by rw [hb]; exact hd) (by rw [ox_catsum]; exact g7) ?_ hi hM g5 g6 ?_ ?_
                  · intro T hTh X
                    exact ox_fS hZ C hz hi hst0 hlink (by rw [hlen, hb1]) hd T X
                  · intro v hv H' locs' hP' hS' hσ' hc' hw'
                    obtain ⟨o1, σ', c', w'⟩ := q
                    dsimp only at hv hP' hσ' hc' hw' ⊢
                    subst hv
                    have h9 := ih (k + 1) mi (pc + 3) ls (v.toList ++ st.drop b) σ' (c + c') (w + w') out h hk (by omega) (by omega) p e s m args below meth cd C hz hex H' locs' lsr hP' hS' hl hσ'
                    rw [List.map_append] at h9
                    cases v <;> exact h9
                  · intro x hv T' locs' av hP' hS' hσ' hc' hw' X' hXc
                    obtain ⟨o1, σ', c', w'⟩ := q
                    dsimp only at hv
                    subst hv
                    cases h
        | _ => cases h
end OX7
