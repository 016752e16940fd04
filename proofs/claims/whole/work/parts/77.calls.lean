section OC4
variable {p : Program} {l : Launch} {e : Env} {R : Room} {s : State} {m : MethodId} {args : Array Value} {below : List Frame} {meth : Method} {c : Code} {H H0 : Heap} {locs : List Loc} {cells slots : Nat} {Q : State → Prop}
variable {cc : ByteArray} {pc : Nat} {ls : Array Slot} {rest : List Value} {D : va_G} {A : Nat → Prop} {cy : Nat → ClassId} {ws : va_W} {z : Nat}
/-- behind a constructor's run -/
theorem oc_cj {q j : Nat} {fs : List Value} {z1 : Nat} {w1 : va_W} {mc ms : Nat} {st0 : List Value} {a : Array Value} (hr : va_Run p l e R s m args below meth c H locs cells slots mc ms (F0 m pc ls st0) rest (oc_Qc D q j fs z z1 w1 a) (va_A [(q, .inr (j, fs))] z)) (I : oc_I D A (ws ++ [(q, .inr (j, fs))]) H0 H locs z)
    (kk : ∀ (H1 : Heap) (locs1 : List Loc), oc_I D A (ws ++ w1) H0 H1 locs1 z1 → W p l e R s m args below meth c H1 locs1 (cells + mc) (slots + ms) Q (F0 m (pc + 3) ls rest)) : W p l e R s m args below meth c H locs cells slots Q (F0 m pc ls st0) := by
  obtain ⟨hP, hD, hS, hz, hA⟩ := I
  have hlast : (ws ++ [((q, .inr (j, fs)) : Nat × va_E)])[ws.length]? = some (q, .inr (j, fs)) := by simp
  have hF : ∀ x, va_A [((q, .inr (j, fs)) : Nat × va_E)] z x → A x := fun x h => by
    rcases h with ⟨k, e, h⟩ | h
    · have h0 : k < 1 := (List.getElem?_eq_some_iff.mp h).1
      rw [show k = 0 by omega] at h
      cases h
      exact hD.2 _ _ hlast
    · exact hA x (Nat.le_trans hS.1 (by rw [hz]; exact h))
  refine va_callv hr hS (fun x _ h => hF x h) hF (fun u t H1 locs1 ht hvm _ hB hz1 hk1 hS1 => ?_)
  obtain ⟨hB0, hB1, hB2⟩ := hB
  rw [ht] at hB0 hB1
  have hws : ∀ (k : Nat) (x : Nat × va_E), ws[k]? = some x → x.1 < H.size ∧ ¬ va_A [((q, .inr (j, fs)) : Nat × va_E)] z x.1 := fun k x hx => by
    have hlt : k < ws.length := (List.getElem?_eq_some_iff.mp hx).1
    have hx' : (ws ++ [((q, .inr (j, fs)) : Nat × va_E)])[k]? = some x := by rw [List.getElem?_append_left hlt]; exact hx
    have hl9 := (hP k x hx').lt
    refine ⟨hl9, fun h => ?_⟩
    rcases h with ⟨k2, e2, h⟩ | h
    · have h0 : k2 < 1 := (List.getElem?_eq_some_iff.mp h).1
      rw [show k2 = 0 by omega] at h
      have hq : q = x.1 := by have := Option.some.inj h; exact congrArg Prod.fst this
      have := hD.1 k ws.length x _ hx' hlast hq.symm
      omega
    · omega
  refine kk H1 locs1 ⟨va_P.app (fun k x hx => ?_) hB1, va_D.app ⟨fun i k x y hi hk e => ?_, fun k x hx => ?_⟩ (hB2.weaken (fun _ x _ h => hF x.1 h)) (fun i k x y hi hk e => ?_), hS1, hB0, hA⟩
  · have h9 := hws k x hx
    have hlt : k < ws.length := (List.getElem?_eq_some_iff.mp hx).1
    exact (hP k x (by rw [List.getElem?_append_left hlt]; exact hx)).kept (hk1 x.1 h9.1 h9.2)
  · exact hD.1 i k x y (by rw [List.getElem?_append_left (List.getElem?_eq_some_iff.mp hi).1]; exact hi) (by rw [List.getElem?_append_left (List.getElem?_eq_some_iff.mp hk).1]; exact hk) e
  · exact hD.2 k x (by rw [List.getElem?_append_left (List.getElem?_eq_some_iff.mp hx).1]; exact hx)
  · exact (hws i x hi).2 (by rw [e]; exact hB2.2 k y hk)
theorem oc_last {q j : Nat} {fs : List Value} (I : oc_I D A (ws ++ [(q, .inr (j, fs))]) H0 H locs z) : va_P D ox_cl [(q, .inr (j, fs))] H := fun k x hk => by
  have h0 : k < 1 := (List.getElem?_eq_some_iff.mp hk).1
  rw [show k = 0 by omega] at hk
  cases hk
  exact I.1 ws.length _ (by simp)
/-- a call of a nest mate's constructor -/
theorem oc_cn {Ts : List Cond} {nL index : Nat} {own host : String} (S : CallFix p m c cc nL s args Ts own) (hin : ∀ w ∈ ox_gw, w ∈ Ts) {y : MethodName} {b : ByteArray} {rm : Room} {q j : Nat} {fs : List Value} {z1 : Nat} {w1 : va_W} {mc ms : Nat} (hM : oc_ok l y b rm D cy q j fs z z1 w1 mc ms) (hcode : Cond.code y b 1 none ∈ ox_gw) (hrc : rm.cells = mc) (hrs : rm.slots = ms) (hini : Cond.initialized y.cls ∈ ox_gw) (hl : va_Nw (.methodLinkNest own index y host) s) (hinst : Cond.instanceMethod y ∈ ox_gw) (hy1 : y.name = "<init>")
    (hd : y.cls ≠ "java/lang/invoke/MethodHandle" ∧ y.cls ≠ "java/lang/invoke/VarHandle" ∧ (parseMethodDescriptor y.desc).map (fun d => d.parameters.length) = some 0) (hR : rm.frames + 1 ≤ R.frames ∧ 8 + (1 + 11) + rm.locals ≤ R.locals) (hK : va_K D ox_cl (ox_tys cy) s) (hAO : oc_AO s) (I : oc_I D A (ws ++ [(q, .inr (j, fs))]) H0 H locs z) (hsize : ls.size = nL) (hW : (rest.map fun v => v.category).sum ≤ 8) (hdg : decode cc pc = .ok (.invokespecial index, 3)) (hf : cells + mc ≤ R.cells ∧ slots + ms ≤ R.slots)
    (kk : ∀ (H1 : Heap) (locs1 : List Loc), oc_I D A (ws ++ w1) H0 H1 locs1 z1 → W p l e R s m args below meth c H1 locs1 (cells + mc) (slots + ms) Q (F0 m (pc + 3) ls rest)) : W p l e R s m args below meth c H locs cells slots Q (F0 m pc ls (.ref q :: rest)) := by
  have hts := S.2.2.2.2
  have hw : ∀ w ∈ ox_gw, w.before args s = true := fun w h => hts w (hin w h)
  have hPc := oc_last I
  have hz := I.2.2.2.1
  exact oc_cj (va_runIN (As := []) (rest := rest) S hM ⟨va_cnB 0 hts (oc_gin hin hcode) rfl hrc hrs hl (hw _ hini) hd hR, hy1, hw _ hinst⟩ ⟨fun a U g mk h => ⟨h.1, h.2.1, h.2.2.1, va_K.moved (u := U) (U := U.calling g mk a) (Vm.Alike.refl U.vm) h.2.2.2.1, oc_AO.moved (u := U) (U := U.calling g mk a) (Vm.Alike.refl U.vm) h.2.2.2.2⟩, fun U hU hW => ⟨rfl, by rw [hU]; exact hz, by rw [hU]; exact hPc, va_K.moved hW.alike hK, oc_AO.moved hW.alike hAO⟩⟩ rfl rfl hsize rfl (lv_room hW) hdg hf) I kk
/-- the links across the nest that the class's constructor needs -/
def oc_NL : List (Nat × String) := [(9, "OrderAxioms$Program"), (18, "OrderAxioms$Model"), (25, "OrderAxioms$Listing"), (32, "OrderAxioms$Execution"), (42, "OrderAxioms$Ring")]
def oc_NA (U : State) : Prop := ∀ q ∈ oc_NL, va_Nw (.methodLinkNest "OrderAxioms" q.1 ⟨q.2, "<init>", "()V"⟩ "OrderAxioms") U
theorem oc_NA.moved {s U : State} (hW : s.WarmedH U.vm) (h : oc_NA s) : oc_NA U := fun q hq => va_Nw.warmM hW (h q hq)
def oc_PcM (D : va_G) (cy : Nat → ClassId) (q j : Nat) (fs : List Value) (z : Nat) : Array Value → State → Prop := va_Pc [.ref q] (fun U => U.heap.size = z ∧ va_P D ox_cl [(q, .inr (j, fs))] U.heap ∧ va_K D ox_cl (ox_tys cy) U ∧ oc_AO U ∧ oc_NA U)
def oc_okM (l : Launch) (y : MethodName) (b : ByteArray) (rm : Room) (D : va_G) (cy : Nat → ClassId) (q j : Nat) (fs : List Value) (z z1 : Nat) (w1 : va_W) (mc ms : Nat) : Prop :=
  Met l y (.code y b 1 none :: ox_gw) rm (oc_PcM D cy q j fs z) (oc_Qc D q j fs z z1 w1) mc ms (va_A [(q, .inr (j, fs))] z)
/-- a call of the class's constructor -/
theorem oc_cm {Ts : List Cond} {nL index : Nat} {own : String} (S : CallFix p m c cc nL s args Ts own) (hin : ∀ w ∈ ox_gw, w ∈ Ts) {y : MethodName} {b : ByteArray} {rm : Room} {q j : Nat} {fs : List Value} {z1 : Nat} {w1 : va_W} {mc ms : Nat} (hM : oc_okM l y b rm D cy q j fs z z1 w1 mc ms) (hcode : Cond.code y b 1 none ∈ ox_gw) (hrc : rm.cells = mc) (hrs : rm.slots = ms) (hini : Cond.initialized y.cls ∈ ox_gw) (hl : (Cond.methodLink own index y).before args s = true) (hinst : Cond.instanceMethod y ∈ ox_gw) (hy1 : y.name = "<init>")
    (hd : y.cls ≠ "java/lang/invoke/MethodHandle" ∧ y.cls ≠ "java/lang/invoke/VarHandle" ∧ (parseMethodDescriptor y.desc).map (fun d => d.parameters.length) = some 0) (hR : rm.frames + 1 ≤ R.frames ∧ 8 + (1 + 11) + rm.locals ≤ R.locals) (hK : va_K D ox_cl (ox_tys cy) s) (hAO : oc_AO s) (hNA : oc_NA s) (I : oc_I D A (ws ++ [(q, .inr (j, fs))]) H0 H locs z) (hsize : ls.size = nL) (hW : (rest.map fun v => v.category).sum ≤ 8) (hdg : decode cc pc = .ok (.invokespecial index, 3)) (hf : cells + mc ≤ R.cells ∧ slots + ms ≤ R.slots)
    (kk : ∀ (H1 : Heap) (locs1 : List Loc), oc_I D A (ws ++ w1) H0 H1 locs1 z1 → W p l e R s m args below meth c H1 locs1 (cells + mc) (slots + ms) Q (F0 m (pc + 3) ls rest)) : W p l e R s m args below meth c H locs cells slots Q (F0 m pc ls (.ref q :: rest)) := by
  have hts := S.2.2.2.2
  have hw : ∀ w ∈ ox_gw, w.before args s = true := fun w h => hts w (hin w h)
  have hPc := oc_last I
  have hz := I.2.2.2.1
  exact oc_cj (va_runI (As := []) (rest := rest) S hM (cwI 0 hts (oc_gin hin hcode) rfl hrc hrs (hw _ hini) hl (hw _ hinst) hy1 hd hR) ⟨fun a U g mk h => ⟨h.1, h.2.1, h.2.2.1, va_K.moved (u := U) (U := U.calling g mk a) (Vm.Alike.refl U.vm) h.2.2.2.1, oc_AO.moved (u := U) (U := U.calling g mk a) (Vm.Alike.refl U.vm) h.2.2.2.2.1, oc_NA.moved (s := U) (U := U.calling g mk a) (State.WarmedH.refl U) h.2.2.2.2.2⟩, fun U hU hW => ⟨rfl, by rw [hU]; exact hz, by rw [hU]; exact hPc, va_K.moved hW.alike hK, oc_AO.moved hW.alike hAO, oc_NA.moved hW hNA⟩⟩ rfl rfl hsize rfl (lv_room hW) hdg hf) I kk
end OC4
/-- as oc_leaf, with the links across the nest -/
theorem oc_leafM {l : Launch} {y : MethodName} {b : ByteArray} {rm : Room} {D : va_G} {cy : Nat → ClassId} {q j : Nat} {fs : List Value} {z z1 pe : Nat} {w1 : va_W} {mc ms : Nat} (hj : j < 7) (hpl : plainName y.cls = true) (hy : y.cls = ox_R j) (hyn : y.name = "<init>") (hde : decode b pe = .ok (.return_, 1))
    (body : ∀ (p : Program) (e : Env) (s : State) (m : MethodId) (args : Array Value) (below : List Frame) (meth : Method) (c : Code) (ls : Array Slot), oc_X p s m args meth c b j D cy → oc_NA s → ∀ (Q : State → Prop) (A : Nat → Prop), lv_has ls 1 [(0, .ref q)] → oc_I D A [(q, .inr (j, fs))] s.heap s.heap [] z → (∀ (H1 : Heap) (locs1 : List Loc), oc_I D A w1 s.heap H1 locs1 z1 → W p l e rm s m args below meth c H1 locs1 mc ms Q (F0 m pe ls [])) → W p l e rm s m args below meth c s.heap [] 0 0 Q (F0 m 0 ls [])) : oc_okM l y b rm D cy q j fs z z1 w1 mc ms := by
  refine Met.ofW (cc := b) (maxL := 1) (ret := none) hpl rfl ?_
  intro p e s m args below meth c s₁ B hml hv
  obtain ⟨rfl, hsz, hP, hK, hAO, hNA⟩ := hv
  have hts := atoms_spec (ws := .code y b 1 none :: ox_gw) B.pre
  have hown : s.vm.findClass (ox_R j) = some m.cls := by rw [← hy]; exact findClass_of_methodNamed B.named
  have hin : meth.name = "<init>" := (name_of_methodNamed B.named B.method).1.trans hyn
  have hl := lv_entry ([.ref q]) (n := 1) (Nat.le_of_ble_eq_true rfl)
  rw [lg_entry_eq]
  generalize (lg_sl ([.ref q]) ++ List.replicate (1 - (lg_sl ([.ref q])).length) Slot.unset).toArray = ls at hl ⊢
  have hl : lv_has ls 1 [(0, .ref q)] := hl
  refine body p e s m _ below meth c ls ⟨B.exec, B.bytes, hml, B.returns, B.notSynchronized, hin, hown, fun w hw => hts w (List.mem_cons_of_mem _ hw), hK, hAO, hj⟩ hNA _ (va_A [(q, .inr (j, fs))] z) hl ⟨hP, ⟨fun i k x y hi hk _ => ?_, fun k x hk => ?_⟩, va_S.rf, hsz, fun x hx => Or.inr (by omega)⟩ (fun H1 locs1 I => ?_)
  · have h1 : i < 1 := (List.getElem?_eq_some_iff.mp hi).1
    have h2 : k < 1 := (List.getElem?_eq_some_iff.mp hk).1
    omega
  · exact va_A.in hk
  · obtain ⟨h1, h2, h3, h4, -⟩ := I
    exact W.vret B.exec B.bytes B.returns (fun t ht hW => ⟨⟨(), rfl, trivial, by rw [ht]; exact h4, by rw [ht]; exact h1, h2⟩, h3.F ht⟩) h3.2.2 hde
section OC5
variable {p : Program} {l : Launch} {e : Env} {R : Room} {s : State} {m : MethodId} {args : Array Value} {below : List Frame} {meth : Method} {c : Code} {H H0 : Heap} {locs : List Loc} {cells slots : Nat} {Q : State → Prop}
variable {b : ByteArray} {pc pn : Nat} {ls : Array Slot} {D : va_G} {A : Nat → Prop} {cy : Nat → ClassId} {z a : Nat} {fs : List Value} {wr : va_W}
/-- this.f = new C() of a nest mate -/
theorem oc_sn (X : oc_X p s m args meth c b 5 D cy) (hNA : oc_NA s) (hl : lv_has ls 1 [(0, .ref a)]) (I : oc_I D A ((a, .inr (5, fs)) :: wr) H0 H locs z) (d0 : decode b pc = .ok (.aload_n 0, 1)) (j : Nat) (hj : j < 7) {ci : Nat} (hcl : Cond.classLink (ox_R 5) ci (ox_R j) ∈ ox_gw) (hinst : Cond.instantiable (ox_R j) (ox_fn j) ∈ ox_gw) (hini : Cond.initialized (ox_R j) ∈ ox_gw) {fc : List Value} (hfs : ∀ i, i < ox_fn j → defaultValue (ox_y j i) = vp_V fc i) {q : Nat} (hq : q = z) (d1 : decode b (pc + 1) = .ok (.new ci, 3)) (d2 : decode b (pc + 4) = .ok (.dup, 1))
    {y : MethodName} {bb : ByteArray} {rm : Room} {z1 : Nat} {w1 : va_W} {mc ms : Nat} (hM : oc_ok l y bb rm D cy q j fc (z + 1) z1 w1 mc ms) (hcode : Cond.code y bb 1 none ∈ ox_gw) (hrc : rm.cells = mc) (hrs : rm.slots = ms) {mi : Nat} (hy0 : y = ⟨ox_R j, "<init>", "()V"⟩) (hnl : (mi, ox_R j) ∈ oc_NL) (him : Cond.instanceMethod y ∈ ox_gw) (hjc : ox_R j ≠ "java/lang/invoke/MethodHandle" ∧ ox_R j ≠ "java/lang/invoke/VarHandle") (hR : rm.frames + 1 ≤ R.frames ∧ 8 + (1 + 11) + rm.locals ≤ R.locals) (d3 : decode b (pc + 5) = .ok (.invokespecial mi, 3)) (hroom : cells + 1 + mc ≤ R.cells ∧ slots + ox_fn j + ms ≤ R.slots)
    (k : Nat) {index : Nat} (hlink : Cond.fieldLink (ox_R 5) index (ox_T 5 k).1 (ox_T 5 k).2.1 (ox_T 5 k).2.2.1 ∈ ox_gw) (hk : k < ox_fn 5 ∧ (ox_T 5 k).2.2.2 = true ∧ (ox_T 5 k).1 = ox_R 5 ∧ parseFieldDescriptor (ox_T 5 k).2.2.1 = some (.object (ox_R j))) (hkl : k < fs.length) (d4 : decode b (pc + 8) = .ok (.putfield index, 3))
    (kk : ∀ (H1 : Heap) (locs1 : List Loc), oc_I D A ((a, .inr (5, fs.set k (.ref q))) :: (wr ++ w1)) H0 H1 locs1 z1 → W p l e R s m args below meth c H1 locs1 (cells + 1 + mc) (slots + ox_fn j + ms) Q (F0 m (pc + 11) ls [])) : W p l e R s m args below meth c H locs cells slots Q (F0 m pc ls []) := by
  obtain ⟨hx, hb, hml, hrt, hlk, hnm, hown, hts, hK, hAO, hj5⟩ := X
  refine lv_aload_n hx hb d0 rfl (lv_at hl 0 rfl) ?_
  refine oc_nw hx hb hj hts hown (hts _ hcl) (hts _ hinst) (hts _ hini) hK I hfs (by omega) (by omega) hq d1 (fun H1 I => ?_)
  refine lv_dup hx hb d2 rfl ?_
  refine oc_cn (own := ox_R 5) (host := "OrderAxioms") ⟨hx, hb, hml, hown, hts⟩ (fun w h => h) hM hcode hrc hrs (by rw [hy0]; exact hini) (by rw [hy0]; exact hNA _ hnl) him (by rw [hy0]) (by rw [hy0]; exact ⟨hjc.1, hjc.2, show (parseMethodDescriptor "()V").map (fun d => d.parameters.length) = some 0 by decide +kernel⟩) hR hK hAO I hl.1 (by simp [Value.category]) d3 hroom (fun H1 locs1 I => ?_)
  exact oc_pf hx hb hj5 hts hown hK (wr := wr ++ w1) I k hk.1 (hts _ hlink) hk.2.1 hnm hk.2.2.1 hk.2.2.2 rfl rfl hkl d4 kk
end OC5
