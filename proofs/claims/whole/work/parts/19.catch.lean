theorem ox_cat : ∀ q ∈ [13, 19, 43], Cond.classLink "OrderAxiomsLaw" q (ox_ex (ox_hx q)) ∈ ox_gw ∧ ox_hx q < 3 := by decide +kernel
theorem ox_hhc : ∀ i, i < 115 → ∀ q ∈ ox_hh i, q.2.2.2 ∈ [13, 19, 43] ∧ ox_ow i = 8 := by decide +kernel
theorem ox_xcast : ∀ x, x < 3 → Cond.castable (ox_ex x) (ox_ex x) ∈ ox_xa x := by decide +kernel
theorem ox_goc {E : CtlPost} {e : Env} {d : Bool} {acts : List Action} {s : State} {f : JFrame} {a : Addr} {Q : Handler → Pre} {x : ExceptionTableEntry} {t : List ExceptionTableEntry} {c : ClassId} {cell : Cell} {vm' : Vm} (hx : covers x f.pc = true) (h0 : x.catchType ≠ 0)
    (hg : (Jvm.resolveClass f.method.cls x.catchType).Gives e.toSetting s.vm (.ok c) vm') (hsz : vm'.classes.size ≤ s.vm.classes.size) (hcell : s.heap[a]? = some cell) (hobj : ∀ k, cell.vm ≠ .statics k)
    (hk : ∃ k, vm'.classes[cell.cls]? = some k) (hc : ∃ k, vm'.classes[c]? = some k) :
    wp (findHandler.go f a (x :: t)) Q E e d acts s ↔ if vm'.assignable cell.cls c = true then Q (.found x.handlerPc) d acts (s.setVm vm') else wp (findHandler.go f a t) Q E e d acts (s.setVm vm') := by
  obtain ⟨ha, ht⟩ := hg.op (op := VmOp.resolveClass f.method.cls x.catchType) rfl
  simp only [covers] at hx
  cases hfit : vm'.assignable cell.cls c <;>
    simp [findHandler.go, hx, h0, ha, ht, hsz, hcell, hobj, hk, hc, hfit, VmOp.dirties, VmOp.acts]
theorem ox_scan {ad : Nat → Nat} {s0 : State} {args : Array Value} {e : Env} {f : JFrame} {a : Addr} {x : Nat} {cell : Cell} (hpl : e.platform.magicAccessors = ({} : Platform).magicAccessors) (hown : s0.vm.findClass "OrderAxiomsLaw" = some f.method.cls) (hts : ∀ w ∈ ox_gw, w.before args s0 = true) (hz : ox_Z ad s0) (hx : x < 3) (hobj : ∀ k, cell.vm ≠ .statics k) (hcl : s0.vm.findClass (ox_ex x) = some cell.cls) :
    ∀ (es : List ExceptionTableEntry) (S : State) (y0 : ExceptionTableEntry), s0.WarmedH S.vm → S.heap[a]? = some cell → (∀ y ∈ es, y.catchType ∈ [13, 19, 43]) → es.find? (fun y => covers y f.pc && ox_hx y.catchType == x) = some y0 →
      ∃ vm', s0.WarmedH vm' ∧ ∀ (Q : Handler → Pre) (E : CtlPost) (d : Bool) (acts : List Action), wp (findHandler.go f a es) Q E e d acts S ↔ Q (.found y0.handlerPc) d acts (S.setVm vm') := by
  intro es
  induction es with
  | nil => intro S y0 _ _ _ h; cases h
  | cons y t ih =>
    intro S y0 hW hcell hct hfind
    rw [List.find?_cons] at hfind
    cases hcov : covers y f.pc with
    | false =>
      rw [hcov] at hfind
      obtain ⟨vm', hW', h⟩ := ih S y0 hW hcell (fun z hz => hct z (List.mem_cons_of_mem _ hz)) hfind
      exact ⟨vm', hW', fun Q E d acts => (W.findHandler_go_skip hcov).trans (h Q E d acts)⟩
    | true =>
      rw [hcov] at hfind
      have hy := hct y (List.mem_cons_self ..)
      obtain ⟨hlk, hy3⟩ := ox_cat _ hy
      have h0 : y.catchType ≠ 0 := by intro q; rw [q] at hy; simp at hy
      obtain ⟨cc, hfcc, hl2⟩ := Cond.classLink_spec hown (hts _ hlk) e.platform hpl
      obtain ⟨hg₁, hwarm₁, hready₁⟩ := State.classEntry (e := e) hW hl2
      generalize hvm : S.vm.noted f.method.cls y.catchType (.cls cc) = vm₁ at hg₁ hwarm₁ hready₁
      have hsz : vm₁.classes.size ≤ S.vm.classes.size := by rw [← hvm]; no_record
      have hk1 : ∃ k, vm₁.classes[cell.cls]? = some k := by
        obtain ⟨k, hk⟩ := Vm.classAt_of_findClass hcl
        obtain ⟨k', hk', -⟩ := hwarm₁.alike.2.2 _ _ hk
        exact ⟨k', hk'⟩
      have hk2 : ∃ k, vm₁.classes[cc]? = some k := by
        obtain ⟨k, hk⟩ := Vm.classAt_of_findClass hfcc
        obtain ⟨k', hk', -⟩ := hwarm₁.alike.2.2 _ _ hk
        exact ⟨k', hk'⟩
      by_cases hxy : ox_hx y.catchType = x
      · subst hxy
        obtain rfl : y = y0 := by simpa using hfind
        obtain ⟨c1, c2, e1, e2, e3⟩ := Cond.castable_spec (hz.2.2.1 _ hx _ (ox_xcast _ hx))
        cases e1.symm.trans hcl
        cases e2.symm.trans hcl
        cases hfcc.symm.trans hcl
        refine ⟨vm₁, hwarm₁, fun Q E d acts => (ox_goc hcov h0 hg₁ hsz hcell hobj hk1 hk2).trans ?_⟩
        rw [if_pos (by rw [hwarm₁.alike.assignable]; exact e3)]
      · have hb : (ox_hx y.catchType == x) = false := by simpa using hxy
        rw [hb] at hfind
        obtain ⟨c1, c2, e1, e2, e3⟩ := hz.2.2.2.2 x (ox_hx y.catchType) hx hy3 (fun q => hxy q.symm)
        cases e1.symm.trans hcl
        cases e2.symm.trans hfcc
        obtain ⟨vm', hW', h⟩ := ih (S.setVm vm₁) y0 hwarm₁ hcell (fun z hz => hct z (List.mem_cons_of_mem _ hz)) hfind
        refine ⟨vm', hW', fun Q E d acts => (ox_goc hcov h0 hg₁ hsz hcell hobj hk1 hk2).trans ?_⟩
        rw [if_neg (by rw [hwarm₁.alike.assignable, e3]; decide)]
        exact h Q E d acts
