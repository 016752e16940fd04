/-- the ints of the objects, by an object's number and a place -/
abbrev ox_S : Type := Nat → Nat → Int32
def ox_up (σ : ox_S) (o k : Nat) (v : Int32) : ox_S := fun o' => if o' = o then upd (σ o) k v else σ o'
/-- how a method ended: with an answer or none, or by throwing (0 UnsupportedOperation, 1 IllegalArgument, 2 IndexOutOfBounds) -/
abbrev ox_O : Type := Option Value ⊕ Nat
/-- a point inside a method: place, locals, stack, ints -/
abbrev ox_P : Type := Nat × List (Option Value) × List Value × ox_S
def ox_nl (ls : List (Option Value)) (i : Nat) : Bool := match i with
  | 0 => true
  | j + 1 => match ls.getD j none with
    | some (.long _) => false
    | some (.double _) => false
    | _ => true
def ox_sto (ls : List (Option Value)) (i : Nat) (v : Value) (pc : Nat) (st : List Value) (σ : ox_S) : Option ox_P :=
  bif Nat.blt i ls.length && ox_nl ls i then some (pc, ls.set i (some v), st, σ) else none
def ox_sto2 (ls : List (Option Value)) (i : Nat) (v : Value) (pc : Nat) (st : List Value) (σ : ox_S) : Option ox_P :=
  bif Nat.blt (i + 1) ls.length && ox_nl ls i then some (pc, (ls.set i (some v)).set (i + 1) none, st, σ) else none
def ox_lI (ls : List (Option Value)) (i pc : Nat) (st : List Value) (σ : ox_S) : Option ox_P := match ls.getD i none with
  | some (.int x) => some (pc, ls, .int x :: st, σ)
  | _ => none
def ox_lA (ls : List (Option Value)) (i pc : Nat) (st : List Value) (σ : ox_S) : Option ox_P := match ls.getD i none with
  | some (.ref x) => some (pc, ls, .ref x :: st, σ)
  | _ => none
def ox_lL (ls : List (Option Value)) (i pc : Nat) (st : List Value) (σ : ox_S) : Option ox_P := match ls.getD i none with
  | some (.long x) => some (pc, ls, .long x :: st, σ)
  | _ => none
def ox_2 (st : List Value) (f : Int32 → Int32 → List Value → Option ox_P) : Option ox_P := match st with
  | .int y :: .int x :: r => f x y r
  | _ => none
def ox_1 (st : List Value) (f : Int32 → List Value → Option ox_P) : Option ox_P := match st with
  | .int x :: r => f x r
  | _ => none
def ox_a (st : List Value) (f : Nat → Int32 → List Value → Option ox_P) : Option ox_P := match st with
  | .int i :: .ref o :: r => f o i r
  | _ => none
def ox_a3 (st : List Value) (f : Nat → Int32 → Int32 → List Value → Option ox_P) : Option ox_P := match st with
  | .int x :: .int i :: .ref o :: r => f o i x r
  | _ => none
def ox_c1 (v : Value) : Bool := match v with
  | .int _ => true
  | .ref _ => true
  | _ => false
/-- one simple instruction -/
def ox_s1 (L pc : Nat) (e : Instr × Nat × Nat × Nat) (ls : List (Option Value)) (st : List Value) (σ : ox_S) : Option ox_P := match e.1 with
  | .iconst n => some (pc + 1, ls, .int (Int32.ofInt n) :: st, σ)
  | .bipush n => some (pc + 2, ls, .int (Int8.ofInt n).toInt32 :: st, σ)
  | .sipush n => some (pc + 3, ls, .int (Int16.ofInt n).toInt32 :: st, σ)
  | .lconst n => some (pc + 1, ls, .long (Int64.ofNat n.val) :: st, σ)
  | .ldc2_w _ => some (pc + 3, ls, .long (Int64.ofNat e.2.2.1) :: st, σ)
  | .iload_n k => ox_lI ls k.val (pc + 1) st σ
  | .iload k => ox_lI ls k (pc + 2) st σ
  | .aload_n k => ox_lA ls k.val (pc + 1) st σ
  | .aload k => ox_lA ls k (pc + 2) st σ
  | .lload_n k => ox_lL ls k.val (pc + 1) st σ
  | .istore_n k => ox_1 st (fun x r => ox_sto ls k.val (.int x) (pc + 1) r σ)
  | .istore k => ox_1 st (fun x r => ox_sto ls k (.int x) (pc + 2) r σ)
  | .astore_n k => match st with
    | .ref x :: r => ox_sto ls k.val (.ref x) (pc + 1) r σ
    | _ => none
  | .astore k => match st with
    | .ref x :: r => ox_sto ls k (.ref x) (pc + 2) r σ
    | _ => none
  | .lstore_n k => match st with
    | .long x :: r => ox_sto2 ls k.val (.long x) (pc + 1) r σ
    | _ => none
  | .iinc i n => match ls.getD i none with
    | some (.int x) => ox_sto ls i (.int (x + Int32.ofInt n)) (pc + 3) st σ
    | _ => none
  | .iadd => ox_2 st (fun x y r => some (pc + 1, ls, .int (x + y) :: r, σ))
  | .isub => ox_2 st (fun x y r => some (pc + 1, ls, .int (x - y) :: r, σ))
  | .imul => ox_2 st (fun x y r => some (pc + 1, ls, .int (x * y) :: r, σ))
  | .iand => ox_2 st (fun x y r => some (pc + 1, ls, .int (x &&& y) :: r, σ))
  | .ior => ox_2 st (fun x y r => some (pc + 1, ls, .int (x ||| y) :: r, σ))
  | .ixor => ox_2 st (fun x y r => some (pc + 1, ls, .int (x ^^^ y) :: r, σ))
  | .ishl => ox_2 st (fun x y r => some (pc + 1, ls, .int (x <<< (y &&& 31)) :: r, σ))
  | .idiv => ox_2 st (fun x y r => if y = 0 then none else some (pc + 1, ls, .int (x / y) :: r, σ))
  | .irem => ox_2 st (fun x y r => if y = 0 then none else some (pc + 1, ls, .int (x - x / y * y) :: r, σ))
  | .i2l => ox_1 st (fun x r => some (pc + 1, ls, .long x.toInt64 :: r, σ))
  | .l2i => match st with
    | .long x :: r => some (pc + 1, ls, .int x.toInt32 :: r, σ)
    | _ => none
  | .lmul => match st with
    | .long y :: .long x :: r => some (pc + 1, ls, .long (x * y) :: r, σ)
    | _ => none
  | .lcmp => match st with
    | .long y :: .long x :: r => some (pc + 1, ls, .int (lg_cmp x y) :: r, σ)
    | _ => none
  | .dup => match st with
    | v :: r => bif ox_c1 v then some (pc + 1, ls, v :: v :: r, σ) else none
    | _ => none
  | .dup2 => match st with
    | v :: u :: r => bif ox_c1 v && ox_c1 u then some (pc + 1, ls, v :: u :: v :: u :: r, σ) else none
    | _ => none
  | .pop => match st with
    | v :: r => bif ox_c1 v then some (pc + 1, ls, r, σ) else none
    | _ => none
  | .getfield _ => match st with
    | .ref o :: r => bif Nat.beq (ox_k o) e.2.2.1 && Nat.blt o 174 then some (pc + 3, ls, (bif ox_rf e.2.2.1 e.2.2.2 then .ref (ox_r o e.2.2.2) else .int (σ o e.2.2.2)) :: r, σ) else none
    | _ => none
  | .putfield _ => match st with
    | .int x :: .ref o :: r => bif Nat.beq (ox_k o) e.2.2.1 && Nat.blt o 174 && !(ox_rf e.2.2.1 e.2.2.2) then some (pc + 3, ls, r, ox_up σ o e.2.2.2 x) else none
    | _ => none
  | .iaload => ox_a st (fun o i r => if ((ox_k o = 10 ∧ o < 174) ∨ ox_k o = 14) ∧ ¬ (i < 0 ∨ ox_n L o ≤ i.toNatClampNeg) then some (pc + 1, ls, .int (σ o i.toNatClampNeg) :: r, σ) else none)
  | .baload => ox_a st (fun o i r => if (ox_k o = 11 ∧ o < 174) ∧ ¬ (i < 0 ∨ ox_n L o ≤ i.toNatClampNeg) then some (pc + 1, ls, .int (σ o i.toNatClampNeg) :: r, σ) else none)
  | .aaload => ox_a st (fun o i r => if (ox_k o = 12 ∧ o < 174) ∧ ¬ (i < 0 ∨ ox_n L o ≤ i.toNatClampNeg) then some (pc + 1, ls, .ref (ox_r o i.toNatClampNeg) :: r, σ) else none)
  | .laload => ox_a st (fun o i r => if (ox_k o = 13 ∧ o < 174) ∧ ¬ (i < 0 ∨ ox_n L o ≤ i.toNatClampNeg) then some (pc + 1, ls, .long (σ o i.toNatClampNeg).toInt64 :: r, σ) else none)
  | .iastore => ox_a3 st (fun o i x r => if (ox_k o = 10 ∧ o < 174) ∧ ¬ (i < 0 ∨ ox_n L o ≤ i.toNatClampNeg) then some (pc + 1, ls, r, ox_up σ o i.toNatClampNeg x) else none)
  | .bastore => ox_a3 st (fun o i x r => if (ox_k o = 11 ∧ o < 174) ∧ ¬ (i < 0 ∨ ox_n L o ≤ i.toNatClampNeg) then some (pc + 1, ls, r, ox_up σ o i.toNatClampNeg (vp_nar .boolean x)) else none)
  | .lastore => match st with
    | .long x :: .int i :: .ref o :: r => if ((ox_k o = 13 ∧ o < 174) ∧ x.toInt32.toInt64 = x) ∧ ¬ (i < 0 ∨ ox_n L o ≤ i.toNatClampNeg) then some (pc + 1, ls, r, ox_up σ o i.toNatClampNeg x.toInt32) else none
    | _ => none
  | .arraylength => match st with
    | .ref o :: r => bif Nat.beq (ox_k o) 14 then some (pc + 1, ls, .int (Int32.ofNat (ox_n L o)) :: r, σ) else none
    | _ => none
  | .if_icmp .eq _ => ox_2 st (fun x y r => some (if x = y then e.2.2.1 else pc + 3, ls, r, σ))
  | .if_icmp .ne _ => ox_2 st (fun x y r => some (if x = y then pc + 3 else e.2.2.1, ls, r, σ))
  | .if_icmp .lt _ => ox_2 st (fun x y r => some (if x < y then e.2.2.1 else pc + 3, ls, r, σ))
  | .if_icmp .ge _ => ox_2 st (fun x y r => some (if y ≤ x then e.2.2.1 else pc + 3, ls, r, σ))
  | .if_icmp .gt _ => ox_2 st (fun x y r => some (if y < x then e.2.2.1 else pc + 3, ls, r, σ))
  | .if_icmp .le _ => ox_2 st (fun x y r => some (if x ≤ y then e.2.2.1 else pc + 3, ls, r, σ))
  | .ifCond .eq _ => ox_1 st (fun x r => some (if x = 0 then e.2.2.1 else pc + 3, ls, r, σ))
  | .ifCond .ne _ => ox_1 st (fun x r => some (if x = 0 then pc + 3 else e.2.2.1, ls, r, σ))
  | .ifCond .lt _ => ox_1 st (fun x r => some (if x < 0 then e.2.2.1 else pc + 3, ls, r, σ))
  | .ifCond .ge _ => ox_1 st (fun x r => some (if 0 ≤ x then e.2.2.1 else pc + 3, ls, r, σ))
  | .ifCond .gt _ => ox_1 st (fun x r => some (if 0 < x then e.2.2.1 else pc + 3, ls, r, σ))
  | .ifCond .le _ => ox_1 st (fun x r => some (if x ≤ 0 then e.2.2.1 else pc + 3, ls, r, σ))
  | .goto _ => some (e.2.2.1, ls, st, σ)
  | .tableswitch dflt lo hi offs => ox_1 st (fun x r => if x.toInt < lo ∨ hi < x.toInt then (if 0 ≤ (pc : Int) + dflt then some (((pc : Int) + dflt).toNat, ls, r, σ) else none) else match offs[(x.toInt - lo).toNat]? with
    | some off => if 0 ≤ (pc : Int) + off then some (((pc : Int) + off).toNat, ls, r, σ) else none
    | none => none)
  | .invokestatic _ => bif Nat.beq e.2.2.1 901 then ox_2 st (fun x y r => bif Nat.ble ((r.map Value.category).sum) 8 then some (pc + 3, ls, .int (if x < y then y else x) :: r, σ) else none) else none
  | _ => none
/-- the room of a level: its cells, its slots -/
def ox_rc (k : Nat) : Nat := bif Nat.beq k 10 then 601024 else 4
def ox_rs (k : Nat) : Nat := bif Nat.beq k 10 then 7293034 else 64
/-- the handler that takes x at pc: where it goes on, and the local that it leaves open; the classes of the entries by their numbers in the pool -/
def ox_hx (q : Nat) : Nat := bif Nat.beq q 13 then 0 else bif Nat.beq q 19 then 1 else 2
def ox_hd (mi pc x : Nat) : Option (Nat × Nat) := match (ox_hh mi).find? (fun h => decide (h.1 ≤ pc) && decide (pc < h.2.1) && ox_hx h.2.2.2 == x) with
  | none => none
  | some h => match ox_I mi h.2.2.1 with
    | some (.astore_n k, _, _, _) => some (h.2.2.1 + 1, k.val)
    | some (.astore k, _, _, _) => some (h.2.2.1 + 2, k)
    | _ => none
/-- what a call asks: the callee's level, arguments and room -/
def ox_gd (k c w a b : Nat) (st : List Value) : Bool := Nat.blt a 114 && Nat.ble 1 k && Nat.ble b st.length && Nat.ble b (ox_mL a) && (st.take b).all ox_c1 && Nat.ble (c + ox_rc k) (ox_rc (k + 1)) && Nat.ble (w + ox_rs k) (ox_rs (k + 1)) && Nat.ble (((st.drop b).map Value.category).sum) 8
theorem ox_gdi {k c w a b : Nat} {st : List Value} (h : ox_gd k c w a b st = true) : a < 114 ∧ 1 ≤ k ∧ b ≤ st.length ∧ b ≤ ox_mL a ∧ (st.take b).all ox_c1 = true ∧ c + ox_rc k ≤ ox_rc (k + 1) ∧ w + ox_rs k ≤ ox_rs (k + 1) ∧ ((st.drop b).map Value.category).sum ≤ 8 := by
  simp only [ox_gd, Bool.and_eq_true] at h
  obtain ⟨⟨⟨⟨⟨⟨⟨g0, g1⟩, g2⟩, g3⟩, g4⟩, g5⟩, g6⟩, g7⟩ := h
  exact ⟨Nat.le_of_ble_eq_true g0, Nat.le_of_ble_eq_true g1, Nat.le_of_ble_eq_true g2, Nat.le_of_ble_eq_true g3, g4, Nat.le_of_ble_eq_true g5, Nat.le_of_ble_eq_true g6, Nat.le_of_ble_eq_true g7⟩
/-- the machine, one instruction: level, method, point, cells and slots made; rec: the machine with less fuel -/
def ox_F (L : Nat) (rec : Nat → Nat → Nat → List (Option Value) → List Value → ox_S → Nat → Nat → Option (ox_O × ox_S × Nat × Nat)) (k mi pc : Nat) (ls : List (Option Value)) (st : List Value) (σ : ox_S) (c w : Nat) : Option (ox_O × ox_S × Nat × Nat) :=
  match ox_I mi pc with
    | none => none
    | some e => match ox_s1 L pc e ls st σ with
      | some (pc', ls', st', σ') => rec k mi pc' ls' st' σ' c w
      | none => match e.1 with
        | .ireturn => match st with
          | [.int v] => match ox_rt mi with
            | some ty => if narrow ty (.int v) = .int v then some (.inl (some (.int v)), σ, c, w) else none
            | none => none
          | _ => none
        | .return_ => match st with
          | [] => match ox_rt mi with
            | none => some (.inl none, σ, c, w)
            | some _ => none
          | _ => none
        | .new _ => match st with
          | [] => bif Nat.blt e.2.2.1 3 && Nat.blt 5 k && Nat.blt c (ox_rc k) && Nat.ble (w + 6) (ox_rs k) then some (.inr e.2.2.1, σ, c + 1, w + 6) else none
          | _ => none
        | .invokevirtual _ => match k with
          | 0 => none
          | k' + 1 => bif ox_gd k' c w e.2.2.1 e.2.2.2 st then
              match (st.take e.2.2.2).reverse with
              | .ref o :: as => bif Nat.beq (ox_k o) (ox_ow e.2.2.1) && Nat.blt o 174 then
                  match rec k' e.2.2.1 0 (((Value.ref o :: as).map some) ++ List.replicate (ox_mL e.2.2.1 - (as.length + 1)) none) [] σ 0 0 with
                  | some (.inl v, σ', c', w') => rec (k' + 1) mi (pc + 3) ls (v.toList ++ st.drop e.2.2.2) σ' (c + c') (w + w')
                  | some (.inr x, σ', c', w') => match ox_hd mi pc x with
                    | some (h, i) => bif ox_nl ls i && Nat.blt i ls.length then rec (k' + 1) mi h (ls.set i none) [] σ' (c + c') (w + w') else none
                    | none => none
                  | none => none
                else none
              | _ => none
            else none
        | .invokestatic _ => match k with
          | 0 => none
          | k' + 1 => bif ox_gd k' c w e.2.2.1 e.2.2.2 st then
              match rec k' e.2.2.1 0 (((st.take e.2.2.2).reverse.map some) ++ List.replicate (ox_mL e.2.2.1 - e.2.2.2) none) [] σ 0 0 with
              | some (.inl v, σ', c', w') => rec (k' + 1) mi (pc + 3) ls (v.toList ++ st.drop e.2.2.2) σ' (c + c') (w + w')
              | _ => none
            else none
        | _ => none
/-- the machine with so much fuel -/
def ox_x (L : Nat) : Nat → Nat → Nat → Nat → List (Option Value) → List Value → ox_S → Nat → Nat → Option (ox_O × ox_S × Nat × Nat)
  | 0 => fun _ _ _ _ _ _ _ _ => none
  | n + 1 => ox_F L (ox_x L n)
theorem ox_F_s {L k mi pc pc' : Nat} {rec : Nat → Nat → Nat → List (Option Value) → List Value → ox_S → Nat → Nat → Option (ox_O × ox_S × Nat × Nat)} {ls ls' : List (Option Value)} {st st' : List Value} {σ σ' : ox_S} {c w : Nat} {e : Instr × Nat × Nat × Nat} (hI : ox_I mi pc = some e) (hs : ox_s1 L pc e ls st σ = some (pc', ls', st', σ')) :
    ox_F L rec k mi pc ls st σ c w = rec k mi pc' ls' st' σ' c w := by
  unfold ox_F
  rw [hI]
  simp only
  rw [hs]
