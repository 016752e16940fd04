theorem ox_blt {pc n : Nat} (h : n ≤ pc) : Nat.blt pc n = false := by
  cases e : Nat.blt pc n with
  | false => rfl
  | true => exact absurd (Nat.le_of_ble_eq_true e) (by omega)
theorem ox_tab {f : Nat → Option (Instr × Nat × Nat × Nat)} {b : ByteArray} (n : Nat) (h0 : ∀ pc, n ≤ pc → f pc = none) (h : (List.range n).all (fun pc => match f pc with | none => true | some e => decide (decode b pc = .ok (e.1, e.2.1))) = true) :
    ∀ pc e, f pc = some e → decode b pc = .ok (e.1, e.2.1) := by
  intro pc e he
  rcases Nat.lt_or_ge pc n with q | q
  · have h1 := List.all_eq_true.mp h pc (List.mem_range.mpr q)
    rw [he] at h1
    exact of_decide_eq_true h1
  · rw [h0 pc q] at he; cases he

def ox_nm (i : Nat) : MethodName := (bif Nat.blt i 57 then (bif Nat.blt i 28 then (bif Nat.blt i 14 then (bif Nat.blt i 7 then (bif Nat.blt i 3 then (bif Nat.blt i 1 then ⟨"OrderAxioms$Execution", "prepare", "(LOrderAxioms$Program;LOrderAxioms$Model;Z)V"⟩ else (bif Nat.blt i 2 then ⟨"OrderAxioms$Execution", "choose", "(LOrderAxioms$Program;LOrderAxioms$Model;I)V"⟩ else ⟨"OrderAxioms$Execution", "firstBroken", "(LOrderAxioms$Model;)I"⟩)) else (bif Nat.blt i 5 then (bif Nat.blt i 4 then ⟨"OrderAxioms$Execution", "arrange", "(LOrderAxioms$Program;I)V"⟩ else ⟨"OrderAxioms$Execution", "markWanted", "(LOrderAxioms$Model;Z)V"⟩) else (bif Nat.blt i 6 then ⟨"OrderAxioms$Execution", "fillSteady", "(LOrderAxioms$Program;)V"⟩ else ⟨"OrderAxioms$Execution", "fillBehind", "(LOrderAxioms$Program;I)V"⟩))) else (bif Nat.blt i 10 then (bif Nat.blt i 8 then ⟨"OrderAxioms$Execution", "fillPair", "(LOrderAxioms$Program;IIZ)V"⟩ else (bif Nat.blt i 9 then ⟨"OrderAxioms$Execution", "fillChosen", "(LOrderAxioms$Program;)V"⟩ else ⟨"OrderAxioms$Execution", "fillRead", "(LOrderAxioms$Program;II)V"⟩)) else (bif Nat.blt i 12 then (bif Nat.blt i 11 then ⟨"OrderAxioms$Execution", "fillMade", "(LOrderAxioms$Model;I)V"⟩ else ⟨"OrderAxioms$Listing", "begin", "(LOrderAxioms$Program;I)V"⟩) else (bif Nat.blt i 13 then ⟨"OrderAxioms$Listing", "addAllowed", "(I[I)V"⟩ else ⟨"OrderAxioms$Listing", "finish", "()V"⟩)))) else (bif Nat.blt i 21 then (bif Nat.blt i 17 then (bif Nat.blt i 15 then ⟨"OrderAxioms$Listing", "valueRead", "(II)I"⟩ else (bif Nat.blt i 16 then ⟨"OrderAxioms$Listing", "countAt", "(I)I"⟩ else ⟨"OrderAxioms$Listing", "rankValues", "(LOrderAxioms$Program;I)V"⟩)) else (bif Nat.blt i 19 then (bif Nat.blt i 18 then ⟨"OrderAxioms$Listing", "insertValue", "(II)V"⟩ else ⟨"OrderAxioms$Listing", "rankOf", "(II)I"⟩) else (bif Nat.blt i 20 then ⟨"OrderAxioms$Model", "forget", "()V"⟩ else ⟨"OrderAxioms$Model", "addRelation", "(III)I"⟩))) else (bif Nat.blt i 24 then (bif Nat.blt i 22 then ⟨"OrderAxioms$Model", "addRule", "(I)V"⟩ else (bif Nat.blt i 23 then ⟨"OrderAxioms$Model", "addOrderRule", "(II)V"⟩ else ⟨"OrderAxioms$Model", "addKept", "(I)I"⟩)) else (bif Nat.blt i 26 then (bif Nat.blt i 25 then ⟨"OrderAxioms$Program", "forget", "()V"⟩ else ⟨"OrderAxioms$Program", "append", "(IIII)I"⟩) else (bif Nat.blt i 27 then ⟨"OrderAxioms$Program", "isBefore", "(II)Z"⟩ else ⟨"OrderAxioms$Program", "placeRead", "(I)I"⟩))))) else (bif Nat.blt i 42 then (bif Nat.blt i 35 then (bif Nat.blt i 31 then (bif Nat.blt i 29 then ⟨"OrderAxioms$Program", "countExecutions", "()I"⟩ else (bif Nat.blt i 30 then ⟨"OrderAxioms$Ring", "find", "([II)V"⟩ else ⟨"OrderAxioms$Ring", "stepsAround", "([III)I"⟩)) else (bif Nat.blt i 33 then (bif Nat.blt i 32 then ⟨"OrderAxioms$Ring", "follow", "([II)V"⟩ else ⟨"OrderAxioms", "thread", "()I"⟩) else (bif Nat.blt i 34 then ⟨"OrderAxioms", "event", "(IIII)I"⟩ else ⟨"OrderAxioms", "depends", "(II)Z"⟩))) else (bif Nat.blt i 38 then (bif Nat.blt i 36 then ⟨"OrderAxioms", "make", "(III)I"⟩ else (bif Nat.blt i 37 then ⟨"OrderAxioms", "rule", "(I)I"⟩ else ⟨"OrderAxioms", "given", "(I)I"⟩)) else (bif Nat.blt i 40 then (bif Nat.blt i 39 then ⟨"OrderAxioms", "run", "()I"⟩ else ⟨"OrderAxioms", "outcome", "(II)I"⟩) else (bif Nat.blt i 41 then ⟨"OrderAxioms", "witness", "(II)I"⟩ else ⟨"OrderAxioms", "look", "(I)I"⟩)))) else (bif Nat.blt i 49 then (bif Nat.blt i 45 then (bif Nat.blt i 43 then ⟨"OrderAxioms", "source", "(I)I"⟩ else (bif Nat.blt i 44 then ⟨"OrderAxioms", "order", "(II)I"⟩ else ⟨"OrderAxioms", "related", "(III)Z"⟩)) else (bif Nat.blt i 47 then (bif Nat.blt i 46 then ⟨"OrderAxioms", "ring", "()I"⟩ else ⟨"OrderAxioms", "ringAt", "(I)I"⟩) else (bif Nat.blt i 48 then ⟨"OrderAxioms", "count", "(I)I"⟩ else ⟨"OrderAxioms", "clear", "()I"⟩))) else (bif Nat.blt i 53 then (bif Nat.blt i 51 then (bif Nat.blt i 50 then ⟨"OrderAxioms", "isBelow", "(II)Z"⟩ else ⟨"OrderAxioms", "takesTwo", "(I)Z"⟩) else (bif Nat.blt i 52 then ⟨"OrderAxiomsModel", "thrown", "()I"⟩ else ⟨"OrderAxiomsModel", "throwing", "(ZZ)Z"⟩)) else (bif Nat.blt i 55 then (bif Nat.blt i 54 then ⟨"OrderAxiomsModel", "thread", "()I"⟩ else ⟨"OrderAxiomsModel", "event", "(IIII)I"⟩) else (bif Nat.blt i 56 then ⟨"OrderAxiomsModel", "isEvent", "(I)Z"⟩ else ⟨"OrderAxiomsModel", "depends", "(II)Z"⟩)))))) else (bif Nat.blt i 86 then (bif Nat.blt i 71 then (bif Nat.blt i 64 then (bif Nat.blt i 60 then (bif Nat.blt i 58 then ⟨"OrderAxiomsModel", "isOf", "(II)Z"⟩ else (bif Nat.blt i 59 then ⟨"OrderAxiomsModel", "add", "(III)I"⟩ else ⟨"OrderAxiomsModel", "make", "(III)I"⟩)) else (bif Nat.blt i 62 then (bif Nat.blt i 61 then ⟨"OrderAxiomsModel", "rule", "(I)I"⟩ else ⟨"OrderAxiomsModel", "ordered", "(II)V"⟩) else (bif Nat.blt i 63 then ⟨"OrderAxiomsModel", "given", "(I)I"⟩ else ⟨"OrderAxiomsModel", "reads", "()I"⟩))) else (bif Nat.blt i 67 then (bif Nat.blt i 65 then ⟨"OrderAxiomsModel", "writes", "(I)I"⟩ else (bif Nat.blt i 66 then ⟨"OrderAxiomsModel", "executions", "()I"⟩ else ⟨"OrderAxiomsModel", "write", "(II)I"⟩)) else (bif Nat.blt i 69 then (bif Nat.blt i 68 then ⟨"OrderAxiomsModel", "arrange", "(II)V"⟩ else ⟨"OrderAxiomsModel", "choose", "(I)V"⟩) else (bif Nat.blt i 70 then ⟨"OrderAxiomsModel", "sourceAt", "(I)I"⟩ else ⟨"OrderAxiomsModel", "isFenced", "(II)Z"⟩)))) else (bif Nat.blt i 78 then (bif Nat.blt i 74 then (bif Nat.blt i 72 then ⟨"OrderAxiomsModel", "isGiven", "(III)Z"⟩ else (bif Nat.blt i 73 then ⟨"OrderAxiomsModel", "is", "(III)Z"⟩ else ⟨"OrderAxiomsModel", "isJoined", "(IIII)Z"⟩)) else (bif Nat.blt i 76 then (bif Nat.blt i 75 then ⟨"OrderAxiomsModel", "isMade", "(III)Z"⟩ else ⟨"OrderAxiomsModel", "close", "(I)V"⟩) else (bif Nat.blt i 77 then ⟨"OrderAxiomsModel", "relate", "()V"⟩ else ⟨"OrderAxiomsModel", "shortest", "(I)I"⟩))) else (bif Nat.blt i 82 then (bif Nat.blt i 80 then (bif Nat.blt i 79 then ⟨"OrderAxiomsModel", "broken", "()I"⟩ else ⟨"OrderAxiomsModel", "compare", "(I)I"⟩) else (bif Nat.blt i 81 then ⟨"OrderAxiomsModel", "take", "(I)V"⟩ else ⟨"OrderAxiomsModel", "run", "()I"⟩)) else (bif Nat.blt i 84 then (bif Nat.blt i 83 then ⟨"OrderAxiomsModel", "outcome", "(II)I"⟩ else ⟨"OrderAxiomsModel", "witness", "(II)I"⟩) else (bif Nat.blt i 85 then ⟨"OrderAxiomsModel", "walk", "(I)V"⟩ else ⟨"OrderAxiomsModel", "look", "(I)I"⟩))))) else (bif Nat.blt i 100 then (bif Nat.blt i 93 then (bif Nat.blt i 89 then (bif Nat.blt i 87 then ⟨"OrderAxiomsModel", "source", "(I)I"⟩ else (bif Nat.blt i 88 then ⟨"OrderAxiomsModel", "order", "(II)I"⟩ else ⟨"OrderAxiomsModel", "related", "(III)Z"⟩)) else (bif Nat.blt i 91 then (bif Nat.blt i 90 then ⟨"OrderAxiomsModel", "ring", "()I"⟩ else ⟨"OrderAxiomsModel", "ringAt", "(I)I"⟩) else (bif Nat.blt i 92 then ⟨"OrderAxiomsModel", "count", "(I)I"⟩ else ⟨"OrderAxiomsModel", "clear", "()I"⟩))) else (bif Nat.blt i 96 then (bif Nat.blt i 94 then ⟨"OrderAxioms$Rows", "fillEach", "([I[I[III)V"⟩ else (bif Nat.blt i 95 then ⟨"OrderAxioms$Rows", "fillJoin", "([I[I[II)V"⟩ else ⟨"OrderAxioms$Rows", "fillTurn", "([I[II)V"⟩)) else (bif Nat.blt i 98 then (bif Nat.blt i 97 then ⟨"OrderAxioms$Rows", "fillClosure", "([I[II)V"⟩ else ⟨"OrderAxioms$Rows", "hasRing", "([II)Z"⟩) else (bif Nat.blt i 99 then ⟨"OrderAxioms$Rows", "leadingInto", "([III)I"⟩ else ⟨"OrderAxioms$Rows", "memberAt", "(II)I"⟩)))) else (bif Nat.blt i 107 then (bif Nat.blt i 103 then (bif Nat.blt i 101 then ⟨"OrderAxiomsLaw", "thread", "(LOrderAxioms;[J)I"⟩ else (bif Nat.blt i 102 then ⟨"OrderAxiomsLaw", "event", "(LOrderAxioms;IIII[J)I"⟩ else ⟨"OrderAxiomsLaw", "depends", "(LOrderAxioms;II[J)I"⟩)) else (bif Nat.blt i 105 then (bif Nat.blt i 104 then ⟨"OrderAxiomsLaw", "make", "(LOrderAxioms;III[J)I"⟩ else ⟨"OrderAxiomsLaw", "rule", "(LOrderAxioms;I[J)I"⟩) else (bif Nat.blt i 106 then ⟨"OrderAxiomsLaw", "given", "(LOrderAxioms;I[J)I"⟩ else ⟨"OrderAxiomsLaw", "run", "(LOrderAxioms;[J)I"⟩))) else (bif Nat.blt i 111 then (bif Nat.blt i 109 then (bif Nat.blt i 108 then ⟨"OrderAxiomsLaw", "outcome", "(LOrderAxioms;II[J)I"⟩ else ⟨"OrderAxiomsLaw", "witness", "(LOrderAxioms;II[J)I"⟩) else (bif Nat.blt i 110 then ⟨"OrderAxiomsLaw", "look", "(LOrderAxioms;I[J)I"⟩ else ⟨"OrderAxiomsLaw", "source", "(LOrderAxioms;I[J)I"⟩)) else (bif Nat.blt i 113 then (bif Nat.blt i 112 then ⟨"OrderAxiomsLaw", "order", "(LOrderAxioms;II[J)I"⟩ else ⟨"OrderAxiomsLaw", "related", "(LOrderAxioms;III[J)I"⟩) else (bif Nat.blt i 114 then ⟨"OrderAxiomsLaw", "ringAt", "(LOrderAxioms;I[J)I"⟩ else ⟨"OrderAxiomsLaw", "law", "([I)Z"⟩)))))))
def ox_b (i : Nat) : ByteArray := (bif Nat.blt i 57 then (bif Nat.blt i 28 then (bif Nat.blt i 14 then (bif Nat.blt i 7 then (bif Nat.blt i 3 then (bif Nat.blt i 1 then prog_2_method_2_code else (bif Nat.blt i 2 then prog_2_method_3_code else prog_2_method_4_code)) else (bif Nat.blt i 5 then (bif Nat.blt i 4 then prog_2_method_5_code else prog_2_method_6_code) else (bif Nat.blt i 6 then prog_2_method_7_code else prog_2_method_8_code))) else (bif Nat.blt i 10 then (bif Nat.blt i 8 then prog_2_method_9_code else (bif Nat.blt i 9 then prog_2_method_10_code else prog_2_method_11_code)) else (bif Nat.blt i 12 then (bif Nat.blt i 11 then prog_2_method_12_code else prog_3_method_2_code) else (bif Nat.blt i 13 then prog_3_method_3_code else prog_3_method_4_code)))) else (bif Nat.blt i 21 then (bif Nat.blt i 17 then (bif Nat.blt i 15 then prog_3_method_5_code else (bif Nat.blt i 16 then prog_3_method_6_code else prog_3_method_7_code)) else (bif Nat.blt i 19 then (bif Nat.blt i 18 then prog_3_method_8_code else prog_3_method_9_code) else (bif Nat.blt i 20 then prog_4_method_2_code else prog_4_method_3_code))) else (bif Nat.blt i 24 then (bif Nat.blt i 22 then prog_4_method_4_code else (bif Nat.blt i 23 then prog_4_method_5_code else prog_4_method_6_code)) else (bif Nat.blt i 26 then (bif Nat.blt i 25 then prog_5_method_2_code else prog_5_method_3_code) else (bif Nat.blt i 27 then prog_5_method_4_code else prog_5_method_5_code))))) else (bif Nat.blt i 42 then (bif Nat.blt i 35 then (bif Nat.blt i 31 then (bif Nat.blt i 29 then prog_5_method_6_code else (bif Nat.blt i 30 then prog_6_method_2_code else prog_6_method_3_code)) else (bif Nat.blt i 33 then (bif Nat.blt i 32 then prog_6_method_4_code else prog_1_method_2_code) else (bif Nat.blt i 34 then prog_1_method_3_code else prog_1_method_4_code))) else (bif Nat.blt i 38 then (bif Nat.blt i 36 then prog_1_method_5_code else (bif Nat.blt i 37 then prog_1_method_6_code else prog_1_method_7_code)) else (bif Nat.blt i 40 then (bif Nat.blt i 39 then prog_1_method_8_code else prog_1_method_9_code) else (bif Nat.blt i 41 then prog_1_method_10_code else prog_1_method_11_code)))) else (bif Nat.blt i 49 then (bif Nat.blt i 45 then (bif Nat.blt i 43 then prog_1_method_12_code else (bif Nat.blt i 44 then prog_1_method_13_code else prog_1_method_14_code)) else (bif Nat.blt i 47 then (bif Nat.blt i 46 then prog_1_method_15_code else prog_1_method_16_code) else (bif Nat.blt i 48 then prog_1_method_17_code else prog_1_method_18_code))) else (bif Nat.blt i 53 then (bif Nat.blt i 51 then (bif Nat.blt i 50 then prog_1_method_19_code else prog_1_method_20_code) else (bif Nat.blt i 52 then prog_9_method_2_code else prog_9_method_3_code)) else (bif Nat.blt i 55 then (bif Nat.blt i 54 then prog_9_method_4_code else prog_9_method_5_code) else (bif Nat.blt i 56 then prog_9_method_6_code else prog_9_method_7_code)))))) else (bif Nat.blt i 86 then (bif Nat.blt i 71 then (bif Nat.blt i 64 then (bif Nat.blt i 60 then (bif Nat.blt i 58 then prog_9_method_8_code else (bif Nat.blt i 59 then prog_9_method_9_code else prog_9_method_10_code)) else (bif Nat.blt i 62 then (bif Nat.blt i 61 then prog_9_method_11_code else prog_9_method_12_code) else (bif Nat.blt i 63 then prog_9_method_13_code else prog_9_method_14_code))) else (bif Nat.blt i 67 then (bif Nat.blt i 65 then prog_9_method_15_code else (bif Nat.blt i 66 then prog_9_method_16_code else prog_9_method_17_code)) else (bif Nat.blt i 69 then (bif Nat.blt i 68 then prog_9_method_18_code else prog_9_method_19_code) else (bif Nat.blt i 70 then prog_9_method_20_code else prog_9_method_21_code)))) else (bif Nat.blt i 78 then (bif Nat.blt i 74 then (bif Nat.blt i 72 then prog_9_method_22_code else (bif Nat.blt i 73 then prog_9_method_23_code else prog_9_method_24_code)) else (bif Nat.blt i 76 then (bif Nat.blt i 75 then prog_9_method_25_code else prog_9_method_26_code) else (bif Nat.blt i 77 then prog_9_method_27_code else prog_9_method_28_code))) else (bif Nat.blt i 82 then (bif Nat.blt i 80 then (bif Nat.blt i 79 then prog_9_method_29_code else prog_9_method_30_code) else (bif Nat.blt i 81 then prog_9_method_31_code else prog_9_method_32_code)) else (bif Nat.blt i 84 then (bif Nat.blt i 83 then prog_9_method_33_code else prog_9_method_34_code) else (bif Nat.blt i 85 then prog_9_method_35_code else prog_9_method_36_code))))) else (bif Nat.blt i 100 then (bif Nat.blt i 93 then (bif Nat.blt i 89 then (bif Nat.blt i 87 then prog_9_method_37_code else (bif Nat.blt i 88 then prog_9_method_38_code else prog_9_method_39_code)) else (bif Nat.blt i 91 then (bif Nat.blt i 90 then prog_9_method_40_code else prog_9_method_41_code) else (bif Nat.blt i 92 then prog_9_method_42_code else prog_9_method_43_code))) else (bif Nat.blt i 96 then (bif Nat.blt i 94 then prog_7_method_2_code else (bif Nat.blt i 95 then prog_7_method_3_code else prog_7_method_4_code)) else (bif Nat.blt i 98 then (bif Nat.blt i 97 then prog_7_method_5_code else prog_7_method_6_code) else (bif Nat.blt i 99 then prog_7_method_7_code else prog_7_method_8_code)))) else (bif Nat.blt i 107 then (bif Nat.blt i 103 then (bif Nat.blt i 101 then method_3_code else (bif Nat.blt i 102 then method_4_code else method_5_code)) else (bif Nat.blt i 105 then (bif Nat.blt i 104 then method_6_code else method_7_code) else (bif Nat.blt i 106 then method_8_code else method_9_code))) else (bif Nat.blt i 111 then (bif Nat.blt i 109 then (bif Nat.blt i 108 then method_10_code else method_11_code) else (bif Nat.blt i 110 then method_12_code else method_13_code)) else (bif Nat.blt i 113 then (bif Nat.blt i 112 then method_14_code else method_15_code) else (bif Nat.blt i 114 then method_16_code else code)))))))
def ox_mL (i : Nat) : Nat := (bif Nat.blt i 57 then (bif Nat.blt i 28 then (bif Nat.blt i 14 then (bif Nat.blt i 7 then (bif Nat.blt i 3 then (bif Nat.blt i 1 then 5 else (bif Nat.blt i 2 then 8 else 3)) else (bif Nat.blt i 5 then (bif Nat.blt i 4 then 6 else 4) else (bif Nat.blt i 6 then 4 else 5))) else (bif Nat.blt i 10 then (bif Nat.blt i 8 then 5 else (bif Nat.blt i 9 then 6 else 4)) else (bif Nat.blt i 12 then (bif Nat.blt i 11 then 6 else 4) else (bif Nat.blt i 13 then 6 else 2)))) else (bif Nat.blt i 21 then (bif Nat.blt i 17 then (bif Nat.blt i 15 then 5 else (bif Nat.blt i 16 then 2 else 5)) else (bif Nat.blt i 19 then (bif Nat.blt i 18 then 6 else 5) else (bif Nat.blt i 20 then 1 else 5))) else (bif Nat.blt i 24 then (bif Nat.blt i 22 then 2 else (bif Nat.blt i 23 then 4 else 3)) else (bif Nat.blt i 26 then (bif Nat.blt i 25 then 2 else 6) else (bif Nat.blt i 27 then 3 else 2))))) else (bif Nat.blt i 42 then (bif Nat.blt i 35 then (bif Nat.blt i 31 then (bif Nat.blt i 29 then 4 else (bif Nat.blt i 30 then 5 else 5)) else (bif Nat.blt i 33 then (bif Nat.blt i 32 then 4 else 1) else (bif Nat.blt i 34 then 5 else 4))) else (bif Nat.blt i 38 then (bif Nat.blt i 36 then 4 else (bif Nat.blt i 37 then 2 else 2)) else (bif Nat.blt i 40 then (bif Nat.blt i 39 then 3 else 3) else (bif Nat.blt i 41 then 3 else 4)))) else (bif Nat.blt i 49 then (bif Nat.blt i 45 then (bif Nat.blt i 43 then 2 else (bif Nat.blt i 44 then 3 else 4)) else (bif Nat.blt i 47 then (bif Nat.blt i 46 then 1 else 2) else (bif Nat.blt i 48 then 2 else 2))) else (bif Nat.blt i 53 then (bif Nat.blt i 51 then (bif Nat.blt i 50 then 2 else 1) else (bif Nat.blt i 52 then 1 else 3)) else (bif Nat.blt i 55 then (bif Nat.blt i 54 then 1 else 7) else (bif Nat.blt i 56 then 2 else 5)))))) else (bif Nat.blt i 86 then (bif Nat.blt i 71 then (bif Nat.blt i 64 then (bif Nat.blt i 60 then (bif Nat.blt i 58 then 2 else (bif Nat.blt i 59 then 4 else 5)) else (bif Nat.blt i 62 then (bif Nat.blt i 61 then 2 else 4) else (bif Nat.blt i 63 then 3 else 3))) else (bif Nat.blt i 67 then (bif Nat.blt i 65 then 4 else (bif Nat.blt i 66 then 5 else 5)) else (bif Nat.blt i 69 then (bif Nat.blt i 68 then 9 else 6) else (bif Nat.blt i 70 then 4 else 5)))) else (bif Nat.blt i 78 then (bif Nat.blt i 74 then (bif Nat.blt i 72 then 7 else (bif Nat.blt i 73 then 4 else 7)) else (bif Nat.blt i 76 then (bif Nat.blt i 75 then 6 else 5) else (bif Nat.blt i 77 then 4 else 8))) else (bif Nat.blt i 82 then (bif Nat.blt i 80 then (bif Nat.blt i 79 then 2 else 3) else (bif Nat.blt i 81 then 5 else 3)) else (bif Nat.blt i 84 then (bif Nat.blt i 83 then 3 else 3) else (bif Nat.blt i 85 then 6 else 5))))) else (bif Nat.blt i 100 then (bif Nat.blt i 93 then (bif Nat.blt i 89 then (bif Nat.blt i 87 then 2 else (bif Nat.blt i 88 then 3 else 4)) else (bif Nat.blt i 91 then (bif Nat.blt i 90 then 1 else 2) else (bif Nat.blt i 92 then 2 else 2))) else (bif Nat.blt i 96 then (bif Nat.blt i 94 then 6 else (bif Nat.blt i 95 then 6 else 5)) else (bif Nat.blt i 98 then (bif Nat.blt i 97 then 5 else 6) else (bif Nat.blt i 99 then 5 else 4)))) else (bif Nat.blt i 107 then (bif Nat.blt i 103 then (bif Nat.blt i 101 then 3 else (bif Nat.blt i 102 then 7 else 5)) else (bif Nat.blt i 105 then (bif Nat.blt i 104 then 6 else 4) else (bif Nat.blt i 106 then 4 else 3))) else (bif Nat.blt i 111 then (bif Nat.blt i 109 then (bif Nat.blt i 108 then 5 else 5) else (bif Nat.blt i 110 then 4 else 4)) else (bif Nat.blt i 113 then (bif Nat.blt i 112 then 5 else 6) else (bif Nat.blt i 114 then 4 else 7)))))))
def ox_rt (i : Nat) : Option FieldType := (bif Nat.blt i 57 then (bif Nat.blt i 28 then (bif Nat.blt i 14 then (bif Nat.blt i 7 then (bif Nat.blt i 3 then (bif Nat.blt i 1 then none else (bif Nat.blt i 2 then none else some .int)) else (bif Nat.blt i 5 then (bif Nat.blt i 4 then none else none) else (bif Nat.blt i 6 then none else none))) else (bif Nat.blt i 10 then (bif Nat.blt i 8 then none else (bif Nat.blt i 9 then none else none)) else (bif Nat.blt i 12 then (bif Nat.blt i 11 then none else none) else (bif Nat.blt i 13 then none else none)))) else (bif Nat.blt i 21 then (bif Nat.blt i 17 then (bif Nat.blt i 15 then some .int else (bif Nat.blt i 16 then some .int else none)) else (bif Nat.blt i 19 then (bif Nat.blt i 18 then none else some .int) else (bif Nat.blt i 20 then none else some .int))) else (bif Nat.blt i 24 then (bif Nat.blt i 22 then none else (bif Nat.blt i 23 then none else some .int)) else (bif Nat.blt i 26 then (bif Nat.blt i 25 then none else some .int) else (bif Nat.blt i 27 then some .boolean else some .int))))) else (bif Nat.blt i 42 then (bif Nat.blt i 35 then (bif Nat.blt i 31 then (bif Nat.blt i 29 then some .int else (bif Nat.blt i 30 then none else some .int)) else (bif Nat.blt i 33 then (bif Nat.blt i 32 then none else some .int) else (bif Nat.blt i 34 then some .int else some .boolean))) else (bif Nat.blt i 38 then (bif Nat.blt i 36 then some .int else (bif Nat.blt i 37 then some .int else some .int)) else (bif Nat.blt i 40 then (bif Nat.blt i 39 then some .int else some .int) else (bif Nat.blt i 41 then some .int else some .int)))) else (bif Nat.blt i 49 then (bif Nat.blt i 45 then (bif Nat.blt i 43 then some .int else (bif Nat.blt i 44 then some .int else some .boolean)) else (bif Nat.blt i 47 then (bif Nat.blt i 46 then some .int else some .int) else (bif Nat.blt i 48 then some .int else some .int))) else (bif Nat.blt i 53 then (bif Nat.blt i 51 then (bif Nat.blt i 50 then some .boolean else some .boolean) else (bif Nat.blt i 52 then some .int else some .boolean)) else (bif Nat.blt i 55 then (bif Nat.blt i 54 then some .int else some .int) else (bif Nat.blt i 56 then some .boolean else some .boolean)))))) else (bif Nat.blt i 86 then (bif Nat.blt i 71 then (bif Nat.blt i 64 then (bif Nat.blt i 60 then (bif Nat.blt i 58 then some .boolean else (bif Nat.blt i 59 then some .int else some .int)) else (bif Nat.blt i 62 then (bif Nat.blt i 61 then some .int else none) else (bif Nat.blt i 63 then some .int else some .int))) else (bif Nat.blt i 67 then (bif Nat.blt i 65 then some .int else (bif Nat.blt i 66 then some .int else some .int)) else (bif Nat.blt i 69 then (bif Nat.blt i 68 then none else none) else (bif Nat.blt i 70 then some .int else some .boolean)))) else (bif Nat.blt i 78 then (bif Nat.blt i 74 then (bif Nat.blt i 72 then some .boolean else (bif Nat.blt i 73 then some .boolean else some .boolean)) else (bif Nat.blt i 76 then (bif Nat.blt i 75 then some .boolean else none) else (bif Nat.blt i 77 then none else some .int))) else (bif Nat.blt i 82 then (bif Nat.blt i 80 then (bif Nat.blt i 79 then some .int else some .int) else (bif Nat.blt i 81 then none else some .int)) else (bif Nat.blt i 84 then (bif Nat.blt i 83 then some .int else some .int) else (bif Nat.blt i 85 then none else some .int))))) else (bif Nat.blt i 100 then (bif Nat.blt i 93 then (bif Nat.blt i 89 then (bif Nat.blt i 87 then some .int else (bif Nat.blt i 88 then some .int else some .boolean)) else (bif Nat.blt i 91 then (bif Nat.blt i 90 then some .int else some .int) else (bif Nat.blt i 92 then some .int else some .int))) else (bif Nat.blt i 96 then (bif Nat.blt i 94 then none else (bif Nat.blt i 95 then none else none)) else (bif Nat.blt i 98 then (bif Nat.blt i 97 then none else some .boolean) else (bif Nat.blt i 99 then some .int else some .int)))) else (bif Nat.blt i 107 then (bif Nat.blt i 103 then (bif Nat.blt i 101 then some .int else (bif Nat.blt i 102 then some .int else some .int)) else (bif Nat.blt i 105 then (bif Nat.blt i 104 then some .int else some .int) else (bif Nat.blt i 106 then some .int else some .int))) else (bif Nat.blt i 111 then (bif Nat.blt i 109 then (bif Nat.blt i 108 then some .int else some .int) else (bif Nat.blt i 110 then some .int else some .int)) else (bif Nat.blt i 113 then (bif Nat.blt i 112 then some .int else some .int) else (bif Nat.blt i 114 then some .int else some .boolean)))))))
def ox_ow (i : Nat) : Nat := (bif Nat.blt i 57 then (bif Nat.blt i 28 then (bif Nat.blt i 14 then (bif Nat.blt i 7 then (bif Nat.blt i 3 then (bif Nat.blt i 1 then 0 else (bif Nat.blt i 2 then 0 else 0)) else (bif Nat.blt i 5 then (bif Nat.blt i 4 then 0 else 0) else (bif Nat.blt i 6 then 0 else 0))) else (bif Nat.blt i 10 then (bif Nat.blt i 8 then 0 else (bif Nat.blt i 9 then 0 else 0)) else (bif Nat.blt i 12 then (bif Nat.blt i 11 then 0 else 1) else (bif Nat.blt i 13 then 1 else 1)))) else (bif Nat.blt i 21 then (bif Nat.blt i 17 then (bif Nat.blt i 15 then 1 else (bif Nat.blt i 16 then 1 else 1)) else (bif Nat.blt i 19 then (bif Nat.blt i 18 then 1 else 1) else (bif Nat.blt i 20 then 2 else 2))) else (bif Nat.blt i 24 then (bif Nat.blt i 22 then 2 else (bif Nat.blt i 23 then 2 else 2)) else (bif Nat.blt i 26 then (bif Nat.blt i 25 then 3 else 3) else (bif Nat.blt i 27 then 3 else 3))))) else (bif Nat.blt i 42 then (bif Nat.blt i 35 then (bif Nat.blt i 31 then (bif Nat.blt i 29 then 3 else (bif Nat.blt i 30 then 4 else 4)) else (bif Nat.blt i 33 then (bif Nat.blt i 32 then 4 else 5) else (bif Nat.blt i 34 then 5 else 5))) else (bif Nat.blt i 38 then (bif Nat.blt i 36 then 5 else (bif Nat.blt i 37 then 5 else 5)) else (bif Nat.blt i 40 then (bif Nat.blt i 39 then 5 else 5) else (bif Nat.blt i 41 then 5 else 5)))) else (bif Nat.blt i 49 then (bif Nat.blt i 45 then (bif Nat.blt i 43 then 5 else (bif Nat.blt i 44 then 5 else 5)) else (bif Nat.blt i 47 then (bif Nat.blt i 46 then 5 else 5) else (bif Nat.blt i 48 then 5 else 5))) else (bif Nat.blt i 53 then (bif Nat.blt i 51 then (bif Nat.blt i 50 then 5 else 5) else (bif Nat.blt i 52 then 6 else 6)) else (bif Nat.blt i 55 then (bif Nat.blt i 54 then 6 else 6) else (bif Nat.blt i 56 then 6 else 6)))))) else (bif Nat.blt i 86 then (bif Nat.blt i 71 then (bif Nat.blt i 64 then (bif Nat.blt i 60 then (bif Nat.blt i 58 then 6 else (bif Nat.blt i 59 then 6 else 6)) else (bif Nat.blt i 62 then (bif Nat.blt i 61 then 6 else 6) else (bif Nat.blt i 63 then 6 else 6))) else (bif Nat.blt i 67 then (bif Nat.blt i 65 then 6 else (bif Nat.blt i 66 then 6 else 6)) else (bif Nat.blt i 69 then (bif Nat.blt i 68 then 6 else 6) else (bif Nat.blt i 70 then 6 else 6)))) else (bif Nat.blt i 78 then (bif Nat.blt i 74 then (bif Nat.blt i 72 then 6 else (bif Nat.blt i 73 then 6 else 6)) else (bif Nat.blt i 76 then (bif Nat.blt i 75 then 6 else 6) else (bif Nat.blt i 77 then 6 else 6))) else (bif Nat.blt i 82 then (bif Nat.blt i 80 then (bif Nat.blt i 79 then 6 else 6) else (bif Nat.blt i 81 then 6 else 6)) else (bif Nat.blt i 84 then (bif Nat.blt i 83 then 6 else 6) else (bif Nat.blt i 85 then 6 else 6))))) else (bif Nat.blt i 100 then (bif Nat.blt i 93 then (bif Nat.blt i 89 then (bif Nat.blt i 87 then 6 else (bif Nat.blt i 88 then 6 else 6)) else (bif Nat.blt i 91 then (bif Nat.blt i 90 then 6 else 6) else (bif Nat.blt i 92 then 6 else 6))) else (bif Nat.blt i 96 then (bif Nat.blt i 94 then 7 else (bif Nat.blt i 95 then 7 else 7)) else (bif Nat.blt i 98 then (bif Nat.blt i 97 then 7 else 7) else (bif Nat.blt i 99 then 7 else 7)))) else (bif Nat.blt i 107 then (bif Nat.blt i 103 then (bif Nat.blt i 101 then 8 else (bif Nat.blt i 102 then 8 else 8)) else (bif Nat.blt i 105 then (bif Nat.blt i 104 then 8 else 8) else (bif Nat.blt i 106 then 8 else 8))) else (bif Nat.blt i 111 then (bif Nat.blt i 109 then (bif Nat.blt i 108 then 8 else 8) else (bif Nat.blt i 110 then 8 else 8)) else (bif Nat.blt i 113 then (bif Nat.blt i 112 then 8 else 8) else (bif Nat.blt i 114 then 8 else 8)))))))
def ox_sta (i : Nat) : Bool := (bif Nat.blt i 57 then (bif Nat.blt i 28 then (bif Nat.blt i 14 then (bif Nat.blt i 7 then (bif Nat.blt i 3 then (bif Nat.blt i 1 then false else (bif Nat.blt i 2 then false else false)) else (bif Nat.blt i 5 then (bif Nat.blt i 4 then false else false) else (bif Nat.blt i 6 then false else false))) else (bif Nat.blt i 10 then (bif Nat.blt i 8 then false else (bif Nat.blt i 9 then false else false)) else (bif Nat.blt i 12 then (bif Nat.blt i 11 then false else false) else (bif Nat.blt i 13 then false else false)))) else (bif Nat.blt i 21 then (bif Nat.blt i 17 then (bif Nat.blt i 15 then false else (bif Nat.blt i 16 then false else false)) else (bif Nat.blt i 19 then (bif Nat.blt i 18 then false else false) else (bif Nat.blt i 20 then false else false))) else (bif Nat.blt i 24 then (bif Nat.blt i 22 then false else (bif Nat.blt i 23 then false else false)) else (bif Nat.blt i 26 then (bif Nat.blt i 25 then false else false) else (bif Nat.blt i 27 then false else false))))) else (bif Nat.blt i 42 then (bif Nat.blt i 35 then (bif Nat.blt i 31 then (bif Nat.blt i 29 then false else (bif Nat.blt i 30 then false else false)) else (bif Nat.blt i 33 then (bif Nat.blt i 32 then false else false) else (bif Nat.blt i 34 then false else false))) else (bif Nat.blt i 38 then (bif Nat.blt i 36 then false else (bif Nat.blt i 37 then false else false)) else (bif Nat.blt i 40 then (bif Nat.blt i 39 then false else false) else (bif Nat.blt i 41 then false else false)))) else (bif Nat.blt i 49 then (bif Nat.blt i 45 then (bif Nat.blt i 43 then false else (bif Nat.blt i 44 then false else false)) else (bif Nat.blt i 47 then (bif Nat.blt i 46 then false else false) else (bif Nat.blt i 48 then false else false))) else (bif Nat.blt i 53 then (bif Nat.blt i 51 then (bif Nat.blt i 50 then true else true) else (bif Nat.blt i 52 then false else false)) else (bif Nat.blt i 55 then (bif Nat.blt i 54 then false else false) else (bif Nat.blt i 56 then false else false)))))) else (bif Nat.blt i 86 then (bif Nat.blt i 71 then (bif Nat.blt i 64 then (bif Nat.blt i 60 then (bif Nat.blt i 58 then true else (bif Nat.blt i 59 then false else false)) else (bif Nat.blt i 62 then (bif Nat.blt i 61 then false else false) else (bif Nat.blt i 63 then false else false))) else (bif Nat.blt i 67 then (bif Nat.blt i 65 then false else (bif Nat.blt i 66 then false else false)) else (bif Nat.blt i 69 then (bif Nat.blt i 68 then false else false) else (bif Nat.blt i 70 then false else false)))) else (bif Nat.blt i 78 then (bif Nat.blt i 74 then (bif Nat.blt i 72 then false else (bif Nat.blt i 73 then false else false)) else (bif Nat.blt i 76 then (bif Nat.blt i 75 then false else false) else (bif Nat.blt i 77 then false else false))) else (bif Nat.blt i 82 then (bif Nat.blt i 80 then (bif Nat.blt i 79 then false else false) else (bif Nat.blt i 81 then false else false)) else (bif Nat.blt i 84 then (bif Nat.blt i 83 then false else false) else (bif Nat.blt i 85 then false else false))))) else (bif Nat.blt i 100 then (bif Nat.blt i 93 then (bif Nat.blt i 89 then (bif Nat.blt i 87 then false else (bif Nat.blt i 88 then false else false)) else (bif Nat.blt i 91 then (bif Nat.blt i 90 then false else false) else (bif Nat.blt i 92 then false else false))) else (bif Nat.blt i 96 then (bif Nat.blt i 94 then true else (bif Nat.blt i 95 then true else true)) else (bif Nat.blt i 98 then (bif Nat.blt i 97 then true else true) else (bif Nat.blt i 99 then true else true)))) else (bif Nat.blt i 107 then (bif Nat.blt i 103 then (bif Nat.blt i 101 then true else (bif Nat.blt i 102 then true else true)) else (bif Nat.blt i 105 then (bif Nat.blt i 104 then true else true) else (bif Nat.blt i 106 then true else true))) else (bif Nat.blt i 111 then (bif Nat.blt i 109 then (bif Nat.blt i 108 then true else true) else (bif Nat.blt i 110 then true else true)) else (bif Nat.blt i 113 then (bif Nat.blt i 112 then true else true) else (bif Nat.blt i 114 then true else true)))))))
def ox_hh (i : Nat) : List (Nat × Nat × Nat × Nat) := (bif Nat.blt i 57 then (bif Nat.blt i 28 then (bif Nat.blt i 14 then (bif Nat.blt i 7 then (bif Nat.blt i 3 then (bif Nat.blt i 1 then [] else (bif Nat.blt i 2 then [] else [])) else (bif Nat.blt i 5 then (bif Nat.blt i 4 then [] else []) else (bif Nat.blt i 6 then [] else []))) else (bif Nat.blt i 10 then (bif Nat.blt i 8 then [] else (bif Nat.blt i 9 then [] else [])) else (bif Nat.blt i 12 then (bif Nat.blt i 11 then [] else []) else (bif Nat.blt i 13 then [] else [])))) else (bif Nat.blt i 21 then (bif Nat.blt i 17 then (bif Nat.blt i 15 then [] else (bif Nat.blt i 16 then [] else [])) else (bif Nat.blt i 19 then (bif Nat.blt i 18 then [] else []) else (bif Nat.blt i 20 then [] else []))) else (bif Nat.blt i 24 then (bif Nat.blt i 22 then [] else (bif Nat.blt i 23 then [] else [])) else (bif Nat.blt i 26 then (bif Nat.blt i 25 then [] else []) else (bif Nat.blt i 27 then [] else []))))) else (bif Nat.blt i 42 then (bif Nat.blt i 35 then (bif Nat.blt i 31 then (bif Nat.blt i 29 then [] else (bif Nat.blt i 30 then [] else [])) else (bif Nat.blt i 33 then (bif Nat.blt i 32 then [] else []) else (bif Nat.blt i 34 then [] else []))) else (bif Nat.blt i 38 then (bif Nat.blt i 36 then [] else (bif Nat.blt i 37 then [] else [])) else (bif Nat.blt i 40 then (bif Nat.blt i 39 then [] else []) else (bif Nat.blt i 41 then [] else [])))) else (bif Nat.blt i 49 then (bif Nat.blt i 45 then (bif Nat.blt i 43 then [] else (bif Nat.blt i 44 then [] else [])) else (bif Nat.blt i 47 then (bif Nat.blt i 46 then [] else []) else (bif Nat.blt i 48 then [] else []))) else (bif Nat.blt i 53 then (bif Nat.blt i 51 then (bif Nat.blt i 50 then [] else []) else (bif Nat.blt i 52 then [] else [])) else (bif Nat.blt i 55 then (bif Nat.blt i 54 then [] else []) else (bif Nat.blt i 56 then [] else [])))))) else (bif Nat.blt i 86 then (bif Nat.blt i 71 then (bif Nat.blt i 64 then (bif Nat.blt i 60 then (bif Nat.blt i 58 then [] else (bif Nat.blt i 59 then [] else [])) else (bif Nat.blt i 62 then (bif Nat.blt i 61 then [] else []) else (bif Nat.blt i 63 then [] else []))) else (bif Nat.blt i 67 then (bif Nat.blt i 65 then [] else (bif Nat.blt i 66 then [] else [])) else (bif Nat.blt i 69 then (bif Nat.blt i 68 then [] else []) else (bif Nat.blt i 70 then [] else [])))) else (bif Nat.blt i 78 then (bif Nat.blt i 74 then (bif Nat.blt i 72 then [] else (bif Nat.blt i 73 then [] else [])) else (bif Nat.blt i 76 then (bif Nat.blt i 75 then [] else []) else (bif Nat.blt i 77 then [] else []))) else (bif Nat.blt i 82 then (bif Nat.blt i 80 then (bif Nat.blt i 79 then [] else []) else (bif Nat.blt i 81 then [] else [])) else (bif Nat.blt i 84 then (bif Nat.blt i 83 then [] else []) else (bif Nat.blt i 85 then [] else []))))) else (bif Nat.blt i 100 then (bif Nat.blt i 93 then (bif Nat.blt i 89 then (bif Nat.blt i 87 then [] else (bif Nat.blt i 88 then [] else [])) else (bif Nat.blt i 91 then (bif Nat.blt i 90 then [] else []) else (bif Nat.blt i 92 then [] else []))) else (bif Nat.blt i 96 then (bif Nat.blt i 94 then [] else (bif Nat.blt i 95 then [] else [])) else (bif Nat.blt i 98 then (bif Nat.blt i 97 then [] else []) else (bif Nat.blt i 99 then [] else [])))) else (bif Nat.blt i 107 then (bif Nat.blt i 103 then (bif Nat.blt i 101 then [(0, 8, 11, 13)] else (bif Nat.blt i 102 then [(0, 14, 17, 19), (0, 14, 21, 13)] else [(0, 17, 20, 19)])) else (bif Nat.blt i 105 then (bif Nat.blt i 104 then [(0, 12, 15, 19), (0, 12, 19, 13)] else [(0, 9, 12, 19), (0, 9, 15, 13)]) else (bif Nat.blt i 106 then [(0, 9, 12, 19)] else [(0, 8, 11, 13)]))) else (bif Nat.blt i 111 then (bif Nat.blt i 109 then (bif Nat.blt i 108 then [(0, 10, 13, 43)] else [(0, 10, 13, 43)]) else (bif Nat.blt i 110 then [(0, 9, 12, 43), (0, 9, 15, 13)] else [(0, 9, 12, 43)])) else (bif Nat.blt i 113 then (bif Nat.blt i 112 then [(0, 10, 13, 43)] else [(0, 19, 22, 43)]) else (bif Nat.blt i 114 then [(0, 9, 12, 43)] else [])))))))
/-- the word of a method's code -/
def ox_cw (i : Nat) : Cond := match ox_hh i with
  | [] => .code (ox_nm i) (ox_b i) (ox_mL i) (ox_rt i)
  | h => .codeWith (ox_nm i) (ox_b i) (ox_mL i) (ox_rt i) h
def ox_cp (i : Nat) : Nat := (bif Nat.blt i 57 then (bif Nat.blt i 28 then (bif Nat.blt i 14 then (bif Nat.blt i 7 then (bif Nat.blt i 3 then (bif Nat.blt i 1 then 527 else (bif Nat.blt i 2 then 564 else 584)) else (bif Nat.blt i 5 then (bif Nat.blt i 4 then 568 else 544) else (bif Nat.blt i 6 then 531 else 535))) else (bif Nat.blt i 10 then (bif Nat.blt i 8 then 540 else (bif Nat.blt i 9 then 576 else 580)) else (bif Nat.blt i 12 then (bif Nat.blt i 11 then 548 else 510) else (bif Nat.blt i 13 then 591 else 595)))) else (bif Nat.blt i 21 then (bif Nat.blt i 17 then (bif Nat.blt i 15 then 623 else (bif Nat.blt i 16 then 627 else 515)) else (bif Nat.blt i 19 then (bif Nat.blt i 18 then 519 else 523) else (bif Nat.blt i 20 then 480 else 456))) else (bif Nat.blt i 24 then (bif Nat.blt i 22 then 469 else (bif Nat.blt i 23 then 484 else 490)) else (bif Nat.blt i 26 then (bif Nat.blt i 25 then 316 else 426) else (bif Nat.blt i 27 then 438 else 505))))) else (bif Nat.blt i 42 then (bif Nat.blt i 35 then (bif Nat.blt i 31 then (bif Nat.blt i 29 then 501 else (bif Nat.blt i 30 then 650 else 654)) else (bif Nat.blt i 33 then (bif Nat.blt i 32 then 661 else 324) else (bif Nat.blt i 34 then 400 else 433))) else (bif Nat.blt i 38 then (bif Nat.blt i 36 then 446 else (bif Nat.blt i 37 then 464 else 476)) else (bif Nat.blt i 40 then (bif Nat.blt i 39 then 497 else 603) else (bif Nat.blt i 41 then 637 else 645)))) else (bif Nat.blt i 49 then (bif Nat.blt i 45 then (bif Nat.blt i 43 then 669 else (bif Nat.blt i 44 then 677 else 685)) else (bif Nat.blt i 47 then (bif Nat.blt i 46 then 304 else 693) else (bif Nat.blt i 48 then 308 else 312))) else (bif Nat.blt i 53 then (bif Nat.blt i 51 then (bif Nat.blt i 50 then 403 else 450) else (bif Nat.blt i 52 then 820 else 828)) else (bif Nat.blt i 55 then (bif Nat.blt i 54 then 824 else 832) else (bif Nat.blt i 56 then 840 else 836)))))) else (bif Nat.blt i 85 then (bif Nat.blt i 71 then (bif Nat.blt i 64 then (bif Nat.blt i 60 then (bif Nat.blt i 58 then 847 else (bif Nat.blt i 59 then 851 else 844)) else (bif Nat.blt i 62 then (bif Nat.blt i 61 then 855 else 863) else (bif Nat.blt i 63 then 859 else 880))) else (bif Nat.blt i 67 then (bif Nat.blt i 65 then 876 else (bif Nat.blt i 66 then 871 else 892)) else (bif Nat.blt i 69 then (bif Nat.blt i 68 then 888 else 884) else (bif Nat.blt i 70 then 904 else 908)))) else (bif Nat.blt i 78 then (bif Nat.blt i 74 then (bif Nat.blt i 72 then 900 else (bif Nat.blt i 73 then 916 else 920)) else (bif Nat.blt i 76 then (bif Nat.blt i 75 then 912 else 924) else (bif Nat.blt i 77 then 896 else 932))) else (bif Nat.blt i 81 then (bif Nat.blt i 79 then 928 else (bif Nat.blt i 80 then 940 else 936)) else (bif Nat.blt i 83 then (bif Nat.blt i 82 then 867 else 944) else (bif Nat.blt i 84 then 948 else 956))))) else (bif Nat.blt i 99 then (bif Nat.blt i 92 then (bif Nat.blt i 88 then (bif Nat.blt i 86 then 952 else (bif Nat.blt i 87 then 960 else 964)) else (bif Nat.blt i 90 then (bif Nat.blt i 89 then 968 else 972) else (bif Nat.blt i 91 then 976 else 980))) else (bif Nat.blt i 95 then (bif Nat.blt i 93 then 984 else (bif Nat.blt i 94 then 560 else 551)) else (bif Nat.blt i 97 then (bif Nat.blt i 96 then 554 else 557) else (bif Nat.blt i 98 then 587 else 657)))) else (bif Nat.blt i 106 then (bif Nat.blt i 102 then (bif Nat.blt i 100 then 571 else (bif Nat.blt i 101 then 319 else 395)) else (bif Nat.blt i 104 then (bif Nat.blt i 103 then 429 else 442) else (bif Nat.blt i 105 then 460 else 472))) else (bif Nat.blt i 110 then (bif Nat.blt i 108 then (bif Nat.blt i 107 then 493 else 598) else (bif Nat.blt i 109 then 633 else 641)) else (bif Nat.blt i 112 then (bif Nat.blt i 111 then 665 else 673) else (bif Nat.blt i 113 then 681 else 689)))))))
def ox_ip (j : Nat) : Nat := (bif Nat.blt j 4 then (bif Nat.blt j 2 then (bif Nat.blt j 1 then 43 else 42) else (bif Nat.blt j 3 then 41 else 40)) else (bif Nat.blt j 6 then (bif Nat.blt j 5 then 44 else 39) else (bif Nat.blt j 7 then 45 else (bif Nat.blt j 8 then 51 else 38))))
def ox_kp (i : Nat) : Nat := (bif Nat.blt i 57 then (bif Nat.blt i 28 then (bif Nat.blt i 14 then (bif Nat.blt i 7 then (bif Nat.blt i 3 then (bif Nat.blt i 1 then 525 else (bif Nat.blt i 2 then 562 else 582)) else (bif Nat.blt i 5 then (bif Nat.blt i 4 then 567 else 543) else (bif Nat.blt i 6 then 530 else 534))) else (bif Nat.blt i 10 then (bif Nat.blt i 8 then 539 else (bif Nat.blt i 9 then 575 else 579)) else (bif Nat.blt i 12 then (bif Nat.blt i 11 then 547 else 508) else (bif Nat.blt i 13 then 589 else 593)))) else (bif Nat.blt i 21 then (bif Nat.blt i 17 then (bif Nat.blt i 15 then 621 else (bif Nat.blt i 16 then 626 else 514)) else (bif Nat.blt i 19 then (bif Nat.blt i 18 then 518 else 522) else (bif Nat.blt i 20 then 478 else 454))) else (bif Nat.blt i 24 then (bif Nat.blt i 22 then 467 else (bif Nat.blt i 23 then 482 else 488)) else (bif Nat.blt i 26 then (bif Nat.blt i 25 then 314 else 424) else (bif Nat.blt i 27 then 436 else 503))))) else (bif Nat.blt i 42 then (bif Nat.blt i 35 then (bif Nat.blt i 31 then (bif Nat.blt i 29 then 499 else (bif Nat.blt i 30 then 648 else 653)) else (bif Nat.blt i 33 then (bif Nat.blt i 32 then 660 else 322) else (bif Nat.blt i 34 then 398 else 431))) else (bif Nat.blt i 38 then (bif Nat.blt i 36 then 444 else (bif Nat.blt i 37 then 462 else 474)) else (bif Nat.blt i 40 then (bif Nat.blt i 39 then 495 else 601) else (bif Nat.blt i 41 then 635 else 643)))) else (bif Nat.blt i 49 then (bif Nat.blt i 45 then (bif Nat.blt i 43 then 667 else (bif Nat.blt i 44 then 675 else 683)) else (bif Nat.blt i 47 then (bif Nat.blt i 46 then 302 else 691) else (bif Nat.blt i 48 then 306 else 310))) else (bif Nat.blt i 53 then (bif Nat.blt i 51 then (bif Nat.blt i 50 then 402 else 449) else (bif Nat.blt i 52 then 818 else 827)) else (bif Nat.blt i 55 then (bif Nat.blt i 54 then 822 else 830) else (bif Nat.blt i 56 then 839 else 834)))))) else (bif Nat.blt i 85 then (bif Nat.blt i 71 then (bif Nat.blt i 64 then (bif Nat.blt i 60 then (bif Nat.blt i 58 then 846 else (bif Nat.blt i 59 then 850 else 842)) else (bif Nat.blt i 62 then (bif Nat.blt i 61 then 853 else 862) else (bif Nat.blt i 63 then 857 else 879))) else (bif Nat.blt i 67 then (bif Nat.blt i 65 then 875 else (bif Nat.blt i 66 then 870 else 891)) else (bif Nat.blt i 69 then (bif Nat.blt i 68 then 887 else 883) else (bif Nat.blt i 70 then 903 else 907)))) else (bif Nat.blt i 78 then (bif Nat.blt i 74 then (bif Nat.blt i 72 then 899 else (bif Nat.blt i 73 then 915 else 919)) else (bif Nat.blt i 76 then (bif Nat.blt i 75 then 911 else 923) else (bif Nat.blt i 77 then 895 else 931))) else (bif Nat.blt i 81 then (bif Nat.blt i 79 then 927 else (bif Nat.blt i 80 then 939 else 935)) else (bif Nat.blt i 83 then (bif Nat.blt i 82 then 865 else 942) else (bif Nat.blt i 84 then 946 else 955))))) else (bif Nat.blt i 99 then (bif Nat.blt i 92 then (bif Nat.blt i 88 then (bif Nat.blt i 86 then 950 else (bif Nat.blt i 87 then 958 else 962)) else (bif Nat.blt i 90 then (bif Nat.blt i 89 then 966 else 970) else (bif Nat.blt i 91 then 974 else 978))) else (bif Nat.blt i 95 then (bif Nat.blt i 93 then 982 else (bif Nat.blt i 94 then 559 else 550)) else (bif Nat.blt i 97 then (bif Nat.blt i 96 then 553 else 556) else (bif Nat.blt i 98 then 586 else 656)))) else (bif Nat.blt i 106 then (bif Nat.blt i 102 then (bif Nat.blt i 100 then 570 else (bif Nat.blt i 101 then 318 else 394)) else (bif Nat.blt i 104 then (bif Nat.blt i 103 then 428 else 441) else (bif Nat.blt i 105 then 459 else 471))) else (bif Nat.blt i 110 then (bif Nat.blt i 108 then (bif Nat.blt i 107 then 492 else 597) else (bif Nat.blt i 109 then 632 else 640)) else (bif Nat.blt i 112 then (bif Nat.blt i 111 then 664 else 672) else (bif Nat.blt i 113 then 680 else 688)))))))
def ox_sp (i : Nat) : Nat := (bif Nat.blt i 57 then (bif Nat.blt i 28 then (bif Nat.blt i 14 then (bif Nat.blt i 7 then (bif Nat.blt i 3 then (bif Nat.blt i 1 then 526 else (bif Nat.blt i 2 then 563 else 583)) else (bif Nat.blt i 5 then (bif Nat.blt i 4 then 9 else 7) else (bif Nat.blt i 6 then 4 else 5))) else (bif Nat.blt i 10 then (bif Nat.blt i 8 then 6 else (bif Nat.blt i 9 then 10 else 11)) else (bif Nat.blt i 12 then (bif Nat.blt i 11 then 8 else 509) else (bif Nat.blt i 13 then 590 else 594)))) else (bif Nat.blt i 21 then (bif Nat.blt i 17 then (bif Nat.blt i 15 then 622 else (bif Nat.blt i 16 then 12 else 1)) else (bif Nat.blt i 19 then (bif Nat.blt i 18 then 2 else 3) else (bif Nat.blt i 20 then 479 else 455))) else (bif Nat.blt i 24 then (bif Nat.blt i 22 then 468 else (bif Nat.blt i 23 then 483 else 489)) else (bif Nat.blt i 26 then (bif Nat.blt i 25 then 315 else 425) else (bif Nat.blt i 27 then 437 else 504))))) else (bif Nat.blt i 42 then (bif Nat.blt i 35 then (bif Nat.blt i 31 then (bif Nat.blt i 29 then 500 else (bif Nat.blt i 30 then 649 else 13)) else (bif Nat.blt i 33 then (bif Nat.blt i 32 then 14 else 323) else (bif Nat.blt i 34 then 399 else 432))) else (bif Nat.blt i 38 then (bif Nat.blt i 36 then 445 else (bif Nat.blt i 37 then 463 else 475)) else (bif Nat.blt i 40 then (bif Nat.blt i 39 then 496 else 602) else (bif Nat.blt i 41 then 636 else 644)))) else (bif Nat.blt i 49 then (bif Nat.blt i 45 then (bif Nat.blt i 43 then 668 else (bif Nat.blt i 44 then 676 else 684)) else (bif Nat.blt i 47 then (bif Nat.blt i 46 then 303 else 692) else (bif Nat.blt i 48 then 307 else 311))) else (bif Nat.blt i 53 then (bif Nat.blt i 51 then (bif Nat.blt i 50 then 0 else 0) else (bif Nat.blt i 52 then 819 else 15)) else (bif Nat.blt i 55 then (bif Nat.blt i 54 then 823 else 831) else (bif Nat.blt i 56 then 16 else 835)))))) else (bif Nat.blt i 85 then (bif Nat.blt i 71 then (bif Nat.blt i 64 then (bif Nat.blt i 60 then (bif Nat.blt i 58 then 0 else (bif Nat.blt i 59 then 17 else 843)) else (bif Nat.blt i 62 then (bif Nat.blt i 61 then 854 else 18) else (bif Nat.blt i 63 then 858 else 21))) else (bif Nat.blt i 67 then (bif Nat.blt i 65 then 20 else (bif Nat.blt i 66 then 19 else 24)) else (bif Nat.blt i 69 then (bif Nat.blt i 68 then 23 else 22) else (bif Nat.blt i 70 then 27 else 28)))) else (bif Nat.blt i 78 then (bif Nat.blt i 74 then (bif Nat.blt i 72 then 26 else (bif Nat.blt i 73 then 30 else 31)) else (bif Nat.blt i 76 then (bif Nat.blt i 75 then 29 else 32) else (bif Nat.blt i 77 then 25 else 34))) else (bif Nat.blt i 81 then (bif Nat.blt i 79 then 33 else (bif Nat.blt i 80 then 36 else 35)) else (bif Nat.blt i 83 then (bif Nat.blt i 82 then 866 else 943) else (bif Nat.blt i 84 then 947 else 37))))) else (bif Nat.blt i 99 then (bif Nat.blt i 92 then (bif Nat.blt i 88 then (bif Nat.blt i 86 then 951 else (bif Nat.blt i 87 then 959 else 963)) else (bif Nat.blt i 90 then (bif Nat.blt i 89 then 967 else 971) else (bif Nat.blt i 91 then 975 else 979))) else (bif Nat.blt i 95 then (bif Nat.blt i 93 then 983 else (bif Nat.blt i 94 then 0 else 0)) else (bif Nat.blt i 97 then (bif Nat.blt i 96 then 0 else 0) else (bif Nat.blt i 98 then 0 else 0)))) else (bif Nat.blt i 106 then (bif Nat.blt i 102 then (bif Nat.blt i 100 then 0 else (bif Nat.blt i 101 then 0 else 0)) else (bif Nat.blt i 104 then (bif Nat.blt i 103 then 0 else 0) else (bif Nat.blt i 105 then 0 else 0))) else (bif Nat.blt i 110 then (bif Nat.blt i 108 then (bif Nat.blt i 107 then 0 else 0) else (bif Nat.blt i 109 then 0 else 0)) else (bif Nat.blt i 112 then (bif Nat.blt i 111 then 0 else 0) else (bif Nat.blt i 113 then 0 else 0)))))))
theorem ox_w1g : ∀ i, i < 114 → goodWord (ox_cw i) = true := by decide +kernel
set_option maxRecDepth 100000 in
set_option maxHeartbeats 4000000 in
theorem ox_w1 : ∀ i, i < 114 → ox_cw i ∈ lw_tbl := by
  intro i hi
  match i, hi with
  | 0, _ => exact List.mem_of_getElem? (i := 527) rfl
  | 1, _ => exact List.mem_of_getElem? (i := 564) rfl
  | 2, _ => exact List.mem_of_getElem? (i := 584) rfl
  | 3, _ => exact List.mem_of_getElem? (i := 568) rfl
  | 4, _ => exact List.mem_of_getElem? (i := 544) rfl
  | 5, _ => exact List.mem_of_getElem? (i := 531) rfl
  | 6, _ => exact List.mem_of_getElem? (i := 535) rfl
  | 7, _ => exact List.mem_of_getElem? (i := 540) rfl
  | 8, _ => exact List.mem_of_getElem? (i := 576) rfl
  | 9, _ => exact List.mem_of_getElem? (i := 580) rfl
  | 10, _ => exact List.mem_of_getElem? (i := 548) rfl
  | 11, _ => exact List.mem_of_getElem? (i := 510) rfl
  | 12, _ => exact List.mem_of_getElem? (i := 591) rfl
  | 13, _ => exact List.mem_of_getElem? (i := 595) rfl
  | 14, _ => exact List.mem_of_getElem? (i := 623) rfl
  | 15, _ => exact List.mem_of_getElem? (i := 627) rfl
  | 16, _ => exact List.mem_of_getElem? (i := 515) rfl
  | 17, _ => exact List.mem_of_getElem? (i := 519) rfl
  | 18, _ => exact List.mem_of_getElem? (i := 523) rfl
  | 19, _ => exact List.mem_of_getElem? (i := 480) rfl
  | 20, _ => exact List.mem_of_getElem? (i := 456) rfl
  | 21, _ => exact List.mem_of_getElem? (i := 469) rfl
  | 22, _ => exact List.mem_of_getElem? (i := 484) rfl
  | 23, _ => exact List.mem_of_getElem? (i := 490) rfl
  | 24, _ => exact List.mem_of_getElem? (i := 316) rfl
  | 25, _ => exact List.mem_of_getElem? (i := 426) rfl
  | 26, _ => exact List.mem_of_getElem? (i := 438) rfl
  | 27, _ => exact List.mem_of_getElem? (i := 505) rfl
  | 28, _ => exact List.mem_of_getElem? (i := 501) rfl
  | 29, _ => exact List.mem_of_getElem? (i := 650) rfl
  | 30, _ => exact List.mem_of_getElem? (i := 654) rfl
  | 31, _ => exact List.mem_of_getElem? (i := 661) rfl
  | 32, _ => exact List.mem_of_getElem? (i := 324) rfl
  | 33, _ => exact List.mem_of_getElem? (i := 400) rfl
  | 34, _ => exact List.mem_of_getElem? (i := 433) rfl
  | 35, _ => exact List.mem_of_getElem? (i := 446) rfl
  | 36, _ => exact List.mem_of_getElem? (i := 464) rfl
  | 37, _ => exact List.mem_of_getElem? (i := 476) rfl
  | 38, _ => exact List.mem_of_getElem? (i := 497) rfl
  | 39, _ => exact List.mem_of_getElem? (i := 603) rfl
  | 40, _ => exact List.mem_of_getElem? (i := 637) rfl
  | 41, _ => exact List.mem_of_getElem? (i := 645) rfl
  | 42, _ => exact List.mem_of_getElem? (i := 669) rfl
  | 43, _ => exact List.mem_of_getElem? (i := 677) rfl
  | 44, _ => exact List.mem_of_getElem? (i := 685) rfl
  | 45, _ => exact List.mem_of_getElem? (i := 304) rfl
  | 46, _ => exact List.mem_of_getElem? (i := 693) rfl
  | 47, _ => exact List.mem_of_getElem? (i := 308) rfl
  | 48, _ => exact List.mem_of_getElem? (i := 312) rfl
  | 49, _ => exact List.mem_of_getElem? (i := 403) rfl
  | 50, _ => exact List.mem_of_getElem? (i := 450) rfl
  | 51, _ => exact List.mem_of_getElem? (i := 820) rfl
  | 52, _ => exact List.mem_of_getElem? (i := 828) rfl
  | 53, _ => exact List.mem_of_getElem? (i := 824) rfl
  | 54, _ => exact List.mem_of_getElem? (i := 832) rfl
  | 55, _ => exact List.mem_of_getElem? (i := 840) rfl
  | 56, _ => exact List.mem_of_getElem? (i := 836) rfl
  | 57, _ => exact List.mem_of_getElem? (i := 847) rfl
  | 58, _ => exact List.mem_of_getElem? (i := 851) rfl
  | 59, _ => exact List.mem_of_getElem? (i := 844) rfl
  | 60, _ => exact List.mem_of_getElem? (i := 855) rfl
  | 61, _ => exact List.mem_of_getElem? (i := 863) rfl
  | 62, _ => exact List.mem_of_getElem? (i := 859) rfl
  | 63, _ => exact List.mem_of_getElem? (i := 880) rfl
  | 64, _ => exact List.mem_of_getElem? (i := 876) rfl
  | 65, _ => exact List.mem_of_getElem? (i := 871) rfl
  | 66, _ => exact List.mem_of_getElem? (i := 892) rfl
  | 67, _ => exact List.mem_of_getElem? (i := 888) rfl
  | 68, _ => exact List.mem_of_getElem? (i := 884) rfl
  | 69, _ => exact List.mem_of_getElem? (i := 904) rfl
  | 70, _ => exact List.mem_of_getElem? (i := 908) rfl
  | 71, _ => exact List.mem_of_getElem? (i := 900) rfl
  | 72, _ => exact List.mem_of_getElem? (i := 916) rfl
  | 73, _ => exact List.mem_of_getElem? (i := 920) rfl
  | 74, _ => exact List.mem_of_getElem? (i := 912) rfl
  | 75, _ => exact List.mem_of_getElem? (i := 924) rfl
  | 76, _ => exact List.mem_of_getElem? (i := 896) rfl
  | 77, _ => exact List.mem_of_getElem? (i := 932) rfl
  | 78, _ => exact List.mem_of_getElem? (i := 928) rfl
  | 79, _ => exact List.mem_of_getElem? (i := 940) rfl
  | 80, _ => exact List.mem_of_getElem? (i := 936) rfl
  | 81, _ => exact List.mem_of_getElem? (i := 867) rfl
  | 82, _ => exact List.mem_of_getElem? (i := 944) rfl
  | 83, _ => exact List.mem_of_getElem? (i := 948) rfl
  | 84, _ => exact List.mem_of_getElem? (i := 956) rfl
  | 85, _ => exact List.mem_of_getElem? (i := 952) rfl
  | 86, _ => exact List.mem_of_getElem? (i := 960) rfl
  | 87, _ => exact List.mem_of_getElem? (i := 964) rfl
  | 88, _ => exact List.mem_of_getElem? (i := 968) rfl
  | 89, _ => exact List.mem_of_getElem? (i := 972) rfl
  | 90, _ => exact List.mem_of_getElem? (i := 976) rfl
  | 91, _ => exact List.mem_of_getElem? (i := 980) rfl
  | 92, _ => exact List.mem_of_getElem? (i := 984) rfl
  | 93, _ => exact List.mem_of_getElem? (i := 560) rfl
  | 94, _ => exact List.mem_of_getElem? (i := 551) rfl
  | 95, _ => exact List.mem_of_getElem? (i := 554) rfl
  | 96, _ => exact List.mem_of_getElem? (i := 557) rfl
  | 97, _ => exact List.mem_of_getElem? (i := 587) rfl
  | 98, _ => exact List.mem_of_getElem? (i := 657) rfl
  | 99, _ => exact List.mem_of_getElem? (i := 571) rfl
  | 100, _ => exact List.mem_of_getElem? (i := 319) rfl
  | 101, _ => exact List.mem_of_getElem? (i := 395) rfl
  | 102, _ => exact List.mem_of_getElem? (i := 429) rfl
  | 103, _ => exact List.mem_of_getElem? (i := 442) rfl
  | 104, _ => exact List.mem_of_getElem? (i := 460) rfl
  | 105, _ => exact List.mem_of_getElem? (i := 472) rfl
  | 106, _ => exact List.mem_of_getElem? (i := 493) rfl
  | 107, _ => exact List.mem_of_getElem? (i := 598) rfl
  | 108, _ => exact List.mem_of_getElem? (i := 633) rfl
  | 109, _ => exact List.mem_of_getElem? (i := 641) rfl
  | 110, _ => exact List.mem_of_getElem? (i := 665) rfl
  | 111, _ => exact List.mem_of_getElem? (i := 673) rfl
  | 112, _ => exact List.mem_of_getElem? (i := 681) rfl
  | 113, _ => exact List.mem_of_getElem? (i := 689) rfl
  | k + 114, h => exact absurd h (by omega)
theorem ox_w2 : ∀ j, j < 9 → lw_tbl[ox_ip j]? = some (.initialized (ox_R j)) := by decide +kernel
theorem ox_w3 : ∀ i, i < 114 → (ox_sta i = true → lw_tbl[ox_kp i]? = some (.static (ox_nm i))) ∧ (ox_sta i = false → lw_tbl[ox_kp i]? = some (.instanceMethod (ox_nm i)) ∧ lw_tbl[ox_sp i]? = some (.selects (ox_nm i).cls (ox_nm i) (ox_nm i))) := by decide +kernel
theorem ox_w4 : ∀ i, i < 115 → (ox_nm i).cls = ox_R (ox_ow i) ∧ ox_ow i < 9 ∧ ox_mL i ≤ 9 ∧ plainName (ox_nm i).cls = true ∧ (ox_nm i).cls ≠ "java/lang/invoke/MethodHandle" ∧ (ox_nm i).cls ≠ "java/lang/invoke/VarHandle" := by decide +kernel
def ox_FL : List (Nat × Nat × Nat × Nat × Nat) := [(0, 9, 0, 3, 221),
  (0, 15, 0, 4, 223),
  (0, 18, 0, 5, 225),
  (0, 23, 0, 6, 227),
  (0, 26, 0, 7, 229),
  (0, 29, 0, 8, 231),
  (0, 32, 0, 9, 232),
  (0, 36, 0, 10, 233),
  (0, 39, 0, 11, 234),
  (0, 42, 3, 1, 72),
  (0, 48, 0, 0, 215),
  (0, 49, 2, 0, 134),
  (0, 54, 0, 1, 217),
  (0, 55, 3, 2, 77),
  (0, 58, 0, 2, 219),
  (0, 67, 0, 12, 235),
  (0, 70, 2, 3, 142),
  (0, 73, 2, 4, 144),
  (0, 80, 3, 9, 94),
  (0, 91, 3, 11, 99),
  (0, 97, 2, 1, 137),
  (0, 100, 2, 5, 146),
  (0, 109, 3, 10, 97),
  (0, 116, 3, 7, 90),
  (0, 126, 3, 4, 83),
  (0, 133, 3, 5, 85),
  (0, 136, 3, 8, 92),
  (0, 143, 3, 3, 80),
  (0, 146, 2, 2, 140),
  (1, 9, 1, 4, 176),
  (1, 15, 1, 5, 178),
  (1, 18, 1, 6, 180),
  (1, 21, 1, 7, 181),
  (1, 24, 1, 8, 182),
  (1, 29, 1, 9, 183),
  (1, 32, 1, 10, 184),
  (1, 35, 1, 0, 168),
  (1, 39, 1, 1, 170),
  (1, 42, 1, 2, 172),
  (1, 45, 3, 2, 76),
  (1, 50, 1, 3, 174),
  (1, 68, 3, 9, 95),
  (1, 71, 3, 6, 87),
  (1, 74, 3, 11, 100),
  (2, 9, 2, 0, 133),
  (2, 15, 2, 2, 139),
  (2, 19, 2, 3, 141),
  (2, 22, 2, 4, 143),
  (2, 25, 2, 5, 145),
  (2, 28, 2, 1, 136),
  (3, 9, 3, 3, 79),
  (3, 15, 3, 4, 81),
  (3, 18, 3, 5, 84),
  (3, 21, 3, 6, 86),
  (3, 24, 3, 7, 88),
  (3, 27, 3, 8, 91),
  (3, 30, 3, 9, 93),
  (3, 33, 3, 10, 96),
  (3, 38, 3, 11, 98),
  (3, 41, 3, 0, 70),
  (3, 45, 3, 1, 73),
  (3, 48, 3, 2, 75),
  (4, 9, 4, 1, 272),
  (4, 15, 4, 2, 274),
  (4, 18, 4, 0, 270),
  (5, 10, 5, 0, 282),
  (5, 19, 5, 1, 283),
  (5, 26, 5, 2, 284),
  (5, 33, 5, 3, 285),
  (5, 37, 5, 4, 286),
  (5, 43, 5, 5, 287),
  (5, 47, 3, 0, 71),
  (5, 71, 3, 1, 74),
  (5, 82, 3, 4, 82),
  (5, 91, 3, 7, 89),
  (5, 96, 2, 0, 135),
  (5, 111, 2, 1, 138),
  (5, 153, 0, 3, 222),
  (5, 163, 1, 2, 173),
  (5, 166, 1, 3, 175),
  (5, 180, 1, 4, 177),
  (5, 183, 1, 5, 179),
  (5, 188, 4, 0, 271),
  (5, 191, 0, 7, 230),
  (5, 195, 2, 5, 147),
  (5, 198, 0, 0, 216),
  (5, 203, 0, 2, 220),
  (5, 206, 0, 4, 224),
  (5, 209, 0, 5, 226),
  (5, 214, 0, 6, 228),
  (5, 217, 0, 1, 218),
  (5, 222, 4, 1, 273),
  (5, 225, 3, 2, 78),
  (5, 226, 1, 0, 169),
  (5, 229, 1, 1, 171),
  (6, 7, 6, 3, 705),
  (6, 13, 6, 4, 706),
  (6, 16, 6, 5, 707),
  (6, 19, 6, 6, 708),
  (6, 22, 6, 7, 709),
  (6, 26, 6, 8, 710),
  (6, 30, 6, 9, 711),
  (6, 33, 6, 10, 712),
  (6, 36, 6, 11, 713),
  (6, 39, 6, 13, 715),
  (6, 42, 6, 14, 716),
  (6, 45, 6, 15, 717),
  (6, 48, 6, 16, 718),
  (6, 51, 6, 17, 719),
  (6, 54, 6, 18, 720),
  (6, 57, 6, 19, 721),
  (6, 60, 6, 24, 726),
  (6, 64, 6, 25, 727),
  (6, 67, 6, 26, 728),
  (6, 70, 6, 27, 729),
  (6, 73, 6, 28, 730),
  (6, 76, 6, 33, 735),
  (6, 79, 6, 34, 736),
  (6, 82, 6, 35, 737),
  (6, 85, 6, 36, 738),
  (6, 88, 6, 37, 739),
  (6, 91, 6, 0, 702),
  (6, 94, 6, 1, 703),
  (6, 101, 6, 2, 704),
  (6, 116, 6, 12, 714),
  (6, 167, 6, 23, 725),
  (6, 170, 6, 20, 722),
  (6, 179, 6, 21, 723),
  (6, 182, 6, 22, 724),
  (6, 197, 6, 32, 734),
  (6, 203, 6, 29, 731),
  (6, 206, 6, 30, 732),
  (6, 209, 6, 31, 733)]
def ox_ML : List (Nat × Nat × Nat × Nat × Nat) := [(0, 59, 5, 2, 528),
  (0, 63, 4, 3, 541),
  (0, 76, 10, 3, 545),
  (0, 83, 3, 3, 565),
  (0, 87, 27, 2, 572),
  (0, 94, 8, 2, 573),
  (0, 103, 97, 2, 585),
  (0, 112, 99, 2, 569),
  (0, 119, 6, 3, 532),
  (0, 122, 26, 3, 536),
  (0, 129, 7, 5, 537),
  (0, 139, 9, 4, 577),
  (0, 149, 94, 4, 549),
  (0, 153, 95, 3, 552),
  (0, 157, 96, 3, 555),
  (0, 160, 93, 5, 558),
  (1, 51, 27, 2, 511),
  (1, 55, 16, 3, 512),
  (1, 59, 15, 2, 624),
  (1, 77, 17, 3, 516),
  (1, 81, 18, 3, 520),
  (2, 35, 20, 4, 485),
  (2, 39, 21, 2, 486),
  (3, 51, 27, 2, 502),
  (4, 22, 30, 4, 651),
  (4, 26, 31, 3, 658),
  (4, 30, 98, 3, 655),
  (4, 35, 99, 2, 662),
  (5, 58, 49, 2, 401),
  (5, 76, 25, 5, 423),
  (5, 86, 26, 3, 435),
  (5, 99, 50, 1, 448),
  (5, 107, 20, 4, 453),
  (5, 116, 21, 2, 466),
  (5, 120, 19, 1, 477),
  (5, 123, 22, 3, 481),
  (5, 127, 23, 2, 487),
  (5, 131, 28, 1, 498),
  (5, 137, 11, 3, 507),
  (5, 141, 0, 4, 524),
  (5, 145, 1, 4, 561),
  (5, 149, 2, 2, 581),
  (5, 156, 12, 3, 588),
  (5, 160, 13, 1, 592),
  (5, 174, 14, 3, 620),
  (5, 199, 29, 3, 647),
  (5, 232, 24, 1, 313),
  (6, 97, 52, 3, 825),
  (6, 104, 55, 2, 837),
  (6, 108, 57, 2, 845),
  (6, 112, 58, 4, 848),
  (6, 119, 61, 3, 860),
  (6, 125, 64, 2, 873),
  (6, 129, 67, 3, 885),
  (6, 132, 63, 1, 877),
  (6, 136, 66, 3, 889),
  (6, 140, 69, 2, 901),
  (6, 143, 70, 3, 905),
  (6, 146, 72, 4, 913),
  (6, 150, 73, 5, 917),
  (6, 154, 71, 4, 897),
  (6, 157, 74, 4, 909),
  (6, 160, 75, 2, 921),
  (6, 164, 77, 2, 929),
  (6, 173, 79, 2, 937),
  (6, 176, 65, 1, 868),
  (6, 185, 68, 2, 881),
  (6, 188, 76, 1, 893),
  (6, 191, 78, 1, 925),
  (6, 194, 80, 2, 933),
  (6, 200, 84, 2, 953),
  (8, 7, 32, 1, 321),
  (8, 15, 33, 5, 397),
  (8, 21, 34, 3, 430),
  (8, 25, 35, 4, 443),
  (8, 29, 36, 2, 461),
  (8, 33, 37, 2, 473),
  (8, 36, 38, 1, 494),
  (8, 39, 39, 3, 600),
  (8, 45, 40, 3, 634),
  (8, 48, 41, 2, 642),
  (8, 51, 42, 2, 666),
  (8, 54, 43, 3, 674),
  (8, 57, 44, 4, 682),
  (8, 61, 46, 2, 690),
  (8, 68, 100, 2, 317),
  (8, 73, 53, 1, 821),
  (8, 74, 51, 1, 817),
  (8, 77, 101, 6, 393),
  (8, 80, 54, 5, 829),
  (8, 81, 102, 4, 427),
  (8, 84, 56, 3, 833),
  (8, 85, 103, 5, 440),
  (8, 88, 59, 4, 841),
  (8, 89, 104, 3, 458),
  (8, 92, 60, 2, 852),
  (8, 93, 105, 3, 470),
  (8, 95, 62, 2, 856),
  (8, 96, 106, 2, 491),
  (8, 98, 81, 1, 864),
  (8, 99, 107, 4, 596),
  (8, 101, 82, 3, 941),
  (8, 102, 108, 4, 631),
  (8, 104, 83, 3, 945),
  (8, 105, 109, 3, 639),
  (8, 107, 85, 2, 949),
  (8, 108, 110, 3, 663),
  (8, 110, 86, 2, 957),
  (8, 111, 111, 4, 671),
  (8, 113, 87, 3, 961),
  (8, 114, 112, 5, 679),
  (8, 116, 88, 4, 965),
  (8, 117, 45, 1, 301),
  (8, 120, 89, 1, 969),
  (8, 121, 113, 3, 687),
  (8, 123, 90, 2, 973),
  (8, 124, 47, 2, 305),
  (8, 127, 91, 2, 977),
  (8, 128, 48, 1, 309),
  (8, 131, 92, 1, 981)]
def ox_MM : List (Nat × Nat × Nat × Nat × Nat) := [(1, 62, 901, 2, 628)]
def ox_NL : List (Nat × Nat × Nat × Nat × Nat) := [(2, 31, 50, 1, 457)]
def ox_CL : List (Nat × Nat × Nat × Nat) := [(6, 123, 5000, 872)]
def ox_XL : List (Nat × Nat × Nat × Nat) := [(5, 51, 0, 325),
  (5, 62, 1, 404),
  (5, 169, 2, 604)]
def ox_T (j : Nat) : u_T := (bif Nat.blt j 3 then (bif Nat.blt j 1 then ox_T0 else (bif Nat.blt j 2 then ox_T1 else ox_T2)) else (bif Nat.blt j 5 then (bif Nat.blt j 4 then ox_T3 else ox_T4) else (bif Nat.blt j 6 then ox_T5 else ox_T6)))
def ox_fn (j : Nat) : Nat := (bif Nat.blt j 3 then (bif Nat.blt j 1 then 13 else (bif Nat.blt j 2 then 11 else 6)) else (bif Nat.blt j 5 then (bif Nat.blt j 4 then 12 else 3) else (bif Nat.blt j 6 then 6 else 38)))
def ox_ex (x : Nat) : String := (bif Nat.blt x 1 then "java/lang/UnsupportedOperationException" else (bif Nat.blt x 2 then "java/lang/IllegalArgumentException" else "java/lang/IndexOutOfBoundsException"))
theorem ox_FLok : ∀ q ∈ ox_FL, lw_tbl[q.2.2.2.2]? = some (.fieldLink (ox_R q.1) q.2.1 (ox_T q.2.2.1 q.2.2.2.1).1 (ox_T q.2.2.1 q.2.2.2.1).2.1 (ox_T q.2.2.1 q.2.2.2.1).2.2.1) ∧ q.2.2.1 < 7 ∧ q.2.2.2.1 < ox_fn q.2.2.1 := by decide +kernel
theorem ox_MLok : ∀ q ∈ ox_ML, lw_tbl[q.2.2.2.2]? = some (.methodLink (ox_R q.1) q.2.1 (ox_nm q.2.2.1)) ∧ q.2.2.1 < 114 ∧ (parseMethodDescriptor (ox_nm q.2.2.1).desc).map (fun d => d.parameters.length) = some (q.2.2.2.1 - (bif ox_sta q.2.2.1 then 0 else 1)) ∧ (ox_sta q.2.2.1 = false → 1 ≤ q.2.2.2.1) := by decide +kernel
theorem ox_NLok : ∀ q ∈ ox_NL, lw_tbl[q.2.2.2.2]? = some (.methodLinkNest (ox_R q.1) q.2.1 (ox_nm q.2.2.1) "OrderAxioms") ∧ q.2.2.1 < 114 ∧ (parseMethodDescriptor (ox_nm q.2.2.1).desc).map (fun d => d.parameters.length) = some q.2.2.2.1 ∧ ox_sta q.2.2.1 = true := by decide +kernel
theorem ox_CLok : ∀ q ∈ ox_CL, lw_tbl[q.2.2.2]? = some (.constantLong (ox_R q.1) q.2.1 (Int64.ofNat q.2.2.1)) := by decide +kernel
theorem ox_XLok : ∀ q ∈ ox_XL, lw_tbl[q.2.2.2]? = some (.classLink (ox_R q.1) q.2.1 (ox_ex q.2.2.1)) := by decide +kernel
/-- what a row of a method's table must keep to: own class j, place pc -/
def ox_lnk (j pc : Nat) (e : Instr × Nat × Nat × Nat) : Bool := match e.1 with
  | .getfield i => ox_FL.any (fun q => q.1 == j && q.2.1 == i && q.2.2.1 == e.2.2.1 && q.2.2.2.1 == e.2.2.2)
  | .putfield i => ox_FL.any (fun q => q.1 == j && q.2.1 == i && q.2.2.1 == e.2.2.1 && q.2.2.2.1 == e.2.2.2)
  | .invokevirtual i => ox_ML.any (fun q => q.1 == j && q.2.1 == i && q.2.2.1 == e.2.2.1 && q.2.2.2.1 == e.2.2.2 && !(ox_sta q.2.2.1))
  | .invokestatic i => ox_ML.any (fun q => q.1 == j && q.2.1 == i && q.2.2.1 == e.2.2.1 && q.2.2.2.1 == e.2.2.2 && ox_sta q.2.2.1) || ox_NL.any (fun q => q.1 == j && q.2.1 == i && q.2.2.1 == e.2.2.1 && q.2.2.2.1 == e.2.2.2) || (e.2.2.1 == 901 && ox_MM.any (fun q => q.1 == j && q.2.1 == i))
  | .ldc2_w i => ox_CL.any (fun q => q.1 == j && q.2.1 == i && q.2.2.1 == e.2.2.1)
  | .new i => e.2.2.1 == 99 || ox_XL.any (fun q => q.1 == j && q.2.1 == i && q.2.2.1 == e.2.2.1)
  | .if_icmp _ off => decide ((pc : Int) + off = (e.2.2.1 : Int))
  | .ifCond _ off => decide ((pc : Int) + off = (e.2.2.1 : Int))
  | .goto off => decide ((pc : Int) + off = (e.2.2.1 : Int))
  | _ => true
def ox_len (e : Instr × Nat × Nat × Nat) : Bool := match e.1 with
  | .bipush _ | .iload _ | .aload _ | .istore _ | .astore _ => e.2.1 == 2
  | .sipush _ | .iinc _ _ | .ldc2_w _ | .getfield _ | .putfield _ | .invokevirtual _ | .invokestatic _ | .invokespecial _ | .new _ | .if_icmp _ _ | .ifCond _ _ | .goto _ => e.2.1 == 3
  | .tableswitch _ _ _ _ => true
  | .ldc _ | .newarray _ => true
  | _ => e.2.1 == 1
def ox_chk (j pc : Nat) (e : Instr × Nat × Nat × Nat) : Bool := ox_lnk j pc e && ox_len e
theorem ox_tab2 {f : Nat → Option (Instr × Nat × Nat × Nat)} {j : Nat} (n : Nat) (h0 : ∀ pc, n ≤ pc → f pc = none) (h : (List.range n).all (fun pc => match f pc with | none => true | some e => ox_chk j pc e) = true) :
    ∀ pc e, f pc = some e → ox_chk j pc e = true := by
  intro pc e he
  rcases Nat.lt_or_ge pc n with q | q
  · have h1 := List.all_eq_true.mp h pc (List.mem_range.mpr q)
    rw [he] at h1
    exact h1
  · rw [h0 pc q] at he; cases he
