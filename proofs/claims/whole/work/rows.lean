section
-- ===== PART A: goes FIRST, ahead of the names: the tables' words, and 'selects' of the private methods out of them =====
/-- a private method of a class that the tables say can be made, by its rows of tables_1 -/
def lw_okq (q : MethodName × Nat) : Prop := (q.1.cls ≠ "java/lang/invoke/MethodHandle" ∧ q.1.cls ≠ "java/lang/invoke/VarHandle") ∧ Cond.instantiable q.1.cls q.2 ∈ tables_1 ∧ Cond.privateMethod q.1 ∈ tables_1 ∧ Cond.instanceMethod q.1 ∈ tables_1
theorem lw_p0 : lw_okq (⟨"java/lang/Throwable", "fillInStackTrace", "(I)Ljava/lang/Throwable;"⟩, 6) := ⟨⟨by decide +kernel, by decide +kernel⟩, List.mem_of_getElem? (i := 326) (by decide +kernel), List.mem_of_getElem? (i := 324) (by decide +kernel), List.mem_of_getElem? (i := 325) (by decide +kernel)⟩
theorem lw_p1 : lw_okq (⟨"OrderAxioms$Listing", "rankValues", "(LOrderAxioms$Program;I)V"⟩, 11) := ⟨⟨by decide +kernel, by decide +kernel⟩, List.mem_of_getElem? (i := 124) (by decide +kernel), List.mem_of_getElem? (i := 475) (by decide +kernel), List.mem_of_getElem? (i := 476) (by decide +kernel)⟩
theorem lw_p2 : lw_okq (⟨"OrderAxioms$Listing", "insertValue", "(II)V"⟩, 11) := ⟨⟨by decide +kernel, by decide +kernel⟩, List.mem_of_getElem? (i := 124) (by decide +kernel), List.mem_of_getElem? (i := 479) (by decide +kernel), List.mem_of_getElem? (i := 480) (by decide +kernel)⟩
theorem lw_p3 : lw_okq (⟨"OrderAxioms$Listing", "rankOf", "(II)I"⟩, 11) := ⟨⟨by decide +kernel, by decide +kernel⟩, List.mem_of_getElem? (i := 124) (by decide +kernel), List.mem_of_getElem? (i := 483) (by decide +kernel), List.mem_of_getElem? (i := 484) (by decide +kernel)⟩
theorem lw_p4 : lw_okq (⟨"OrderAxioms$Execution", "fillSteady", "(LOrderAxioms$Program;)V"⟩, 13) := ⟨⟨by decide +kernel, by decide +kernel⟩, List.mem_of_getElem? (i := 171) (by decide +kernel), List.mem_of_getElem? (i := 491) (by decide +kernel), List.mem_of_getElem? (i := 492) (by decide +kernel)⟩
theorem lw_p5 : lw_okq (⟨"OrderAxioms$Execution", "fillBehind", "(LOrderAxioms$Program;I)V"⟩, 13) := ⟨⟨by decide +kernel, by decide +kernel⟩, List.mem_of_getElem? (i := 171) (by decide +kernel), List.mem_of_getElem? (i := 495) (by decide +kernel), List.mem_of_getElem? (i := 496) (by decide +kernel)⟩
theorem lw_p6 : lw_okq (⟨"OrderAxioms$Execution", "fillPair", "(LOrderAxioms$Program;IIZ)V"⟩, 13) := ⟨⟨by decide +kernel, by decide +kernel⟩, List.mem_of_getElem? (i := 171) (by decide +kernel), List.mem_of_getElem? (i := 500) (by decide +kernel), List.mem_of_getElem? (i := 501) (by decide +kernel)⟩
theorem lw_p7 : lw_okq (⟨"OrderAxioms$Execution", "markWanted", "(LOrderAxioms$Model;Z)V"⟩, 13) := ⟨⟨by decide +kernel, by decide +kernel⟩, List.mem_of_getElem? (i := 171) (by decide +kernel), List.mem_of_getElem? (i := 504) (by decide +kernel), List.mem_of_getElem? (i := 505) (by decide +kernel)⟩
theorem lw_p8 : lw_okq (⟨"OrderAxioms$Execution", "fillMade", "(LOrderAxioms$Model;I)V"⟩, 13) := ⟨⟨by decide +kernel, by decide +kernel⟩, List.mem_of_getElem? (i := 171) (by decide +kernel), List.mem_of_getElem? (i := 508) (by decide +kernel), List.mem_of_getElem? (i := 509) (by decide +kernel)⟩
theorem lw_p9 : lw_okq (⟨"OrderAxioms$Execution", "arrange", "(LOrderAxioms$Program;I)V"⟩, 13) := ⟨⟨by decide +kernel, by decide +kernel⟩, List.mem_of_getElem? (i := 171) (by decide +kernel), List.mem_of_getElem? (i := 528) (by decide +kernel), List.mem_of_getElem? (i := 529) (by decide +kernel)⟩
theorem lw_p10 : lw_okq (⟨"OrderAxioms$Execution", "fillChosen", "(LOrderAxioms$Program;)V"⟩, 13) := ⟨⟨by decide +kernel, by decide +kernel⟩, List.mem_of_getElem? (i := 171) (by decide +kernel), List.mem_of_getElem? (i := 536) (by decide +kernel), List.mem_of_getElem? (i := 537) (by decide +kernel)⟩
theorem lw_p11 : lw_okq (⟨"OrderAxioms$Execution", "fillRead", "(LOrderAxioms$Program;II)V"⟩, 13) := ⟨⟨by decide +kernel, by decide +kernel⟩, List.mem_of_getElem? (i := 171) (by decide +kernel), List.mem_of_getElem? (i := 540) (by decide +kernel), List.mem_of_getElem? (i := 541) (by decide +kernel)⟩
theorem lw_p12 : lw_okq (⟨"OrderAxioms$Listing", "countAt", "(I)I"⟩, 11) := ⟨⟨by decide +kernel, by decide +kernel⟩, List.mem_of_getElem? (i := 124) (by decide +kernel), List.mem_of_getElem? (i := 587) (by decide +kernel), List.mem_of_getElem? (i := 588) (by decide +kernel)⟩
theorem lw_p13 : lw_okq (⟨"OrderAxioms$Ring", "stepsAround", "([III)I"⟩, 3) := ⟨⟨by decide +kernel, by decide +kernel⟩, List.mem_of_getElem? (i := 227) (by decide +kernel), List.mem_of_getElem? (i := 614) (by decide +kernel), List.mem_of_getElem? (i := 615) (by decide +kernel)⟩
theorem lw_p14 : lw_okq (⟨"OrderAxioms$Ring", "follow", "([II)V"⟩, 3) := ⟨⟨by decide +kernel, by decide +kernel⟩, List.mem_of_getElem? (i := 227) (by decide +kernel), List.mem_of_getElem? (i := 621) (by decide +kernel), List.mem_of_getElem? (i := 622) (by decide +kernel)⟩
theorem lw_p15 : lw_okq (⟨"OrderAxiomsModel", "throwing", "(ZZ)Z"⟩, 38) := ⟨⟨by decide +kernel, by decide +kernel⟩, List.mem_of_getElem? (i := 658) (by decide +kernel), List.mem_of_getElem? (i := 788) (by decide +kernel), List.mem_of_getElem? (i := 789) (by decide +kernel)⟩
def lw_privs_1 : List (MethodName × Nat) := [(⟨"java/lang/Throwable", "fillInStackTrace", "(I)Ljava/lang/Throwable;"⟩, 6), (⟨"OrderAxioms$Listing", "rankValues", "(LOrderAxioms$Program;I)V"⟩, 11), (⟨"OrderAxioms$Listing", "insertValue", "(II)V"⟩, 11), (⟨"OrderAxioms$Listing", "rankOf", "(II)I"⟩, 11), (⟨"OrderAxioms$Execution", "fillSteady", "(LOrderAxioms$Program;)V"⟩, 13), (⟨"OrderAxioms$Execution", "fillBehind", "(LOrderAxioms$Program;I)V"⟩, 13), (⟨"OrderAxioms$Execution", "fillPair", "(LOrderAxioms$Program;IIZ)V"⟩, 13), (⟨"OrderAxioms$Execution", "markWanted", "(LOrderAxioms$Model;Z)V"⟩, 13), (⟨"OrderAxioms$Execution", "fillMade", "(LOrderAxioms$Model;I)V"⟩, 13), (⟨"OrderAxioms$Execution", "arrange", "(LOrderAxioms$Program;I)V"⟩, 13), (⟨"OrderAxioms$Execution", "fillChosen", "(LOrderAxioms$Program;)V"⟩, 13), (⟨"OrderAxioms$Execution", "fillRead", "(LOrderAxioms$Program;II)V"⟩, 13), (⟨"OrderAxioms$Listing", "countAt", "(I)I"⟩, 11), (⟨"OrderAxioms$Ring", "stepsAround", "([III)I"⟩, 3), (⟨"OrderAxioms$Ring", "follow", "([II)V"⟩, 3), (⟨"OrderAxiomsModel", "throwing", "(ZZ)Z"⟩, 38)]
theorem lw_r1 : ∀ q ∈ lw_privs_1, lw_okq q := List.forall_mem_cons.mpr ⟨lw_p0, List.forall_mem_cons.mpr ⟨lw_p1, List.forall_mem_cons.mpr ⟨lw_p2, List.forall_mem_cons.mpr ⟨lw_p3, List.forall_mem_cons.mpr ⟨lw_p4, List.forall_mem_cons.mpr ⟨lw_p5, List.forall_mem_cons.mpr ⟨lw_p6, List.forall_mem_cons.mpr ⟨lw_p7, List.forall_mem_cons.mpr ⟨lw_p8, List.forall_mem_cons.mpr ⟨lw_p9, List.forall_mem_cons.mpr ⟨lw_p10, List.forall_mem_cons.mpr ⟨lw_p11, List.forall_mem_cons.mpr ⟨lw_p12, List.forall_mem_cons.mpr ⟨lw_p13, List.forall_mem_cons.mpr ⟨lw_p14, List.forall_mem_cons.mpr ⟨lw_p15, fun _ h => absurd h List.not_mem_nil⟩⟩⟩⟩⟩⟩⟩⟩⟩⟩⟩⟩⟩⟩⟩⟩
theorem lw_p16 : lw_okq (⟨"OrderAxiomsModel", "isEvent", "(I)Z"⟩, 38) := ⟨⟨by decide +kernel, by decide +kernel⟩, List.mem_of_getElem? (i := 658) (by decide +kernel), List.mem_of_getElem? (i := 800) (by decide +kernel), List.mem_of_getElem? (i := 801) (by decide +kernel)⟩
theorem lw_p17 : lw_okq (⟨"OrderAxiomsModel", "add", "(III)I"⟩, 38) := ⟨⟨by decide +kernel, by decide +kernel⟩, List.mem_of_getElem? (i := 658) (by decide +kernel), List.mem_of_getElem? (i := 811) (by decide +kernel), List.mem_of_getElem? (i := 812) (by decide +kernel)⟩
theorem lw_p18 : lw_okq (⟨"OrderAxiomsModel", "ordered", "(II)V"⟩, 38) := ⟨⟨by decide +kernel, by decide +kernel⟩, List.mem_of_getElem? (i := 658) (by decide +kernel), List.mem_of_getElem? (i := 823) (by decide +kernel), List.mem_of_getElem? (i := 824) (by decide +kernel)⟩
theorem lw_p19 : lw_okq (⟨"OrderAxiomsModel", "executions", "()I"⟩, 38) := ⟨⟨by decide +kernel, by decide +kernel⟩, List.mem_of_getElem? (i := 658) (by decide +kernel), List.mem_of_getElem? (i := 831) (by decide +kernel), List.mem_of_getElem? (i := 832) (by decide +kernel)⟩
theorem lw_p20 : lw_okq (⟨"OrderAxiomsModel", "writes", "(I)I"⟩, 38) := ⟨⟨by decide +kernel, by decide +kernel⟩, List.mem_of_getElem? (i := 658) (by decide +kernel), List.mem_of_getElem? (i := 836) (by decide +kernel), List.mem_of_getElem? (i := 837) (by decide +kernel)⟩
theorem lw_p21 : lw_okq (⟨"OrderAxiomsModel", "reads", "()I"⟩, 38) := ⟨⟨by decide +kernel, by decide +kernel⟩, List.mem_of_getElem? (i := 658) (by decide +kernel), List.mem_of_getElem? (i := 840) (by decide +kernel), List.mem_of_getElem? (i := 841) (by decide +kernel)⟩
theorem lw_p22 : lw_okq (⟨"OrderAxiomsModel", "choose", "(I)V"⟩, 38) := ⟨⟨by decide +kernel, by decide +kernel⟩, List.mem_of_getElem? (i := 658) (by decide +kernel), List.mem_of_getElem? (i := 844) (by decide +kernel), List.mem_of_getElem? (i := 845) (by decide +kernel)⟩
theorem lw_p23 : lw_okq (⟨"OrderAxiomsModel", "arrange", "(II)V"⟩, 38) := ⟨⟨by decide +kernel, by decide +kernel⟩, List.mem_of_getElem? (i := 658) (by decide +kernel), List.mem_of_getElem? (i := 848) (by decide +kernel), List.mem_of_getElem? (i := 849) (by decide +kernel)⟩
theorem lw_p24 : lw_okq (⟨"OrderAxiomsModel", "write", "(II)I"⟩, 38) := ⟨⟨by decide +kernel, by decide +kernel⟩, List.mem_of_getElem? (i := 658) (by decide +kernel), List.mem_of_getElem? (i := 852) (by decide +kernel), List.mem_of_getElem? (i := 853) (by decide +kernel)⟩
theorem lw_p25 : lw_okq (⟨"OrderAxiomsModel", "relate", "()V"⟩, 38) := ⟨⟨by decide +kernel, by decide +kernel⟩, List.mem_of_getElem? (i := 658) (by decide +kernel), List.mem_of_getElem? (i := 856) (by decide +kernel), List.mem_of_getElem? (i := 857) (by decide +kernel)⟩
theorem lw_p26 : lw_okq (⟨"OrderAxiomsModel", "isGiven", "(III)Z"⟩, 38) := ⟨⟨by decide +kernel, by decide +kernel⟩, List.mem_of_getElem? (i := 658) (by decide +kernel), List.mem_of_getElem? (i := 860) (by decide +kernel), List.mem_of_getElem? (i := 861) (by decide +kernel)⟩
theorem lw_p27 : lw_okq (⟨"OrderAxiomsModel", "sourceAt", "(I)I"⟩, 38) := ⟨⟨by decide +kernel, by decide +kernel⟩, List.mem_of_getElem? (i := 658) (by decide +kernel), List.mem_of_getElem? (i := 864) (by decide +kernel), List.mem_of_getElem? (i := 865) (by decide +kernel)⟩
theorem lw_p28 : lw_okq (⟨"OrderAxiomsModel", "isFenced", "(II)Z"⟩, 38) := ⟨⟨by decide +kernel, by decide +kernel⟩, List.mem_of_getElem? (i := 658) (by decide +kernel), List.mem_of_getElem? (i := 868) (by decide +kernel), List.mem_of_getElem? (i := 869) (by decide +kernel)⟩
theorem lw_p29 : lw_okq (⟨"OrderAxiomsModel", "isMade", "(III)Z"⟩, 38) := ⟨⟨by decide +kernel, by decide +kernel⟩, List.mem_of_getElem? (i := 658) (by decide +kernel), List.mem_of_getElem? (i := 872) (by decide +kernel), List.mem_of_getElem? (i := 873) (by decide +kernel)⟩
theorem lw_p30 : lw_okq (⟨"OrderAxiomsModel", "is", "(III)Z"⟩, 38) := ⟨⟨by decide +kernel, by decide +kernel⟩, List.mem_of_getElem? (i := 658) (by decide +kernel), List.mem_of_getElem? (i := 876) (by decide +kernel), List.mem_of_getElem? (i := 877) (by decide +kernel)⟩
theorem lw_p31 : lw_okq (⟨"OrderAxiomsModel", "isJoined", "(IIII)Z"⟩, 38) := ⟨⟨by decide +kernel, by decide +kernel⟩, List.mem_of_getElem? (i := 658) (by decide +kernel), List.mem_of_getElem? (i := 880) (by decide +kernel), List.mem_of_getElem? (i := 881) (by decide +kernel)⟩
def lw_privs_2 : List (MethodName × Nat) := [(⟨"OrderAxiomsModel", "isEvent", "(I)Z"⟩, 38), (⟨"OrderAxiomsModel", "add", "(III)I"⟩, 38), (⟨"OrderAxiomsModel", "ordered", "(II)V"⟩, 38), (⟨"OrderAxiomsModel", "executions", "()I"⟩, 38), (⟨"OrderAxiomsModel", "writes", "(I)I"⟩, 38), (⟨"OrderAxiomsModel", "reads", "()I"⟩, 38), (⟨"OrderAxiomsModel", "choose", "(I)V"⟩, 38), (⟨"OrderAxiomsModel", "arrange", "(II)V"⟩, 38), (⟨"OrderAxiomsModel", "write", "(II)I"⟩, 38), (⟨"OrderAxiomsModel", "relate", "()V"⟩, 38), (⟨"OrderAxiomsModel", "isGiven", "(III)Z"⟩, 38), (⟨"OrderAxiomsModel", "sourceAt", "(I)I"⟩, 38), (⟨"OrderAxiomsModel", "isFenced", "(II)Z"⟩, 38), (⟨"OrderAxiomsModel", "isMade", "(III)Z"⟩, 38), (⟨"OrderAxiomsModel", "is", "(III)Z"⟩, 38), (⟨"OrderAxiomsModel", "isJoined", "(IIII)Z"⟩, 38)]
theorem lw_r2 : ∀ q ∈ lw_privs_2, lw_okq q := List.forall_mem_cons.mpr ⟨lw_p16, List.forall_mem_cons.mpr ⟨lw_p17, List.forall_mem_cons.mpr ⟨lw_p18, List.forall_mem_cons.mpr ⟨lw_p19, List.forall_mem_cons.mpr ⟨lw_p20, List.forall_mem_cons.mpr ⟨lw_p21, List.forall_mem_cons.mpr ⟨lw_p22, List.forall_mem_cons.mpr ⟨lw_p23, List.forall_mem_cons.mpr ⟨lw_p24, List.forall_mem_cons.mpr ⟨lw_p25, List.forall_mem_cons.mpr ⟨lw_p26, List.forall_mem_cons.mpr ⟨lw_p27, List.forall_mem_cons.mpr ⟨lw_p28, List.forall_mem_cons.mpr ⟨lw_p29, List.forall_mem_cons.mpr ⟨lw_p30, List.forall_mem_cons.mpr ⟨lw_p31, fun _ h => absurd h List.not_mem_nil⟩⟩⟩⟩⟩⟩⟩⟩⟩⟩⟩⟩⟩⟩⟩⟩
theorem lw_p32 : lw_okq (⟨"OrderAxiomsModel", "close", "(I)V"⟩, 38) := ⟨⟨by decide +kernel, by decide +kernel⟩, List.mem_of_getElem? (i := 658) (by decide +kernel), List.mem_of_getElem? (i := 884) (by decide +kernel), List.mem_of_getElem? (i := 885) (by decide +kernel)⟩
theorem lw_p33 : lw_okq (⟨"OrderAxiomsModel", "broken", "()I"⟩, 38) := ⟨⟨by decide +kernel, by decide +kernel⟩, List.mem_of_getElem? (i := 658) (by decide +kernel), List.mem_of_getElem? (i := 888) (by decide +kernel), List.mem_of_getElem? (i := 889) (by decide +kernel)⟩
theorem lw_p34 : lw_okq (⟨"OrderAxiomsModel", "shortest", "(I)I"⟩, 38) := ⟨⟨by decide +kernel, by decide +kernel⟩, List.mem_of_getElem? (i := 658) (by decide +kernel), List.mem_of_getElem? (i := 892) (by decide +kernel), List.mem_of_getElem? (i := 893) (by decide +kernel)⟩
theorem lw_p35 : lw_okq (⟨"OrderAxiomsModel", "take", "(I)V"⟩, 38) := ⟨⟨by decide +kernel, by decide +kernel⟩, List.mem_of_getElem? (i := 658) (by decide +kernel), List.mem_of_getElem? (i := 896) (by decide +kernel), List.mem_of_getElem? (i := 897) (by decide +kernel)⟩
theorem lw_p36 : lw_okq (⟨"OrderAxiomsModel", "compare", "(I)I"⟩, 38) := ⟨⟨by decide +kernel, by decide +kernel⟩, List.mem_of_getElem? (i := 658) (by decide +kernel), List.mem_of_getElem? (i := 900) (by decide +kernel), List.mem_of_getElem? (i := 901) (by decide +kernel)⟩
theorem lw_p37 : lw_okq (⟨"OrderAxiomsModel", "walk", "(I)V"⟩, 38) := ⟨⟨by decide +kernel, by decide +kernel⟩, List.mem_of_getElem? (i := 658) (by decide +kernel), List.mem_of_getElem? (i := 916) (by decide +kernel), List.mem_of_getElem? (i := 917) (by decide +kernel)⟩
def lw_privs_3 : List (MethodName × Nat) := [(⟨"OrderAxiomsModel", "close", "(I)V"⟩, 38), (⟨"OrderAxiomsModel", "broken", "()I"⟩, 38), (⟨"OrderAxiomsModel", "shortest", "(I)I"⟩, 38), (⟨"OrderAxiomsModel", "take", "(I)V"⟩, 38), (⟨"OrderAxiomsModel", "compare", "(I)I"⟩, 38), (⟨"OrderAxiomsModel", "walk", "(I)V"⟩, 38)]
theorem lw_r3 : ∀ q ∈ lw_privs_3, lw_okq q := List.forall_mem_cons.mpr ⟨lw_p32, List.forall_mem_cons.mpr ⟨lw_p33, List.forall_mem_cons.mpr ⟨lw_p34, List.forall_mem_cons.mpr ⟨lw_p35, List.forall_mem_cons.mpr ⟨lw_p36, List.forall_mem_cons.mpr ⟨lw_p37, fun _ h => absurd h List.not_mem_nil⟩⟩⟩⟩⟩⟩
def lw_privs : List (MethodName × Nat) := lw_privs_1 ++ (lw_privs_2 ++ (lw_privs_3))
def lw_tbl : List Cond := k2_sels lw_privs ++ tables_1
theorem lw_privs_ok : ∀ q ∈ lw_privs, lw_okq q := by
  show ∀ q ∈ lw_privs_1 ++ (lw_privs_2 ++ (lw_privs_3)), lw_okq q
  exact List.forall_mem_append.mpr ⟨lw_r1, List.forall_mem_append.mpr ⟨lw_r2, lw_r3⟩⟩

/-- the words that every call carries along -/
def ox_gw : List Cond := lw_tbl.filter goodWord
theorem ox_mem {w : Cond} (i : Nat) (h : lw_tbl[i]? = some w) (g : goodWord w = true) : w ∈ ox_gw := List.mem_filter.mpr ⟨List.mem_of_getElem? h, g⟩
theorem ox_good {w : Cond} (h : w ∈ ox_gw) : (w.onTables && w.keeps) = true ∨ ∃ ty, w = .arrayClass ty := good_of_word (List.mem_filter.mp h).2
def ox_R (j : Nat) : String := (bif Nat.blt j 4 then (bif Nat.blt j 2 then (bif Nat.blt j 1 then "OrderAxioms$Execution" else "OrderAxioms$Listing") else (bif Nat.blt j 3 then "OrderAxioms$Model" else "OrderAxioms$Program")) else (bif Nat.blt j 6 then (bif Nat.blt j 5 then "OrderAxioms$Ring" else "OrderAxioms") else (bif Nat.blt j 7 then "OrderAxiomsModel" else (bif Nat.blt j 8 then "OrderAxioms$Rows" else "OrderAxiomsLaw"))))
def ox_T0 : u_T := fun k => (bif Nat.blt k 6 then (bif Nat.blt k 3 then (bif Nat.blt k 1 then ("OrderAxioms$Execution", "events", "I", false) else (bif Nat.blt k 2 then ("OrderAxioms$Execution", "relations", "I", false) else ("OrderAxioms$Execution", "reads", "I", false))) else (bif Nat.blt k 4 then ("OrderAxioms$Execution", "picks", "[I", true) else (bif Nat.blt k 5 then ("OrderAxioms$Execution", "sources", "[I", true) else ("OrderAxioms$Execution", "orderCounts", "[I", true)))) else (bif Nat.blt k 9 then (bif Nat.blt k 7 then ("OrderAxioms$Execution", "orders", "[[I", true) else (bif Nat.blt k 8 then ("OrderAxioms$Execution", "rows", "[[I", true) else ("OrderAxioms$Execution", "orderPicks", "[I", true))) else (bif Nat.blt k 11 then (bif Nat.blt k 10 then ("OrderAxioms$Execution", "wanted", "[Z", true) else ("OrderAxioms$Execution", "steady", "[Z", true)) else (bif Nat.blt k 12 then ("OrderAxioms$Execution", "plan", "[I", true) else ("OrderAxioms$Execution", "planned", "I", false)))))
def ox_y0 : Nat → FieldType := fun k => (bif Nat.blt k 6 then (bif Nat.blt k 3 then (bif Nat.blt k 1 then .int else (bif Nat.blt k 2 then .int else .int)) else (bif Nat.blt k 4 then (.array .int) else (bif Nat.blt k 5 then (.array .int) else (.array .int)))) else (bif Nat.blt k 9 then (bif Nat.blt k 7 then (.array (.array .int)) else (bif Nat.blt k 8 then (.array (.array .int)) else (.array .int))) else (bif Nat.blt k 11 then (bif Nat.blt k 10 then (.array .boolean) else (.array .boolean)) else (bif Nat.blt k 12 then (.array .int) else .int))))
theorem ox_n0 : ∀ a, a < 13 → ∀ b, b < 13 → a ≠ b → (ox_T0 a).2.1 ≠ (ox_T0 b).2.1 := by decide +kernel
theorem ox_yok0 : ∀ k, k < 13 → parseFieldDescriptor (ox_T0 k).2.2.1 = some (ox_y0 k) := by decide +kernel
theorem ox_in0 : ∀ w ∈ u_ws "OrderAxioms$Execution" ox_T0 13, w ∈ ox_gw := by decide +kernel
def ox_T1 : u_T := fun k => (bif Nat.blt k 5 then (bif Nat.blt k 2 then (bif Nat.blt k 1 then ("OrderAxioms$Listing", "executions", "I", false) else ("OrderAxioms$Listing", "allowed", "I", false)) else (bif Nat.blt k 3 then ("OrderAxioms$Listing", "outcomes", "I", false) else (bif Nat.blt k 4 then ("OrderAxioms$Listing", "reads", "I", false) else ("OrderAxioms$Listing", "totals", "[I", true)))) else (bif Nat.blt k 8 then (bif Nat.blt k 6 then ("OrderAxioms$Listing", "firsts", "[I", true) else (bif Nat.blt k 7 then ("OrderAxioms$Listing", "numbers", "[I", true) else ("OrderAxioms$Listing", "readPlaces", "[I", true))) else (bif Nat.blt k 9 then ("OrderAxioms$Listing", "valueCounts", "[I", true) else (bif Nat.blt k 10 then ("OrderAxioms$Listing", "values", "[[I", true) else ("OrderAxioms$Listing", "ranks", "[[I", true)))))
def ox_y1 : Nat → FieldType := fun k => (bif Nat.blt k 5 then (bif Nat.blt k 2 then (bif Nat.blt k 1 then .int else .int) else (bif Nat.blt k 3 then .int else (bif Nat.blt k 4 then .int else (.array .int)))) else (bif Nat.blt k 8 then (bif Nat.blt k 6 then (.array .int) else (bif Nat.blt k 7 then (.array .int) else (.array .int))) else (bif Nat.blt k 9 then (.array .int) else (bif Nat.blt k 10 then (.array (.array .int)) else (.array (.array .int))))))
theorem ox_n1 : ∀ a, a < 11 → ∀ b, b < 11 → a ≠ b → (ox_T1 a).2.1 ≠ (ox_T1 b).2.1 := by decide +kernel
theorem ox_yok1 : ∀ k, k < 11 → parseFieldDescriptor (ox_T1 k).2.2.1 = some (ox_y1 k) := by decide +kernel
theorem ox_in1 : ∀ w ∈ u_ws "OrderAxioms$Listing" ox_T1 11, w ∈ ox_gw := by decide +kernel
def ox_T2 : u_T := fun k => (bif Nat.blt k 3 then (bif Nat.blt k 1 then ("OrderAxioms$Model", "relations", "I", false) else (bif Nat.blt k 2 then ("OrderAxioms$Model", "rules", "I", false) else ("OrderAxioms$Model", "hows", "[I", true))) else (bif Nat.blt k 4 then ("OrderAxioms$Model", "lefts", "[I", true) else (bif Nat.blt k 5 then ("OrderAxioms$Model", "rights", "[I", true) else ("OrderAxioms$Model", "ruleRelations", "[I", true))))
def ox_y2 : Nat → FieldType := fun k => (bif Nat.blt k 3 then (bif Nat.blt k 1 then .int else (bif Nat.blt k 2 then .int else (.array .int))) else (bif Nat.blt k 4 then (.array .int) else (bif Nat.blt k 5 then (.array .int) else (.array .int))))
theorem ox_n2 : ∀ a, a < 6 → ∀ b, b < 6 → a ≠ b → (ox_T2 a).2.1 ≠ (ox_T2 b).2.1 := by decide +kernel
theorem ox_yok2 : ∀ k, k < 6 → parseFieldDescriptor (ox_T2 k).2.2.1 = some (ox_y2 k) := by decide +kernel
theorem ox_in2 : ∀ w ∈ u_ws "OrderAxioms$Model" ox_T2 6, w ∈ ox_gw := by decide +kernel
def ox_T3 : u_T := fun k => (bif Nat.blt k 6 then (bif Nat.blt k 3 then (bif Nat.blt k 1 then ("OrderAxioms$Program", "threads", "I", false) else (bif Nat.blt k 2 then ("OrderAxioms$Program", "events", "I", false) else ("OrderAxioms$Program", "reads", "I", false))) else (bif Nat.blt k 4 then ("OrderAxioms$Program", "threadOf", "[I", true) else (bif Nat.blt k 5 then ("OrderAxioms$Program", "kindOf", "[I", true) else ("OrderAxioms$Program", "placeOf", "[I", true)))) else (bif Nat.blt k 9 then (bif Nat.blt k 7 then ("OrderAxioms$Program", "valueOf", "[I", true) else (bif Nat.blt k 8 then ("OrderAxioms$Program", "dependents", "[I", true) else ("OrderAxioms$Program", "readEvents", "[I", true))) else (bif Nat.blt k 10 then ("OrderAxioms$Program", "writeCounts", "[I", true) else (bif Nat.blt k 11 then ("OrderAxioms$Program", "writeMasks", "[I", true) else ("OrderAxioms$Program", "writeEvents", "[[I", true)))))
def ox_y3 : Nat → FieldType := fun k => (bif Nat.blt k 6 then (bif Nat.blt k 3 then (bif Nat.blt k 1 then .int else (bif Nat.blt k 2 then .int else .int)) else (bif Nat.blt k 4 then (.array .int) else (bif Nat.blt k 5 then (.array .int) else (.array .int)))) else (bif Nat.blt k 9 then (bif Nat.blt k 7 then (.array .int) else (bif Nat.blt k 8 then (.array .int) else (.array .int))) else (bif Nat.blt k 10 then (.array .int) else (bif Nat.blt k 11 then (.array .int) else (.array (.array .int))))))
theorem ox_n3 : ∀ a, a < 12 → ∀ b, b < 12 → a ≠ b → (ox_T3 a).2.1 ≠ (ox_T3 b).2.1 := by decide +kernel
theorem ox_yok3 : ∀ k, k < 12 → parseFieldDescriptor (ox_T3 k).2.2.1 = some (ox_y3 k) := by decide +kernel
theorem ox_in3 : ∀ w ∈ u_ws "OrderAxioms$Program" ox_T3 12, w ∈ ox_gw := by decide +kernel
def ox_T4 : u_T := fun k => (bif Nat.blt k 1 then ("OrderAxioms$Ring", "length", "I", false) else (bif Nat.blt k 2 then ("OrderAxioms$Ring", "members", "[I", true) else ("OrderAxioms$Ring", "reaching", "[I", true)))
def ox_y4 : Nat → FieldType := fun k => (bif Nat.blt k 1 then .int else (bif Nat.blt k 2 then (.array .int) else (.array .int)))
theorem ox_n4 : ∀ a, a < 3 → ∀ b, b < 3 → a ≠ b → (ox_T4 a).2.1 ≠ (ox_T4 b).2.1 := by decide +kernel
theorem ox_yok4 : ∀ k, k < 3 → parseFieldDescriptor (ox_T4 k).2.2.1 = some (ox_y4 k) := by decide +kernel
theorem ox_in4 : ∀ w ∈ u_ws "OrderAxioms$Ring" ox_T4 3, w ∈ ox_gw := by decide +kernel
def ox_T5 : u_T := fun k => (bif Nat.blt k 3 then (bif Nat.blt k 1 then ("OrderAxioms", "program", "LOrderAxioms$Program;", true) else (bif Nat.blt k 2 then ("OrderAxioms", "model", "LOrderAxioms$Model;", true) else ("OrderAxioms", "listing", "LOrderAxioms$Listing;", true))) else (bif Nat.blt k 4 then ("OrderAxioms", "tried", "LOrderAxioms$Execution;", true) else (bif Nat.blt k 5 then ("OrderAxioms", "seen", "LOrderAxioms$Execution;", true) else ("OrderAxioms", "seenRing", "LOrderAxioms$Ring;", true))))
def ox_y5 : Nat → FieldType := fun k => (bif Nat.blt k 3 then (bif Nat.blt k 1 then (.object "OrderAxioms$Program") else (bif Nat.blt k 2 then (.object "OrderAxioms$Model") else (.object "OrderAxioms$Listing"))) else (bif Nat.blt k 4 then (.object "OrderAxioms$Execution") else (bif Nat.blt k 5 then (.object "OrderAxioms$Execution") else (.object "OrderAxioms$Ring"))))
theorem ox_n5 : ∀ a, a < 6 → ∀ b, b < 6 → a ≠ b → (ox_T5 a).2.1 ≠ (ox_T5 b).2.1 := by decide +kernel
theorem ox_yok5 : ∀ k, k < 6 → parseFieldDescriptor (ox_T5 k).2.2.1 = some (ox_y5 k) := by decide +kernel
theorem ox_in5 : ∀ w ∈ u_ws "OrderAxioms" ox_T5 6, w ∈ ox_gw := by decide +kernel
def ox_T6 : u_T := fun k => (bif Nat.blt k 19 then (bif Nat.blt k 9 then (bif Nat.blt k 4 then (bif Nat.blt k 2 then (bif Nat.blt k 1 then ("OrderAxiomsModel", "thrown", "I", false) else ("OrderAxiomsModel", "threads", "I", false)) else (bif Nat.blt k 3 then ("OrderAxiomsModel", "events", "I", false) else ("OrderAxiomsModel", "threadOf", "[I", true))) else (bif Nat.blt k 6 then (bif Nat.blt k 5 then ("OrderAxiomsModel", "kind", "[I", true) else ("OrderAxiomsModel", "place", "[I", true)) else (bif Nat.blt k 7 then ("OrderAxiomsModel", "value", "[I", true) else (bif Nat.blt k 8 then ("OrderAxiomsModel", "depends", "[Z", true) else ("OrderAxiomsModel", "relations", "I", false))))) else (bif Nat.blt k 14 then (bif Nat.blt k 11 then (bif Nat.blt k 10 then ("OrderAxiomsModel", "how", "[I", true) else ("OrderAxiomsModel", "left", "[I", true)) else (bif Nat.blt k 12 then ("OrderAxiomsModel", "right", "[I", true) else (bif Nat.blt k 13 then ("OrderAxiomsModel", "rules", "I", false) else ("OrderAxiomsModel", "rule", "[I", true)))) else (bif Nat.blt k 16 then (bif Nat.blt k 15 then ("OrderAxiomsModel", "sourceOf", "[I", true) else ("OrderAxiomsModel", "orderOf", "[I", true)) else (bif Nat.blt k 17 then ("OrderAxiomsModel", "writesOf", "[I", true) else (bif Nat.blt k 18 then ("OrderAxiomsModel", "rank", "[I", true) else ("OrderAxiomsModel", "in", "[Z", true)))))) else (bif Nat.blt k 28 then (bif Nat.blt k 23 then (bif Nat.blt k 21 then (bif Nat.blt k 20 then ("OrderAxiomsModel", "steps", "[Z", true) else ("OrderAxiomsModel", "outcomes", "I", false)) else (bif Nat.blt k 22 then ("OrderAxiomsModel", "listed", "I", false) else ("OrderAxiomsModel", "allowed", "I", false))) else (bif Nat.blt k 25 then (bif Nat.blt k 24 then ("OrderAxiomsModel", "listedReads", "I", false) else ("OrderAxiomsModel", "rowAt", "[I", true)) else (bif Nat.blt k 26 then ("OrderAxiomsModel", "values", "[I", true) else (bif Nat.blt k 27 then ("OrderAxiomsModel", "times", "[I", true) else ("OrderAxiomsModel", "firstOf", "[I", true))))) else (bif Nat.blt k 33 then (bif Nat.blt k 30 then (bif Nat.blt k 29 then ("OrderAxiomsModel", "now", "[I", true) else ("OrderAxiomsModel", "seenEvents", "I", false)) else (bif Nat.blt k 31 then ("OrderAxiomsModel", "seenReads", "I", false) else (bif Nat.blt k 32 then ("OrderAxiomsModel", "seenRelations", "I", false) else ("OrderAxiomsModel", "ringSize", "I", false)))) else (bif Nat.blt k 35 then (bif Nat.blt k 34 then ("OrderAxiomsModel", "seenSource", "[I", true) else ("OrderAxiomsModel", "seenOrder", "[I", true)) else (bif Nat.blt k 36 then ("OrderAxiomsModel", "seenWrites", "[I", true) else (bif Nat.blt k 37 then ("OrderAxiomsModel", "seenRing", "[I", true) else ("OrderAxiomsModel", "seen", "[Z", true)))))))
def ox_y6 : Nat → FieldType := fun k => (bif Nat.blt k 19 then (bif Nat.blt k 9 then (bif Nat.blt k 4 then (bif Nat.blt k 2 then (bif Nat.blt k 1 then .int else .int) else (bif Nat.blt k 3 then .int else (.array .int))) else (bif Nat.blt k 6 then (bif Nat.blt k 5 then (.array .int) else (.array .int)) else (bif Nat.blt k 7 then (.array .int) else (bif Nat.blt k 8 then (.array .boolean) else .int)))) else (bif Nat.blt k 14 then (bif Nat.blt k 11 then (bif Nat.blt k 10 then (.array .int) else (.array .int)) else (bif Nat.blt k 12 then (.array .int) else (bif Nat.blt k 13 then .int else (.array .int)))) else (bif Nat.blt k 16 then (bif Nat.blt k 15 then (.array .int) else (.array .int)) else (bif Nat.blt k 17 then (.array .int) else (bif Nat.blt k 18 then (.array .int) else (.array .boolean)))))) else (bif Nat.blt k 28 then (bif Nat.blt k 23 then (bif Nat.blt k 21 then (bif Nat.blt k 20 then (.array .boolean) else .int) else (bif Nat.blt k 22 then .int else .int)) else (bif Nat.blt k 25 then (bif Nat.blt k 24 then .int else (.array .int)) else (bif Nat.blt k 26 then (.array .int) else (bif Nat.blt k 27 then (.array .int) else (.array .int))))) else (bif Nat.blt k 33 then (bif Nat.blt k 30 then (bif Nat.blt k 29 then (.array .int) else .int) else (bif Nat.blt k 31 then .int else (bif Nat.blt k 32 then .int else .int))) else (bif Nat.blt k 35 then (bif Nat.blt k 34 then (.array .int) else (.array .int)) else (bif Nat.blt k 36 then (.array .int) else (bif Nat.blt k 37 then (.array .int) else (.array .boolean)))))))
theorem ox_n6 : ∀ a, a < 38 → ∀ b, b < 38 → a ≠ b → (ox_T6 a).2.1 ≠ (ox_T6 b).2.1 := by decide +kernel
theorem ox_yok6 : ∀ k, k < 38 → parseFieldDescriptor (ox_T6 k).2.2.1 = some (ox_y6 k) := by decide +kernel
theorem ox_in6 : ∀ w ∈ u_ws "OrderAxiomsModel" ox_T6 38, w ∈ ox_gw := by decide +kernel
abbrev ox_cl : List vw_C := [("OrderAxioms$Execution", ox_T0, 13), ("OrderAxioms$Listing", ox_T1, 11), ("OrderAxioms$Model", ox_T2, 6), ("OrderAxioms$Program", ox_T3, 12), ("OrderAxioms$Ring", ox_T4, 3), ("OrderAxioms", ox_T5, 6), ("OrderAxiomsModel", ox_T6, 38)]
end
section
theorem ox_blt {pc n : Nat} (h : n ≤ pc) : Nat.blt pc n = false := by
  cases e : Nat.blt pc n with
  | false => rfl
  | true => exact absurd (Nat.le_of_ble_eq_true e) (by omega)
theorem ox_tab {f : Nat → Option (Instr × Nat × Nat × Nat)} {b : ByteArray} (n : Nat) (h0 : ∀ pc, n ≤ pc → f pc = none) (h : (List.range n).all (fun pc => match f pc with | none => true | some e => decide (decode b pc = .ok (e.1, e.2.1))) = true) :
    ∀ pc e, f pc = some e → decode b pc = .ok (e.1, e.2.1) := by
  intro pc e he
  rcases Nat.lt_or_ge pc n with q | q
  · have h1 := List.all_eq_true.mp h pc (List.mem_range.mpr q)
    rw [he] at h1
    exact of_decide_eq_true h1
  · rw [h0 pc q] at he; cases he

def ox_nm (i : Nat) : MethodName := (bif Nat.blt i 57 then (bif Nat.blt i 28 then (bif Nat.blt i 14 then (bif Nat.blt i 7 then (bif Nat.blt i 3 then (bif Nat.blt i 1 then ⟨"OrderAxioms$Execution", "prepare", "(LOrderAxioms$Program;LOrderAxioms$Model;Z)V"⟩ else (bif Nat.blt i 2 then ⟨"OrderAxioms$Execution", "choose", "(LOrderAxioms$Program;LOrderAxioms$Model;I)V"⟩ else ⟨"OrderAxioms$Execution", "firstBroken", "(LOrderAxioms$Model;)I"⟩)) else (bif Nat.blt i 5 then (bif Nat.blt i 4 then ⟨"OrderAxioms$Execution", "arrange", "(LOrderAxioms$Program;I)V"⟩ else ⟨"OrderAxioms$Execution", "markWanted", "(LOrderAxioms$Model;Z)V"⟩) else (bif Nat.blt i 6 then ⟨"OrderAxioms$Execution", "fillSteady", "(LOrderAxioms$Program;)V"⟩ else ⟨"OrderAxioms$Execution", "fillBehind", "(LOrderAxioms$Program;I)V"⟩))) else (bif Nat.blt i 10 then (bif Nat.blt i 8 then ⟨"OrderAxioms$Execution", "fillPair", "(LOrderAxioms$Program;IIZ)V"⟩ else (bif Nat.blt i 9 then ⟨"OrderAxioms$Execution", "fillChosen", "(LOrderAxioms$Program;)V"⟩ else ⟨"OrderAxioms$Execution", "fillRead", "(LOrderAxioms$Program;II)V"⟩)) else (bif Nat.blt i 12 then (bif Nat.blt i 11 then ⟨"OrderAxioms$Execution", "fillMade", "(LOrderAxioms$Model;I)V"⟩ else ⟨"OrderAxioms$Listing", "begin", "(LOrderAxioms$Program;I)V"⟩) else (bif Nat.blt i 13 then ⟨"OrderAxioms$Listing", "addAllowed", "(I[I)V"⟩ else ⟨"OrderAxioms$Listing", "finish", "()V"⟩)))) else (bif Nat.blt i 21 then (bif Nat.blt i 17 then (bif Nat.blt i 15 then ⟨"OrderAxioms$Listing", "valueRead", "(II)I"⟩ else (bif Nat.blt i 16 then ⟨"OrderAxioms$Listing", "countAt", "(I)I"⟩ else ⟨"OrderAxioms$Listing", "rankValues", "(LOrderAxioms$Program;I)V"⟩)) else (bif Nat.blt i 19 then (bif Nat.blt i 18 then ⟨"OrderAxioms$Listing", "insertValue", "(II)V"⟩ else ⟨"OrderAxioms$Listing", "rankOf", "(II)I"⟩) else (bif Nat.blt i 20 then ⟨"OrderAxioms$Model", "forget", "()V"⟩ else ⟨"OrderAxioms$Model", "addRelation", "(III)I"⟩))) else (bif Nat.blt i 24 then (bif Nat.blt i 22 then ⟨"OrderAxioms$Model", "addRule", "(I)V"⟩ else (bif Nat.blt i 23 then ⟨"OrderAxioms$Model", "addOrderRule", "(II)V"⟩ else ⟨"OrderAxioms$Model", "addKept", "(I)I"⟩)) else (bif Nat.blt i 26 then (bif Nat.blt i 25 then ⟨"OrderAxioms$Program", "forget", "()V"⟩ else ⟨"OrderAxioms$Program", "append", "(IIII)I"⟩) else (bif Nat.blt i 27 then ⟨"OrderAxioms$Program", "isBefore", "(II)Z"⟩ else ⟨"OrderAxioms$Program", "placeRead", "(I)I"⟩))))) else (bif Nat.blt i 42 then (bif Nat.blt i 35 then (bif Nat.blt i 31 then (bif Nat.blt i 29 then ⟨"OrderAxioms$Program", "countExecutions", "()I"⟩ else (bif Nat.blt i 30 then ⟨"OrderAxioms$Ring", "find", "([II)V"⟩ else ⟨"OrderAxioms$Ring", "stepsAround", "([III)I"⟩)) else (bif Nat.blt i 33 then (bif Nat.blt i 32 then ⟨"OrderAxioms$Ring", "follow", "([II)V"⟩ else ⟨"OrderAxioms", "thread", "()I"⟩) else (bif Nat.blt i 34 then ⟨"OrderAxioms", "event", "(IIII)I"⟩ else ⟨"OrderAxioms", "depends", "(II)Z"⟩))) else (bif Nat.blt i 38 then (bif Nat.blt i 36 then ⟨"OrderAxioms", "make", "(III)I"⟩ else (bif Nat.blt i 37 then ⟨"OrderAxioms", "rule", "(I)I"⟩ else ⟨"OrderAxioms", "given", "(I)I"⟩)) else (bif Nat.blt i 40 then (bif Nat.blt i 39 then ⟨"OrderAxioms", "run", "()I"⟩ else ⟨"OrderAxioms", "outcome", "(II)I"⟩) else (bif Nat.blt i 41 then ⟨"OrderAxioms", "witness", "(II)I"⟩ else ⟨"OrderAxioms", "look", "(I)I"⟩)))) else (bif Nat.blt i 49 then (bif Nat.blt i 45 then (bif Nat.blt i 43 then ⟨"OrderAxioms", "source", "(I)I"⟩ else (bif Nat.blt i 44 then ⟨"OrderAxioms", "order", "(II)I"⟩ else ⟨"OrderAxioms", "related", "(III)Z"⟩)) else (bif Nat.blt i 47 then (bif Nat.blt i 46 then ⟨"OrderAxioms", "ring", "()I"⟩ else ⟨"OrderAxioms", "ringAt", "(I)I"⟩) else (bif Nat.blt i 48 then ⟨"OrderAxioms", "count", "(I)I"⟩ else ⟨"OrderAxioms", "clear", "()I"⟩))) else (bif Nat.blt i 53 then (bif Nat.blt i 51 then (bif Nat.blt i 50 then ⟨"OrderAxioms", "isBelow", "(II)Z"⟩ else ⟨"OrderAxioms", "takesTwo", "(I)Z"⟩) else (bif Nat.blt i 52 then ⟨"OrderAxiomsModel", "thrown", "()I"⟩ else ⟨"OrderAxiomsModel", "throwing", "(ZZ)Z"⟩)) else (bif Nat.blt i 55 then (bif Nat.blt i 54 then ⟨"OrderAxiomsModel", "thread", "()I"⟩ else ⟨"OrderAxiomsModel", "event", "(IIII)I"⟩) else (bif Nat.blt i 56 then ⟨"OrderAxiomsModel", "isEvent", "(I)Z"⟩ else ⟨"OrderAxiomsModel", "depends", "(II)Z"⟩)))))) else (bif Nat.blt i 86 then (bif Nat.blt i 71 then (bif Nat.blt i 64 then (bif Nat.blt i 60 then (bif Nat.blt i 58 then ⟨"OrderAxiomsModel", "isOf", "(II)Z"⟩ else (bif Nat.blt i 59 then ⟨"OrderAxiomsModel", "add", "(III)I"⟩ else ⟨"OrderAxiomsModel", "make", "(III)I"⟩)) else (bif Nat.blt i 62 then (bif Nat.blt i 61 then ⟨"OrderAxiomsModel", "rule", "(I)I"⟩ else ⟨"OrderAxiomsModel", "ordered", "(II)V"⟩) else (bif Nat.blt i 63 then ⟨"OrderAxiomsModel", "given", "(I)I"⟩ else ⟨"OrderAxiomsModel", "reads", "()I"⟩))) else (bif Nat.blt i 67 then (bif Nat.blt i 65 then ⟨"OrderAxiomsModel", "writes", "(I)I"⟩ else (bif Nat.blt i 66 then ⟨"OrderAxiomsModel", "executions", "()I"⟩ else ⟨"OrderAxiomsModel", "write", "(II)I"⟩)) else (bif Nat.blt i 69 then (bif Nat.blt i 68 then ⟨"OrderAxiomsModel", "arrange", "(II)V"⟩ else ⟨"OrderAxiomsModel", "choose", "(I)V"⟩) else (bif Nat.blt i 70 then ⟨"OrderAxiomsModel", "sourceAt", "(I)I"⟩ else ⟨"OrderAxiomsModel", "isFenced", "(II)Z"⟩)))) else (bif Nat.blt i 78 then (bif Nat.blt i 74 then (bif Nat.blt i 72 then ⟨"OrderAxiomsModel", "isGiven", "(III)Z"⟩ else (bif Nat.blt i 73 then ⟨"OrderAxiomsModel", "is", "(III)Z"⟩ else ⟨"OrderAxiomsModel", "isJoined", "(IIII)Z"⟩)) else (bif Nat.blt i 76 then (bif Nat.blt i 75 then ⟨"OrderAxiomsModel", "isMade", "(III)Z"⟩ else ⟨"OrderAxiomsModel", "close", "(I)V"⟩) else (bif Nat.blt i 77 then ⟨"OrderAxiomsModel", "relate", "()V"⟩ else ⟨"OrderAxiomsModel", "shortest", "(I)I"⟩))) else (bif Nat.blt i 82 then (bif Nat.blt i 80 then (bif Nat.blt i 79 then ⟨"OrderAxiomsModel", "broken", "()I"⟩ else ⟨"OrderAxiomsModel", "compare", "(I)I"⟩) else (bif Nat.blt i 81 then ⟨"OrderAxiomsModel", "take", "(I)V"⟩ else ⟨"OrderAxiomsModel", "run", "()I"⟩)) else (bif Nat.blt i 84 then (bif Nat.blt i 83 then ⟨"OrderAxiomsModel", "outcome", "(II)I"⟩ else ⟨"OrderAxiomsModel", "witness", "(II)I"⟩) else (bif Nat.blt i 85 then ⟨"OrderAxiomsModel", "walk", "(I)V"⟩ else ⟨"OrderAxiomsModel", "look", "(I)I"⟩))))) else (bif Nat.blt i 100 then (bif Nat.blt i 93 then (bif Nat.blt i 89 then (bif Nat.blt i 87 then ⟨"OrderAxiomsModel", "source", "(I)I"⟩ else (bif Nat.blt i 88 then ⟨"OrderAxiomsModel", "order", "(II)I"⟩ else ⟨"OrderAxiomsModel", "related", "(III)Z"⟩)) else (bif Nat.blt i 91 then (bif Nat.blt i 90 then ⟨"OrderAxiomsModel", "ring", "()I"⟩ else ⟨"OrderAxiomsModel", "ringAt", "(I)I"⟩) else (bif Nat.blt i 92 then ⟨"OrderAxiomsModel", "count", "(I)I"⟩ else ⟨"OrderAxiomsModel", "clear", "()I"⟩))) else (bif Nat.blt i 96 then (bif Nat.blt i 94 then ⟨"OrderAxioms$Rows", "fillEach", "([I[I[III)V"⟩ else (bif Nat.blt i 95 then ⟨"OrderAxioms$Rows", "fillJoin", "([I[I[II)V"⟩ else ⟨"OrderAxioms$Rows", "fillTurn", "([I[II)V"⟩)) else (bif Nat.blt i 98 then (bif Nat.blt i 97 then ⟨"OrderAxioms$Rows", "fillClosure", "([I[II)V"⟩ else ⟨"OrderAxioms$Rows", "hasRing", "([II)Z"⟩) else (bif Nat.blt i 99 then ⟨"OrderAxioms$Rows", "leadingInto", "([III)I"⟩ else ⟨"OrderAxioms$Rows", "memberAt", "(II)I"⟩)))) else (bif Nat.blt i 107 then (bif Nat.blt i 103 then (bif Nat.blt i 101 then ⟨"OrderAxiomsLaw", "thread", "(LOrderAxioms;[J)I"⟩ else (bif Nat.blt i 102 then ⟨"OrderAxiomsLaw", "event", "(LOrderAxioms;IIII[J)I"⟩ else ⟨"OrderAxiomsLaw", "depends", "(LOrderAxioms;II[J)I"⟩)) else (bif Nat.blt i 105 then (bif Nat.blt i 104 then ⟨"OrderAxiomsLaw", "make", "(LOrderAxioms;III[J)I"⟩ else ⟨"OrderAxiomsLaw", "rule", "(LOrderAxioms;I[J)I"⟩) else (bif Nat.blt i 106 then ⟨"OrderAxiomsLaw", "given", "(LOrderAxioms;I[J)I"⟩ else ⟨"OrderAxiomsLaw", "run", "(LOrderAxioms;[J)I"⟩))) else (bif Nat.blt i 111 then (bif Nat.blt i 109 then (bif Nat.blt i 108 then ⟨"OrderAxiomsLaw", "outcome", "(LOrderAxioms;II[J)I"⟩ else ⟨"OrderAxiomsLaw", "witness", "(LOrderAxioms;II[J)I"⟩) else (bif Nat.blt i 110 then ⟨"OrderAxiomsLaw", "look", "(LOrderAxioms;I[J)I"⟩ else ⟨"OrderAxiomsLaw", "source", "(LOrderAxioms;I[J)I"⟩)) else (bif Nat.blt i 113 then (bif Nat.blt i 112 then ⟨"OrderAxiomsLaw", "order", "(LOrderAxioms;II[J)I"⟩ else ⟨"OrderAxiomsLaw", "related", "(LOrderAxioms;III[J)I"⟩) else (bif Nat.blt i 114 then ⟨"OrderAxiomsLaw", "ringAt", "(LOrderAxioms;I[J)I"⟩ else ⟨"OrderAxiomsLaw", "law", "([I)Z"⟩)))))))
def ox_b (i : Nat) : ByteArray := (bif Nat.blt i 57 then (bif Nat.blt i 28 then (bif Nat.blt i 14 then (bif Nat.blt i 7 then (bif Nat.blt i 3 then (bif Nat.blt i 1 then prog_2_method_2_code else (bif Nat.blt i 2 then prog_2_method_3_code else prog_2_method_4_code)) else (bif Nat.blt i 5 then (bif Nat.blt i 4 then prog_2_method_5_code else prog_2_method_6_code) else (bif Nat.blt i 6 then prog_2_method_7_code else prog_2_method_8_code))) else (bif Nat.blt i 10 then (bif Nat.blt i 8 then prog_2_method_9_code else (bif Nat.blt i 9 then prog_2_method_10_code else prog_2_method_11_code)) else (bif Nat.blt i 12 then (bif Nat.blt i 11 then prog_2_method_12_code else prog_3_method_2_code) else (bif Nat.blt i 13 then prog_3_method_3_code else prog_3_method_4_code)))) else (bif Nat.blt i 21 then (bif Nat.blt i 17 then (bif Nat.blt i 15 then prog_3_method_5_code else (bif Nat.blt i 16 then prog_3_method_6_code else prog_3_method_7_code)) else (bif Nat.blt i 19 then (bif Nat.blt i 18 then prog_3_method_8_code else prog_3_method_9_code) else (bif Nat.blt i 20 then prog_4_method_2_code else prog_4_method_3_code))) else (bif Nat.blt i 24 then (bif Nat.blt i 22 then prog_4_method_4_code else (bif Nat.blt i 23 then prog_4_method_5_code else prog_4_method_6_code)) else (bif Nat.blt i 26 then (bif Nat.blt i 25 then prog_5_method_2_code else prog_5_method_3_code) else (bif Nat.blt i 27 then prog_5_method_4_code else prog_5_method_5_code))))) else (bif Nat.blt i 42 then (bif Nat.blt i 35 then (bif Nat.blt i 31 then (bif Nat.blt i 29 then prog_5_method_6_code else (bif Nat.blt i 30 then prog_6_method_2_code else prog_6_method_3_code)) else (bif Nat.blt i 33 then (bif Nat.blt i 32 then prog_6_method_4_code else prog_1_method_2_code) else (bif Nat.blt i 34 then prog_1_method_3_code else prog_1_method_4_code))) else (bif Nat.blt i 38 then (bif Nat.blt i 36 then prog_1_method_5_code else (bif Nat.blt i 37 then prog_1_method_6_code else prog_1_method_7_code)) else (bif Nat.blt i 40 then (bif Nat.blt i 39 then prog_1_method_8_code else prog_1_method_9_code) else (bif Nat.blt i 41 then prog_1_method_10_code else prog_1_method_11_code)))) else (bif Nat.blt i 49 then (bif Nat.blt i 45 then (bif Nat.blt i 43 then prog_1_method_12_code else (bif Nat.blt i 44 then prog_1_method_13_code else prog_1_method_14_code)) else (bif Nat.blt i 47 then (bif Nat.blt i 46 then prog_1_method_15_code else prog_1_method_16_code) else (bif Nat.blt i 48 then prog_1_method_17_code else prog_1_method_18_code))) else (bif Nat.blt i 53 then (bif Nat.blt i 51 then (bif Nat.blt i 50 then prog_1_method_19_code else prog_1_method_20_code) else (bif Nat.blt i 52 then prog_9_method_2_code else prog_9_method_3_code)) else (bif Nat.blt i 55 then (bif Nat.blt i 54 then prog_9_method_4_code else prog_9_method_5_code) else (bif Nat.blt i 56 then prog_9_method_6_code else prog_9_method_7_code)))))) else (bif Nat.blt i 86 then (bif Nat.blt i 71 then (bif Nat.blt i 64 then (bif Nat.blt i 60 then (bif Nat.blt i 58 then prog_9_method_8_code else (bif Nat.blt i 59 then prog_9_method_9_code else prog_9_method_10_code)) else (bif Nat.blt i 62 then (bif Nat.blt i 61 then prog_9_method_11_code else prog_9_method_12_code) else (bif Nat.blt i 63 then prog_9_method_13_code else prog_9_method_14_code))) else (bif Nat.blt i 67 then (bif Nat.blt i 65 then prog_9_method_15_code else (bif Nat.blt i 66 then prog_9_method_16_code else prog_9_method_17_code)) else (bif Nat.blt i 69 then (bif Nat.blt i 68 then prog_9_method_18_code else prog_9_method_19_code) else (bif Nat.blt i 70 then prog_9_method_20_code else prog_9_method_21_code)))) else (bif Nat.blt i 78 then (bif Nat.blt i 74 then (bif Nat.blt i 72 then prog_9_method_22_code else (bif Nat.blt i 73 then prog_9_method_23_code else prog_9_method_24_code)) else (bif Nat.blt i 76 then (bif Nat.blt i 75 then prog_9_method_25_code else prog_9_method_26_code) else (bif Nat.blt i 77 then prog_9_method_27_code else prog_9_method_28_code))) else (bif Nat.blt i 82 then (bif Nat.blt i 80 then (bif Nat.blt i 79 then prog_9_method_29_code else prog_9_method_30_code) else (bif Nat.blt i 81 then prog_9_method_31_code else prog_9_method_32_code)) else (bif Nat.blt i 84 then (bif Nat.blt i 83 then prog_9_method_33_code else prog_9_method_34_code) else (bif Nat.blt i 85 then prog_9_method_35_code else prog_9_method_36_code))))) else (bif Nat.blt i 100 then (bif Nat.blt i 93 then (bif Nat.blt i 89 then (bif Nat.blt i 87 then prog_9_method_37_code else (bif Nat.blt i 88 then prog_9_method_38_code else prog_9_method_39_code)) else (bif Nat.blt i 91 then (bif Nat.blt i 90 then prog_9_method_40_code else prog_9_method_41_code) else (bif Nat.blt i 92 then prog_9_method_42_code else prog_9_method_43_code))) else (bif Nat.blt i 96 then (bif Nat.blt i 94 then prog_7_method_2_code else (bif Nat.blt i 95 then prog_7_method_3_code else prog_7_method_4_code)) else (bif Nat.blt i 98 then (bif Nat.blt i 97 then prog_7_method_5_code else prog_7_method_6_code) else (bif Nat.blt i 99 then prog_7_method_7_code else prog_7_method_8_code)))) else (bif Nat.blt i 107 then (bif Nat.blt i 103 then (bif Nat.blt i 101 then method_3_code else (bif Nat.blt i 102 then method_4_code else method_5_code)) else (bif Nat.blt i 105 then (bif Nat.blt i 104 then method_6_code else method_7_code) else (bif Nat.blt i 106 then method_8_code else method_9_code))) else (bif Nat.blt i 111 then (bif Nat.blt i 109 then (bif Nat.blt i 108 then method_10_code else method_11_code) else (bif Nat.blt i 110 then method_12_code else method_13_code)) else (bif Nat.blt i 113 then (bif Nat.blt i 112 then method_14_code else method_15_code) else (bif Nat.blt i 114 then method_16_code else code)))))))
def ox_mL (i : Nat) : Nat := (bif Nat.blt i 57 then (bif Nat.blt i 28 then (bif Nat.blt i 14 then (bif Nat.blt i 7 then (bif Nat.blt i 3 then (bif Nat.blt i 1 then 5 else (bif Nat.blt i 2 then 8 else 3)) else (bif Nat.blt i 5 then (bif Nat.blt i 4 then 6 else 4) else (bif Nat.blt i 6 then 4 else 5))) else (bif Nat.blt i 10 then (bif Nat.blt i 8 then 5 else (bif Nat.blt i 9 then 6 else 4)) else (bif Nat.blt i 12 then (bif Nat.blt i 11 then 6 else 4) else (bif Nat.blt i 13 then 6 else 2)))) else (bif Nat.blt i 21 then (bif Nat.blt i 17 then (bif Nat.blt i 15 then 5 else (bif Nat.blt i 16 then 2 else 5)) else (bif Nat.blt i 19 then (bif Nat.blt i 18 then 6 else 5) else (bif Nat.blt i 20 then 1 else 5))) else (bif Nat.blt i 24 then (bif Nat.blt i 22 then 2 else (bif Nat.blt i 23 then 4 else 3)) else (bif Nat.blt i 26 then (bif Nat.blt i 25 then 2 else 6) else (bif Nat.blt i 27 then 3 else 2))))) else (bif Nat.blt i 42 then (bif Nat.blt i 35 then (bif Nat.blt i 31 then (bif Nat.blt i 29 then 4 else (bif Nat.blt i 30 then 5 else 5)) else (bif Nat.blt i 33 then (bif Nat.blt i 32 then 4 else 1) else (bif Nat.blt i 34 then 5 else 4))) else (bif Nat.blt i 38 then (bif Nat.blt i 36 then 4 else (bif Nat.blt i 37 then 2 else 2)) else (bif Nat.blt i 40 then (bif Nat.blt i 39 then 3 else 3) else (bif Nat.blt i 41 then 3 else 4)))) else (bif Nat.blt i 49 then (bif Nat.blt i 45 then (bif Nat.blt i 43 then 2 else (bif Nat.blt i 44 then 3 else 4)) else (bif Nat.blt i 47 then (bif Nat.blt i 46 then 1 else 2) else (bif Nat.blt i 48 then 2 else 2))) else (bif Nat.blt i 53 then (bif Nat.blt i 51 then (bif Nat.blt i 50 then 2 else 1) else (bif Nat.blt i 52 then 1 else 3)) else (bif Nat.blt i 55 then (bif Nat.blt i 54 then 1 else 7) else (bif Nat.blt i 56 then 2 else 5)))))) else (bif Nat.blt i 86 then (bif Nat.blt i 71 then (bif Nat.blt i 64 then (bif Nat.blt i 60 then (bif Nat.blt i 58 then 2 else (bif Nat.blt i 59 then 4 else 5)) else (bif Nat.blt i 62 then (bif Nat.blt i 61 then 2 else 4) else (bif Nat.blt i 63 then 3 else 3))) else (bif Nat.blt i 67 then (bif Nat.blt i 65 then 4 else (bif Nat.blt i 66 then 5 else 5)) else (bif Nat.blt i 69 then (bif Nat.blt i 68 then 9 else 6) else (bif Nat.blt i 70 then 4 else 5)))) else (bif Nat.blt i 78 then (bif Nat.blt i 74 then (bif Nat.blt i 72 then 7 else (bif Nat.blt i 73 then 4 else 7)) else (bif Nat.blt i 76 then (bif Nat.blt i 75 then 6 else 5) else (bif Nat.blt i 77 then 4 else 8))) else (bif Nat.blt i 82 then (bif Nat.blt i 80 then (bif Nat.blt i 79 then 2 else 3) else (bif Nat.blt i 81 then 5 else 3)) else (bif Nat.blt i 84 then (bif Nat.blt i 83 then 3 else 3) else (bif Nat.blt i 85 then 6 else 5))))) else (bif Nat.blt i 100 then (bif Nat.blt i 93 then (bif Nat.blt i 89 then (bif Nat.blt i 87 then 2 else (bif Nat.blt i 88 then 3 else 4)) else (bif Nat.blt i 91 then (bif Nat.blt i 90 then 1 else 2) else (bif Nat.blt i 92 then 2 else 2))) else (bif Nat.blt i 96 then (bif Nat.blt i 94 then 6 else (bif Nat.blt i 95 then 6 else 5)) else (bif Nat.blt i 98 then (bif Nat.blt i 97 then 5 else 6) else (bif Nat.blt i 99 then 5 else 4)))) else (bif Nat.blt i 107 then (bif Nat.blt i 103 then (bif Nat.blt i 101 then 3 else (bif Nat.blt i 102 then 7 else 5)) else (bif Nat.blt i 105 then (bif Nat.blt i 104 then 6 else 4) else (bif Nat.blt i 106 then 4 else 3))) else (bif Nat.blt i 111 then (bif Nat.blt i 109 then (bif Nat.blt i 108 then 5 else 5) else (bif Nat.blt i 110 then 4 else 4)) else (bif Nat.blt i 113 then (bif Nat.blt i 112 then 5 else 6) else (bif Nat.blt i 114 then 4 else 7)))))))
def ox_rt (i : Nat) : Option FieldType := (bif Nat.blt i 57 then (bif Nat.blt i 28 then (bif Nat.blt i 14 then (bif Nat.blt i 7 then (bif Nat.blt i 3 then (bif Nat.blt i 1 then none else (bif Nat.blt i 2 then none else some .int)) else (bif Nat.blt i 5 then (bif Nat.blt i 4 then none else none) else (bif Nat.blt i 6 then none else none))) else (bif Nat.blt i 10 then (bif Nat.blt i 8 then none else (bif Nat.blt i 9 then none else none)) else (bif Nat.blt i 12 then (bif Nat.blt i 11 then none else none) else (bif Nat.blt i 13 then none else none)))) else (bif Nat.blt i 21 then (bif Nat.blt i 17 then (bif Nat.blt i 15 then some .int else (bif Nat.blt i 16 then some .int else none)) else (bif Nat.blt i 19 then (bif Nat.blt i 18 then none else some .int) else (bif Nat.blt i 20 then none else some .int))) else (bif Nat.blt i 24 then (bif Nat.blt i 22 then none else (bif Nat.blt i 23 then none else some .int)) else (bif Nat.blt i 26 then (bif Nat.blt i 25 then none else some .int) else (bif Nat.blt i 27 then some .boolean else some .int))))) else (bif Nat.blt i 42 then (bif Nat.blt i 35 then (bif Nat.blt i 31 then (bif Nat.blt i 29 then some .int else (bif Nat.blt i 30 then none else some .int)) else (bif Nat.blt i 33 then (bif Nat.blt i 32 then none else some .int) else (bif Nat.blt i 34 then some .int else some .boolean))) else (bif Nat.blt i 38 then (bif Nat.blt i 36 then some .int else (bif Nat.blt i 37 then some .int else some .int)) else (bif Nat.blt i 40 then (bif Nat.blt i 39 then some .int else some .int) else (bif Nat.blt i 41 then some .int else some .int)))) else (bif Nat.blt i 49 then (bif Nat.blt i 45 then (bif Nat.blt i 43 then some .int else (bif Nat.blt i 44 then some .int else some .boolean)) else (bif Nat.blt i 47 then (bif Nat.blt i 46 then some .int else some .int) else (bif Nat.blt i 48 then some .int else some .int))) else (bif Nat.blt i 53 then (bif Nat.blt i 51 then (bif Nat.blt i 50 then some .boolean else some .boolean) else (bif Nat.blt i 52 then some .int else some .boolean)) else (bif Nat.blt i 55 then (bif Nat.blt i 54 then some .int else some .int) else (bif Nat.blt i 56 then some .boolean else some .boolean)))))) else (bif Nat.blt i 86 then (bif Nat.blt i 71 then (bif Nat.blt i 64 then (bif Nat.blt i 60 then (bif Nat.blt i 58 then some .boolean else (bif Nat.blt i 59 then some .int else some .int)) else (bif Nat.blt i 62 then (bif Nat.blt i 61 then some .int else none) else (bif Nat.blt i 63 then some .int else some .int))) else (bif Nat.blt i 67 then (bif Nat.blt i 65 then some .int else (bif Nat.blt i 66 then some .int else some .int)) else (bif Nat.blt i 69 then (bif Nat.blt i 68 then none else none) else (bif Nat.blt i 70 then some .int else some .boolean)))) else (bif Nat.blt i 78 then (bif Nat.blt i 74 then (bif Nat.blt i 72 then some .boolean else (bif Nat.blt i 73 then some .boolean else some .boolean)) else (bif Nat.blt i 76 then (bif Nat.blt i 75 then some .boolean else none) else (bif Nat.blt i 77 then none else some .int))) else (bif Nat.blt i 82 then (bif Nat.blt i 80 then (bif Nat.blt i 79 then some .int else some .int) else (bif Nat.blt i 81 then none else some .int)) else (bif Nat.blt i 84 then (bif Nat.blt i 83 then some .int else some .int) else (bif Nat.blt i 85 then none else some .int))))) else (bif Nat.blt i 100 then (bif Nat.blt i 93 then (bif Nat.blt i 89 then (bif Nat.blt i 87 then some .int else (bif Nat.blt i 88 then some .int else some .boolean)) else (bif Nat.blt i 91 then (bif Nat.blt i 90 then some .int else some .int) else (bif Nat.blt i 92 then some .int else some .int))) else (bif Nat.blt i 96 then (bif Nat.blt i 94 then none else (bif Nat.blt i 95 then none else none)) else (bif Nat.blt i 98 then (bif Nat.blt i 97 then none else some .boolean) else (bif Nat.blt i 99 then some .int else some .int)))) else (bif Nat.blt i 107 then (bif Nat.blt i 103 then (bif Nat.blt i 101 then some .int else (bif Nat.blt i 102 then some .int else some .int)) else (bif Nat.blt i 105 then (bif Nat.blt i 104 then some .int else some .int) else (bif Nat.blt i 106 then some .int else some .int))) else (bif Nat.blt i 111 then (bif Nat.blt i 109 then (bif Nat.blt i 108 then some .int else some .int) else (bif Nat.blt i 110 then some .int else some .int)) else (bif Nat.blt i 113 then (bif Nat.blt i 112 then some .int else some .int) else (bif Nat.blt i 114 then some .int else some .boolean)))))))
def ox_ow (i : Nat) : Nat := (bif Nat.blt i 57 then (bif Nat.blt i 28 then (bif Nat.blt i 14 then (bif Nat.blt i 7 then (bif Nat.blt i 3 then (bif Nat.blt i 1 then 0 else (bif Nat.blt i 2 then 0 else 0)) else (bif Nat.blt i 5 then (bif Nat.blt i 4 then 0 else 0) else (bif Nat.blt i 6 then 0 else 0))) else (bif Nat.blt i 10 then (bif Nat.blt i 8 then 0 else (bif Nat.blt i 9 then 0 else 0)) else (bif Nat.blt i 12 then (bif Nat.blt i 11 then 0 else 1) else (bif Nat.blt i 13 then 1 else 1)))) else (bif Nat.blt i 21 then (bif Nat.blt i 17 then (bif Nat.blt i 15 then 1 else (bif Nat.blt i 16 then 1 else 1)) else (bif Nat.blt i 19 then (bif Nat.blt i 18 then 1 else 1) else (bif Nat.blt i 20 then 2 else 2))) else (bif Nat.blt i 24 then (bif Nat.blt i 22 then 2 else (bif Nat.blt i 23 then 2 else 2)) else (bif Nat.blt i 26 then (bif Nat.blt i 25 then 3 else 3) else (bif Nat.blt i 27 then 3 else 3))))) else (bif Nat.blt i 42 then (bif Nat.blt i 35 then (bif Nat.blt i 31 then (bif Nat.blt i 29 then 3 else (bif Nat.blt i 30 then 4 else 4)) else (bif Nat.blt i 33 then (bif Nat.blt i 32 then 4 else 5) else (bif Nat.blt i 34 then 5 else 5))) else (bif Nat.blt i 38 then (bif Nat.blt i 36 then 5 else (bif Nat.blt i 37 then 5 else 5)) else (bif Nat.blt i 40 then (bif Nat.blt i 39 then 5 else 5) else (bif Nat.blt i 41 then 5 else 5)))) else (bif Nat.blt i 49 then (bif Nat.blt i 45 then (bif Nat.blt i 43 then 5 else (bif Nat.blt i 44 then 5 else 5)) else (bif Nat.blt i 47 then (bif Nat.blt i 46 then 5 else 5) else (bif Nat.blt i 48 then 5 else 5))) else (bif Nat.blt i 53 then (bif Nat.blt i 51 then (bif Nat.blt i 50 then 5 else 5) else (bif Nat.blt i 52 then 6 else 6)) else (bif Nat.blt i 55 then (bif Nat.blt i 54 then 6 else 6) else (bif Nat.blt i 56 then 6 else 6)))))) else (bif Nat.blt i 86 then (bif Nat.blt i 71 then (bif Nat.blt i 64 then (bif Nat.blt i 60 then (bif Nat.blt i 58 then 6 else (bif Nat.blt i 59 then 6 else 6)) else (bif Nat.blt i 62 then (bif Nat.blt i 61 then 6 else 6) else (bif Nat.blt i 63 then 6 else 6))) else (bif Nat.blt i 67 then (bif Nat.blt i 65 then 6 else (bif Nat.blt i 66 then 6 else 6)) else (bif Nat.blt i 69 then (bif Nat.blt i 68 then 6 else 6) else (bif Nat.blt i 70 then 6 else 6)))) else (bif Nat.blt i 78 then (bif Nat.blt i 74 then (bif Nat.blt i 72 then 6 else (bif Nat.blt i 73 then 6 else 6)) else (bif Nat.blt i 76 then (bif Nat.blt i 75 then 6 else 6) else (bif Nat.blt i 77 then 6 else 6))) else (bif Nat.blt i 82 then (bif Nat.blt i 80 then (bif Nat.blt i 79 then 6 else 6) else (bif Nat.blt i 81 then 6 else 6)) else (bif Nat.blt i 84 then (bif Nat.blt i 83 then 6 else 6) else (bif Nat.blt i 85 then 6 else 6))))) else (bif Nat.blt i 100 then (bif Nat.blt i 93 then (bif Nat.blt i 89 then (bif Nat.blt i 87 then 6 else (bif Nat.blt i 88 then 6 else 6)) else (bif Nat.blt i 91 then (bif Nat.blt i 90 then 6 else 6) else (bif Nat.blt i 92 then 6 else 6))) else (bif Nat.blt i 96 then (bif Nat.blt i 94 then 7 else (bif Nat.blt i 95 then 7 else 7)) else (bif Nat.blt i 98 then (bif Nat.blt i 97 then 7 else 7) else (bif Nat.blt i 99 then 7 else 7)))) else (bif Nat.blt i 107 then (bif Nat.blt i 103 then (bif Nat.blt i 101 then 8 else (bif Nat.blt i 102 then 8 else 8)) else (bif Nat.blt i 105 then (bif Nat.blt i 104 then 8 else 8) else (bif Nat.blt i 106 then 8 else 8))) else (bif Nat.blt i 111 then (bif Nat.blt i 109 then (bif Nat.blt i 108 then 8 else 8) else (bif Nat.blt i 110 then 8 else 8)) else (bif Nat.blt i 113 then (bif Nat.blt i 112 then 8 else 8) else (bif Nat.blt i 114 then 8 else 8)))))))
def ox_sta (i : Nat) : Bool := (bif Nat.blt i 57 then (bif Nat.blt i 28 then (bif Nat.blt i 14 then (bif Nat.blt i 7 then (bif Nat.blt i 3 then (bif Nat.blt i 1 then false else (bif Nat.blt i 2 then false else false)) else (bif Nat.blt i 5 then (bif Nat.blt i 4 then false else false) else (bif Nat.blt i 6 then false else false))) else (bif Nat.blt i 10 then (bif Nat.blt i 8 then false else (bif Nat.blt i 9 then false else false)) else (bif Nat.blt i 12 then (bif Nat.blt i 11 then false else false) else (bif Nat.blt i 13 then false else false)))) else (bif Nat.blt i 21 then (bif Nat.blt i 17 then (bif Nat.blt i 15 then false else (bif Nat.blt i 16 then false else false)) else (bif Nat.blt i 19 then (bif Nat.blt i 18 then false else false) else (bif Nat.blt i 20 then false else false))) else (bif Nat.blt i 24 then (bif Nat.blt i 22 then false else (bif Nat.blt i 23 then false else false)) else (bif Nat.blt i 26 then (bif Nat.blt i 25 then false else false) else (bif Nat.blt i 27 then false else false))))) else (bif Nat.blt i 42 then (bif Nat.blt i 35 then (bif Nat.blt i 31 then (bif Nat.blt i 29 then false else (bif Nat.blt i 30 then false else false)) else (bif Nat.blt i 33 then (bif Nat.blt i 32 then false else false) else (bif Nat.blt i 34 then false else false))) else (bif Nat.blt i 38 then (bif Nat.blt i 36 then false else (bif Nat.blt i 37 then false else false)) else (bif Nat.blt i 40 then (bif Nat.blt i 39 then false else false) else (bif Nat.blt i 41 then false else false)))) else (bif Nat.blt i 49 then (bif Nat.blt i 45 then (bif Nat.blt i 43 then false else (bif Nat.blt i 44 then false else false)) else (bif Nat.blt i 47 then (bif Nat.blt i 46 then false else false) else (bif Nat.blt i 48 then false else false))) else (bif Nat.blt i 53 then (bif Nat.blt i 51 then (bif Nat.blt i 50 then true else true) else (bif Nat.blt i 52 then false else false)) else (bif Nat.blt i 55 then (bif Nat.blt i 54 then false else false) else (bif Nat.blt i 56 then false else false)))))) else (bif Nat.blt i 86 then (bif Nat.blt i 71 then (bif Nat.blt i 64 then (bif Nat.blt i 60 then (bif Nat.blt i 58 then true else (bif Nat.blt i 59 then false else false)) else (bif Nat.blt i 62 then (bif Nat.blt i 61 then false else false) else (bif Nat.blt i 63 then false else false))) else (bif Nat.blt i 67 then (bif Nat.blt i 65 then false else (bif Nat.blt i 66 then false else false)) else (bif Nat.blt i 69 then (bif Nat.blt i 68 then false else false) else (bif Nat.blt i 70 then false else false)))) else (bif Nat.blt i 78 then (bif Nat.blt i 74 then (bif Nat.blt i 72 then false else (bif Nat.blt i 73 then false else false)) else (bif Nat.blt i 76 then (bif Nat.blt i 75 then false else false) else (bif Nat.blt i 77 then false else false))) else (bif Nat.blt i 82 then (bif Nat.blt i 80 then (bif Nat.blt i 79 then false else false) else (bif Nat.blt i 81 then false else false)) else (bif Nat.blt i 84 then (bif Nat.blt i 83 then false else false) else (bif Nat.blt i 85 then false else false))))) else (bif Nat.blt i 100 then (bif Nat.blt i 93 then (bif Nat.blt i 89 then (bif Nat.blt i 87 then false else (bif Nat.blt i 88 then false else false)) else (bif Nat.blt i 91 then (bif Nat.blt i 90 then false else false) else (bif Nat.blt i 92 then false else false))) else (bif Nat.blt i 96 then (bif Nat.blt i 94 then true else (bif Nat.blt i 95 then true else true)) else (bif Nat.blt i 98 then (bif Nat.blt i 97 then true else true) else (bif Nat.blt i 99 then true else true)))) else (bif Nat.blt i 107 then (bif Nat.blt i 103 then (bif Nat.blt i 101 then true else (bif Nat.blt i 102 then true else true)) else (bif Nat.blt i 105 then (bif Nat.blt i 104 then true else true) else (bif Nat.blt i 106 then true else true))) else (bif Nat.blt i 111 then (bif Nat.blt i 109 then (bif Nat.blt i 108 then true else true) else (bif Nat.blt i 110 then true else true)) else (bif Nat.blt i 113 then (bif Nat.blt i 112 then true else true) else (bif Nat.blt i 114 then true else true)))))))
def ox_hh (i : Nat) : List (Nat × Nat × Nat × Nat) := (bif Nat.blt i 57 then (bif Nat.blt i 28 then (bif Nat.blt i 14 then (bif Nat.blt i 7 then (bif Nat.blt i 3 then (bif Nat.blt i 1 then [] else (bif Nat.blt i 2 then [] else [])) else (bif Nat.blt i 5 then (bif Nat.blt i 4 then [] else []) else (bif Nat.blt i 6 then [] else []))) else (bif Nat.blt i 10 then (bif Nat.blt i 8 then [] else (bif Nat.blt i 9 then [] else [])) else (bif Nat.blt i 12 then (bif Nat.blt i 11 then [] else []) else (bif Nat.blt i 13 then [] else [])))) else (bif Nat.blt i 21 then (bif Nat.blt i 17 then (bif Nat.blt i 15 then [] else (bif Nat.blt i 16 then [] else [])) else (bif Nat.blt i 19 then (bif Nat.blt i 18 then [] else []) else (bif Nat.blt i 20 then [] else []))) else (bif Nat.blt i 24 then (bif Nat.blt i 22 then [] else (bif Nat.blt i 23 then [] else [])) else (bif Nat.blt i 26 then (bif Nat.blt i 25 then [] else []) else (bif Nat.blt i 27 then [] else []))))) else (bif Nat.blt i 42 then (bif Nat.blt i 35 then (bif Nat.blt i 31 then (bif Nat.blt i 29 then [] else (bif Nat.blt i 30 then [] else [])) else (bif Nat.blt i 33 then (bif Nat.blt i 32 then [] else []) else (bif Nat.blt i 34 then [] else []))) else (bif Nat.blt i 38 then (bif Nat.blt i 36 then [] else (bif Nat.blt i 37 then [] else [])) else (bif Nat.blt i 40 then (bif Nat.blt i 39 then [] else []) else (bif Nat.blt i 41 then [] else [])))) else (bif Nat.blt i 49 then (bif Nat.blt i 45 then (bif Nat.blt i 43 then [] else (bif Nat.blt i 44 then [] else [])) else (bif Nat.blt i 47 then (bif Nat.blt i 46 then [] else []) else (bif Nat.blt i 48 then [] else []))) else (bif Nat.blt i 53 then (bif Nat.blt i 51 then (bif Nat.blt i 50 then [] else []) else (bif Nat.blt i 52 then [] else [])) else (bif Nat.blt i 55 then (bif Nat.blt i 54 then [] else []) else (bif Nat.blt i 56 then [] else [])))))) else (bif Nat.blt i 86 then (bif Nat.blt i 71 then (bif Nat.blt i 64 then (bif Nat.blt i 60 then (bif Nat.blt i 58 then [] else (bif Nat.blt i 59 then [] else [])) else (bif Nat.blt i 62 then (bif Nat.blt i 61 then [] else []) else (bif Nat.blt i 63 then [] else []))) else (bif Nat.blt i 67 then (bif Nat.blt i 65 then [] else (bif Nat.blt i 66 then [] else [])) else (bif Nat.blt i 69 then (bif Nat.blt i 68 then [] else []) else (bif Nat.blt i 70 then [] else [])))) else (bif Nat.blt i 78 then (bif Nat.blt i 74 then (bif Nat.blt i 72 then [] else (bif Nat.blt i 73 then [] else [])) else (bif Nat.blt i 76 then (bif Nat.blt i 75 then [] else []) else (bif Nat.blt i 77 then [] else []))) else (bif Nat.blt i 82 then (bif Nat.blt i 80 then (bif Nat.blt i 79 then [] else []) else (bif Nat.blt i 81 then [] else [])) else (bif Nat.blt i 84 then (bif Nat.blt i 83 then [] else []) else (bif Nat.blt i 85 then [] else []))))) else (bif Nat.blt i 100 then (bif Nat.blt i 93 then (bif Nat.blt i 89 then (bif Nat.blt i 87 then [] else (bif Nat.blt i 88 then [] else [])) else (bif Nat.blt i 91 then (bif Nat.blt i 90 then [] else []) else (bif Nat.blt i 92 then [] else []))) else (bif Nat.blt i 96 then (bif Nat.blt i 94 then [] else (bif Nat.blt i 95 then [] else [])) else (bif Nat.blt i 98 then (bif Nat.blt i 97 then [] else []) else (bif Nat.blt i 99 then [] else [])))) else (bif Nat.blt i 107 then (bif Nat.blt i 103 then (bif Nat.blt i 101 then [(0, 8, 11, 13)] else (bif Nat.blt i 102 then [(0, 14, 17, 19), (0, 14, 21, 13)] else [(0, 17, 20, 19)])) else (bif Nat.blt i 105 then (bif Nat.blt i 104 then [(0, 12, 15, 19), (0, 12, 19, 13)] else [(0, 9, 12, 19), (0, 9, 15, 13)]) else (bif Nat.blt i 106 then [(0, 9, 12, 19)] else [(0, 8, 11, 13)]))) else (bif Nat.blt i 111 then (bif Nat.blt i 109 then (bif Nat.blt i 108 then [(0, 10, 13, 43)] else [(0, 10, 13, 43)]) else (bif Nat.blt i 110 then [(0, 9, 12, 43), (0, 9, 15, 13)] else [(0, 9, 12, 43)])) else (bif Nat.blt i 113 then (bif Nat.blt i 112 then [(0, 10, 13, 43)] else [(0, 19, 22, 43)]) else (bif Nat.blt i 114 then [(0, 9, 12, 43)] else [])))))))
/-- the word of a method's code -/
def ox_cw (i : Nat) : Cond := match ox_hh i with
  | [] => .code (ox_nm i) (ox_b i) (ox_mL i) (ox_rt i)
  | h => .codeWith (ox_nm i) (ox_b i) (ox_mL i) (ox_rt i) h
def ox_cp (i : Nat) : Nat := (bif Nat.blt i 57 then (bif Nat.blt i 28 then (bif Nat.blt i 14 then (bif Nat.blt i 7 then (bif Nat.blt i 3 then (bif Nat.blt i 1 then 527 else (bif Nat.blt i 2 then 564 else 584)) else (bif Nat.blt i 5 then (bif Nat.blt i 4 then 568 else 544) else (bif Nat.blt i 6 then 531 else 535))) else (bif Nat.blt i 10 then (bif Nat.blt i 8 then 540 else (bif Nat.blt i 9 then 576 else 580)) else (bif Nat.blt i 12 then (bif Nat.blt i 11 then 548 else 510) else (bif Nat.blt i 13 then 591 else 595)))) else (bif Nat.blt i 21 then (bif Nat.blt i 17 then (bif Nat.blt i 15 then 623 else (bif Nat.blt i 16 then 627 else 515)) else (bif Nat.blt i 19 then (bif Nat.blt i 18 then 519 else 523) else (bif Nat.blt i 20 then 480 else 456))) else (bif Nat.blt i 24 then (bif Nat.blt i 22 then 469 else (bif Nat.blt i 23 then 484 else 490)) else (bif Nat.blt i 26 then (bif Nat.blt i 25 then 316 else 426) else (bif Nat.blt i 27 then 438 else 505))))) else (bif Nat.blt i 42 then (bif Nat.blt i 35 then (bif Nat.blt i 31 then (bif Nat.blt i 29 then 501 else (bif Nat.blt i 30 then 650 else 654)) else (bif Nat.blt i 33 then (bif Nat.blt i 32 then 661 else 324) else (bif Nat.blt i 34 then 400 else 433))) else (bif Nat.blt i 38 then (bif Nat.blt i 36 then 446 else (bif Nat.blt i 37 then 464 else 476)) else (bif Nat.blt i 40 then (bif Nat.blt i 39 then 497 else 603) else (bif Nat.blt i 41 then 637 else 645)))) else (bif Nat.blt i 49 then (bif Nat.blt i 45 then (bif Nat.blt i 43 then 669 else (bif Nat.blt i 44 then 677 else 685)) else (bif Nat.blt i 47 then (bif Nat.blt i 46 then 304 else 693) else (bif Nat.blt i 48 then 308 else 312))) else (bif Nat.blt i 53 then (bif Nat.blt i 51 then (bif Nat.blt i 50 then 403 else 450) else (bif Nat.blt i 52 then 820 else 828)) else (bif Nat.blt i 55 then (bif Nat.blt i 54 then 824 else 832) else (bif Nat.blt i 56 then 840 else 836)))))) else (bif Nat.blt i 85 then (bif Nat.blt i 71 then (bif Nat.blt i 64 then (bif Nat.blt i 60 then (bif Nat.blt i 58 then 847 else (bif Nat.blt i 59 then 851 else 844)) else (bif Nat.blt i 62 then (bif Nat.blt i 61 then 855 else 863) else (bif Nat.blt i 63 then 859 else 880))) else (bif Nat.blt i 67 then (bif Nat.blt i 65 then 876 else (bif Nat.blt i 66 then 871 else 892)) else (bif Nat.blt i 69 then (bif Nat.blt i 68 then 888 else 884) else (bif Nat.blt i 70 then 904 else 908)))) else (bif Nat.blt i 78 then (bif Nat.blt i 74 then (bif Nat.blt i 72 then 900 else (bif Nat.blt i 73 then 916 else 920)) else (bif Nat.blt i 76 then (bif Nat.blt i 75 then 912 else 924) else (bif Nat.blt i 77 then 896 else 932))) else (bif Nat.blt i 81 then (bif Nat.blt i 79 then 928 else (bif Nat.blt i 80 then 940 else 936)) else (bif Nat.blt i 83 then (bif Nat.blt i 82 then 867 else 944) else (bif Nat.blt i 84 then 948 else 956))))) else (bif Nat.blt i 99 then (bif Nat.blt i 92 then (bif Nat.blt i 88 then (bif Nat.blt i 86 then 952 else (bif Nat.blt i 87 then 960 else 964)) else (bif Nat.blt i 90 then (bif Nat.blt i 89 then 968 else 972) else (bif Nat.blt i 91 then 976 else 980))) else (bif Nat.blt i 95 then (bif Nat.blt i 93 then 984 else (bif Nat.blt i 94 then 560 else 551)) else (bif Nat.blt i 97 then (bif Nat.blt i 96 then 554 else 557) else (bif Nat.blt i 98 then 587 else 657)))) else (bif Nat.blt i 106 then (bif Nat.blt i 102 then (bif Nat.blt i 100 then 571 else (bif Nat.blt i 101 then 319 else 395)) else (bif Nat.blt i 104 then (bif Nat.blt i 103 then 429 else 442) else (bif Nat.blt i 105 then 460 else 472))) else (bif Nat.blt i 110 then (bif Nat.blt i 108 then (bif Nat.blt i 107 then 493 else 598) else (bif Nat.blt i 109 then 633 else 641)) else (bif Nat.blt i 112 then (bif Nat.blt i 111 then 665 else 673) else (bif Nat.blt i 113 then 681 else 689)))))))
def ox_ip (j : Nat) : Nat := (bif Nat.blt j 4 then (bif Nat.blt j 2 then (bif Nat.blt j 1 then 43 else 42) else (bif Nat.blt j 3 then 41 else 40)) else (bif Nat.blt j 6 then (bif Nat.blt j 5 then 44 else 39) else (bif Nat.blt j 7 then 45 else (bif Nat.blt j 8 then 51 else 38))))
def ox_kp (i : Nat) : Nat := (bif Nat.blt i 57 then (bif Nat.blt i 28 then (bif Nat.blt i 14 then (bif Nat.blt i 7 then (bif Nat.blt i 3 then (bif Nat.blt i 1 then 525 else (bif Nat.blt i 2 then 562 else 582)) else (bif Nat.blt i 5 then (bif Nat.blt i 4 then 567 else 543) else (bif Nat.blt i 6 then 530 else 534))) else (bif Nat.blt i 10 then (bif Nat.blt i 8 then 539 else (bif Nat.blt i 9 then 575 else 579)) else (bif Nat.blt i 12 then (bif Nat.blt i 11 then 547 else 508) else (bif Nat.blt i 13 then 589 else 593)))) else (bif Nat.blt i 21 then (bif Nat.blt i 17 then (bif Nat.blt i 15 then 621 else (bif Nat.blt i 16 then 626 else 514)) else (bif Nat.blt i 19 then (bif Nat.blt i 18 then 518 else 522) else (bif Nat.blt i 20 then 478 else 454))) else (bif Nat.blt i 24 then (bif Nat.blt i 22 then 467 else (bif Nat.blt i 23 then 482 else 488)) else (bif Nat.blt i 26 then (bif Nat.blt i 25 then 314 else 424) else (bif Nat.blt i 27 then 436 else 503))))) else (bif Nat.blt i 42 then (bif Nat.blt i 35 then (bif Nat.blt i 31 then (bif Nat.blt i 29 then 499 else (bif Nat.blt i 30 then 648 else 653)) else (bif Nat.blt i 33 then (bif Nat.blt i 32 then 660 else 322) else (bif Nat.blt i 34 then 398 else 431))) else (bif Nat.blt i 38 then (bif Nat.blt i 36 then 444 else (bif Nat.blt i 37 then 462 else 474)) else (bif Nat.blt i 40 then (bif Nat.blt i 39 then 495 else 601) else (bif Nat.blt i 41 then 635 else 643)))) else (bif Nat.blt i 49 then (bif Nat.blt i 45 then (bif Nat.blt i 43 then 667 else (bif Nat.blt i 44 then 675 else 683)) else (bif Nat.blt i 47 then (bif Nat.blt i 46 then 302 else 691) else (bif Nat.blt i 48 then 306 else 310))) else (bif Nat.blt i 53 then (bif Nat.blt i 51 then (bif Nat.blt i 50 then 402 else 449) else (bif Nat.blt i 52 then 818 else 827)) else (bif Nat.blt i 55 then (bif Nat.blt i 54 then 822 else 830) else (bif Nat.blt i 56 then 839 else 834)))))) else (bif Nat.blt i 85 then (bif Nat.blt i 71 then (bif Nat.blt i 64 then (bif Nat.blt i 60 then (bif Nat.blt i 58 then 846 else (bif Nat.blt i 59 then 850 else 842)) else (bif Nat.blt i 62 then (bif Nat.blt i 61 then 853 else 862) else (bif Nat.blt i 63 then 857 else 879))) else (bif Nat.blt i 67 then (bif Nat.blt i 65 then 875 else (bif Nat.blt i 66 then 870 else 891)) else (bif Nat.blt i 69 then (bif Nat.blt i 68 then 887 else 883) else (bif Nat.blt i 70 then 903 else 907)))) else (bif Nat.blt i 78 then (bif Nat.blt i 74 then (bif Nat.blt i 72 then 899 else (bif Nat.blt i 73 then 915 else 919)) else (bif Nat.blt i 76 then (bif Nat.blt i 75 then 911 else 923) else (bif Nat.blt i 77 then 895 else 931))) else (bif Nat.blt i 81 then (bif Nat.blt i 79 then 927 else (bif Nat.blt i 80 then 939 else 935)) else (bif Nat.blt i 83 then (bif Nat.blt i 82 then 865 else 942) else (bif Nat.blt i 84 then 946 else 955))))) else (bif Nat.blt i 99 then (bif Nat.blt i 92 then (bif Nat.blt i 88 then (bif Nat.blt i 86 then 950 else (bif Nat.blt i 87 then 958 else 962)) else (bif Nat.blt i 90 then (bif Nat.blt i 89 then 966 else 970) else (bif Nat.blt i 91 then 974 else 978))) else (bif Nat.blt i 95 then (bif Nat.blt i 93 then 982 else (bif Nat.blt i 94 then 559 else 550)) else (bif Nat.blt i 97 then (bif Nat.blt i 96 then 553 else 556) else (bif Nat.blt i 98 then 586 else 656)))) else (bif Nat.blt i 106 then (bif Nat.blt i 102 then (bif Nat.blt i 100 then 570 else (bif Nat.blt i 101 then 318 else 394)) else (bif Nat.blt i 104 then (bif Nat.blt i 103 then 428 else 441) else (bif Nat.blt i 105 then 459 else 471))) else (bif Nat.blt i 110 then (bif Nat.blt i 108 then (bif Nat.blt i 107 then 492 else 597) else (bif Nat.blt i 109 then 632 else 640)) else (bif Nat.blt i 112 then (bif Nat.blt i 111 then 664 else 672) else (bif Nat.blt i 113 then 680 else 688)))))))
def ox_sp (i : Nat) : Nat := (bif Nat.blt i 57 then (bif Nat.blt i 28 then (bif Nat.blt i 14 then (bif Nat.blt i 7 then (bif Nat.blt i 3 then (bif Nat.blt i 1 then 526 else (bif Nat.blt i 2 then 563 else 583)) else (bif Nat.blt i 5 then (bif Nat.blt i 4 then 9 else 7) else (bif Nat.blt i 6 then 4 else 5))) else (bif Nat.blt i 10 then (bif Nat.blt i 8 then 6 else (bif Nat.blt i 9 then 10 else 11)) else (bif Nat.blt i 12 then (bif Nat.blt i 11 then 8 else 509) else (bif Nat.blt i 13 then 590 else 594)))) else (bif Nat.blt i 21 then (bif Nat.blt i 17 then (bif Nat.blt i 15 then 622 else (bif Nat.blt i 16 then 12 else 1)) else (bif Nat.blt i 19 then (bif Nat.blt i 18 then 2 else 3) else (bif Nat.blt i 20 then 479 else 455))) else (bif Nat.blt i 24 then (bif Nat.blt i 22 then 468 else (bif Nat.blt i 23 then 483 else 489)) else (bif Nat.blt i 26 then (bif Nat.blt i 25 then 315 else 425) else (bif Nat.blt i 27 then 437 else 504))))) else (bif Nat.blt i 42 then (bif Nat.blt i 35 then (bif Nat.blt i 31 then (bif Nat.blt i 29 then 500 else (bif Nat.blt i 30 then 649 else 13)) else (bif Nat.blt i 33 then (bif Nat.blt i 32 then 14 else 323) else (bif Nat.blt i 34 then 399 else 432))) else (bif Nat.blt i 38 then (bif Nat.blt i 36 then 445 else (bif Nat.blt i 37 then 463 else 475)) else (bif Nat.blt i 40 then (bif Nat.blt i 39 then 496 else 602) else (bif Nat.blt i 41 then 636 else 644)))) else (bif Nat.blt i 49 then (bif Nat.blt i 45 then (bif Nat.blt i 43 then 668 else (bif Nat.blt i 44 then 676 else 684)) else (bif Nat.blt i 47 then (bif Nat.blt i 46 then 303 else 692) else (bif Nat.blt i 48 then 307 else 311))) else (bif Nat.blt i 53 then (bif Nat.blt i 51 then (bif Nat.blt i 50 then 0 else 0) else (bif Nat.blt i 52 then 819 else 15)) else (bif Nat.blt i 55 then (bif Nat.blt i 54 then 823 else 831) else (bif Nat.blt i 56 then 16 else 835)))))) else (bif Nat.blt i 85 then (bif Nat.blt i 71 then (bif Nat.blt i 64 then (bif Nat.blt i 60 then (bif Nat.blt i 58 then 0 else (bif Nat.blt i 59 then 17 else 843)) else (bif Nat.blt i 62 then (bif Nat.blt i 61 then 854 else 18) else (bif Nat.blt i 63 then 858 else 21))) else (bif Nat.blt i 67 then (bif Nat.blt i 65 then 20 else (bif Nat.blt i 66 then 19 else 24)) else (bif Nat.blt i 69 then (bif Nat.blt i 68 then 23 else 22) else (bif Nat.blt i 70 then 27 else 28)))) else (bif Nat.blt i 78 then (bif Nat.blt i 74 then (bif Nat.blt i 72 then 26 else (bif Nat.blt i 73 then 30 else 31)) else (bif Nat.blt i 76 then (bif Nat.blt i 75 then 29 else 32) else (bif Nat.blt i 77 then 25 else 34))) else (bif Nat.blt i 81 then (bif Nat.blt i 79 then 33 else (bif Nat.blt i 80 then 36 else 35)) else (bif Nat.blt i 83 then (bif Nat.blt i 82 then 866 else 943) else (bif Nat.blt i 84 then 947 else 37))))) else (bif Nat.blt i 99 then (bif Nat.blt i 92 then (bif Nat.blt i 88 then (bif Nat.blt i 86 then 951 else (bif Nat.blt i 87 then 959 else 963)) else (bif Nat.blt i 90 then (bif Nat.blt i 89 then 967 else 971) else (bif Nat.blt i 91 then 975 else 979))) else (bif Nat.blt i 95 then (bif Nat.blt i 93 then 983 else (bif Nat.blt i 94 then 0 else 0)) else (bif Nat.blt i 97 then (bif Nat.blt i 96 then 0 else 0) else (bif Nat.blt i 98 then 0 else 0)))) else (bif Nat.blt i 106 then (bif Nat.blt i 102 then (bif Nat.blt i 100 then 0 else (bif Nat.blt i 101 then 0 else 0)) else (bif Nat.blt i 104 then (bif Nat.blt i 103 then 0 else 0) else (bif Nat.blt i 105 then 0 else 0))) else (bif Nat.blt i 110 then (bif Nat.blt i 108 then (bif Nat.blt i 107 then 0 else 0) else (bif Nat.blt i 109 then 0 else 0)) else (bif Nat.blt i 112 then (bif Nat.blt i 111 then 0 else 0) else (bif Nat.blt i 113 then 0 else 0)))))))
theorem ox_w1g : ∀ i, i < 114 → goodWord (ox_cw i) = true := by decide +kernel
set_option maxRecDepth 100000 in
set_option maxHeartbeats 4000000 in
theorem ox_w1 : ∀ i, i < 114 → ox_cw i ∈ lw_tbl := by
  intro i hi
  match i, hi with
  | 0, _ => exact List.mem_of_getElem? (i := 527) rfl
  | 1, _ => exact List.mem_of_getElem? (i := 564) rfl
  | 2, _ => exact List.mem_of_getElem? (i := 584) rfl
  | 3, _ => exact List.mem_of_getElem? (i := 568) rfl
  | 4, _ => exact List.mem_of_getElem? (i := 544) rfl
  | 5, _ => exact List.mem_of_getElem? (i := 531) rfl
  | 6, _ => exact List.mem_of_getElem? (i := 535) rfl
  | 7, _ => exact List.mem_of_getElem? (i := 540) rfl
  | 8, _ => exact List.mem_of_getElem? (i := 576) rfl
  | 9, _ => exact List.mem_of_getElem? (i := 580) rfl
  | 10, _ => exact List.mem_of_getElem? (i := 548) rfl
  | 11, _ => exact List.mem_of_getElem? (i := 510) rfl
  | 12, _ => exact List.mem_of_getElem? (i := 591) rfl
  | 13, _ => exact List.mem_of_getElem? (i := 595) rfl
  | 14, _ => exact List.mem_of_getElem? (i := 623) rfl
  | 15, _ => exact List.mem_of_getElem? (i := 627) rfl
  | 16, _ => exact List.mem_of_getElem? (i := 515) rfl
  | 17, _ => exact List.mem_of_getElem? (i := 519) rfl
  | 18, _ => exact List.mem_of_getElem? (i := 523) rfl
  | 19, _ => exact List.mem_of_getElem? (i := 480) rfl
  | 20, _ => exact List.mem_of_getElem? (i := 456) rfl
  | 21, _ => exact List.mem_of_getElem? (i := 469) rfl
  | 22, _ => exact List.mem_of_getElem? (i := 484) rfl
  | 23, _ => exact List.mem_of_getElem? (i := 490) rfl
  | 24, _ => exact List.mem_of_getElem? (i := 316) rfl
  | 25, _ => exact List.mem_of_getElem? (i := 426) rfl
  | 26, _ => exact List.mem_of_getElem? (i := 438) rfl
  | 27, _ => exact List.mem_of_getElem? (i := 505) rfl
  | 28, _ => exact List.mem_of_getElem? (i := 501) rfl
  | 29, _ => exact List.mem_of_getElem? (i := 650) rfl
  | 30, _ => exact List.mem_of_getElem? (i := 654) rfl
  | 31, _ => exact List.mem_of_getElem? (i := 661) rfl
  | 32, _ => exact List.mem_of_getElem? (i := 324) rfl
  | 33, _ => exact List.mem_of_getElem? (i := 400) rfl
  | 34, _ => exact List.mem_of_getElem? (i := 433) rfl
  | 35, _ => exact List.mem_of_getElem? (i := 446) rfl
  | 36, _ => exact List.mem_of_getElem? (i := 464) rfl
  | 37, _ => exact List.mem_of_getElem? (i := 476) rfl
  | 38, _ => exact List.mem_of_getElem? (i := 497) rfl
  | 39, _ => exact List.mem_of_getElem? (i := 603) rfl
  | 40, _ => exact List.mem_of_getElem? (i := 637) rfl
  | 41, _ => exact List.mem_of_getElem? (i := 645) rfl
  | 42, _ => exact List.mem_of_getElem? (i := 669) rfl
  | 43, _ => exact List.mem_of_getElem? (i := 677) rfl
  | 44, _ => exact List.mem_of_getElem? (i := 685) rfl
  | 45, _ => exact List.mem_of_getElem? (i := 304) rfl
  | 46, _ => exact List.mem_of_getElem? (i := 693) rfl
  | 47, _ => exact List.mem_of_getElem? (i := 308) rfl
  | 48, _ => exact List.mem_of_getElem? (i := 312) rfl
  | 49, _ => exact List.mem_of_getElem? (i := 403) rfl
  | 50, _ => exact List.mem_of_getElem? (i := 450) rfl
  | 51, _ => exact List.mem_of_getElem? (i := 820) rfl
  | 52, _ => exact List.mem_of_getElem? (i := 828) rfl
  | 53, _ => exact List.mem_of_getElem? (i := 824) rfl
  | 54, _ => exact List.mem_of_getElem? (i := 832) rfl
  | 55, _ => exact List.mem_of_getElem? (i := 840) rfl
  | 56, _ => exact List.mem_of_getElem? (i := 836) rfl
  | 57, _ => exact List.mem_of_getElem? (i := 847) rfl
  | 58, _ => exact List.mem_of_getElem? (i := 851) rfl
  | 59, _ => exact List.mem_of_getElem? (i := 844) rfl
  | 60, _ => exact List.mem_of_getElem? (i := 855) rfl
  | 61, _ => exact List.mem_of_getElem? (i := 863) rfl
  | 62, _ => exact List.mem_of_getElem? (i := 859) rfl
  | 63, _ => exact List.mem_of_getElem? (i := 880) rfl
  | 64, _ => exact List.mem_of_getElem? (i := 876) rfl
  | 65, _ => exact List.mem_of_getElem? (i := 871) rfl
  | 66, _ => exact List.mem_of_getElem? (i := 892) rfl
  | 67, _ => exact List.mem_of_getElem? (i := 888) rfl
  | 68, _ => exact List.mem_of_getElem? (i := 884) rfl
  | 69, _ => exact List.mem_of_getElem? (i := 904) rfl
  | 70, _ => exact List.mem_of_getElem? (i := 908) rfl
  | 71, _ => exact List.mem_of_getElem? (i := 900) rfl
  | 72, _ => exact List.mem_of_getElem? (i := 916) rfl
  | 73, _ => exact List.mem_of_getElem? (i := 920) rfl
  | 74, _ => exact List.mem_of_getElem? (i := 912) rfl
  | 75, _ => exact List.mem_of_getElem? (i := 924) rfl
  | 76, _ => exact List.mem_of_getElem? (i := 896) rfl
  | 77, _ => exact List.mem_of_getElem? (i := 932) rfl
  | 78, _ => exact List.mem_of_getElem? (i := 928) rfl
  | 79, _ => exact List.mem_of_getElem? (i := 940) rfl
  | 80, _ => exact List.mem_of_getElem? (i := 936) rfl
  | 81, _ => exact List.mem_of_getElem? (i := 867) rfl
  | 82, _ => exact List.mem_of_getElem? (i := 944) rfl
  | 83, _ => exact List.mem_of_getElem? (i := 948) rfl
  | 84, _ => exact List.mem_of_getElem? (i := 956) rfl
  | 85, _ => exact List.mem_of_getElem? (i := 952) rfl
  | 86, _ => exact List.mem_of_getElem? (i := 960) rfl
  | 87, _ => exact List.mem_of_getElem? (i := 964) rfl
  | 88, _ => exact List.mem_of_getElem? (i := 968) rfl
  | 89, _ => exact List.mem_of_getElem? (i := 972) rfl
  | 90, _ => exact List.mem_of_getElem? (i := 976) rfl
  | 91, _ => exact List.mem_of_getElem? (i := 980) rfl
  | 92, _ => exact List.mem_of_getElem? (i := 984) rfl
  | 93, _ => exact List.mem_of_getElem? (i := 560) rfl
  | 94, _ => exact List.mem_of_getElem? (i := 551) rfl
  | 95, _ => exact List.mem_of_getElem? (i := 554) rfl
  | 96, _ => exact List.mem_of_getElem? (i := 557) rfl
  | 97, _ => exact List.mem_of_getElem? (i := 587) rfl
  | 98, _ => exact List.mem_of_getElem? (i := 657) rfl
  | 99, _ => exact List.mem_of_getElem? (i := 571) rfl
  | 100, _ => exact List.mem_of_getElem? (i := 319) rfl
  | 101, _ => exact List.mem_of_getElem? (i := 395) rfl
  | 102, _ => exact List.mem_of_getElem? (i := 429) rfl
  | 103, _ => exact List.mem_of_getElem? (i := 442) rfl
  | 104, _ => exact List.mem_of_getElem? (i := 460) rfl
  | 105, _ => exact List.mem_of_getElem? (i := 472) rfl
  | 106, _ => exact List.mem_of_getElem? (i := 493) rfl
  | 107, _ => exact List.mem_of_getElem? (i := 598) rfl
  | 108, _ => exact List.mem_of_getElem? (i := 633) rfl
  | 109, _ => exact List.mem_of_getElem? (i := 641) rfl
  | 110, _ => exact List.mem_of_getElem? (i := 665) rfl
  | 111, _ => exact List.mem_of_getElem? (i := 673) rfl
  | 112, _ => exact List.mem_of_getElem? (i := 681) rfl
  | 113, _ => exact List.mem_of_getElem? (i := 689) rfl
  | k + 114, h => exact absurd h (by omega)
theorem ox_w2 : ∀ j, j < 9 → lw_tbl[ox_ip j]? = some (.initialized (ox_R j)) := by decide +kernel
theorem ox_w3 : ∀ i, i < 114 → (ox_sta i = true → lw_tbl[ox_kp i]? = some (.static (ox_nm i))) ∧ (ox_sta i = false → lw_tbl[ox_kp i]? = some (.instanceMethod (ox_nm i)) ∧ lw_tbl[ox_sp i]? = some (.selects (ox_nm i).cls (ox_nm i) (ox_nm i))) := by decide +kernel
theorem ox_w4 : ∀ i, i < 115 → (ox_nm i).cls = ox_R (ox_ow i) ∧ ox_ow i < 9 ∧ ox_mL i ≤ 9 ∧ plainName (ox_nm i).cls = true ∧ (ox_nm i).cls ≠ "java/lang/invoke/MethodHandle" ∧ (ox_nm i).cls ≠ "java/lang/invoke/VarHandle" := by decide +kernel
def ox_FL : List (Nat × Nat × Nat × Nat × Nat) := [(0, 9, 0, 3, 221),
  (0, 15, 0, 4, 223),
  (0, 18, 0, 5, 225),
  (0, 23, 0, 6, 227),
  (0, 26, 0, 7, 229),
  (0, 29, 0, 8, 231),
  (0, 32, 0, 9, 232),
  (0, 36, 0, 10, 233),
  (0, 39, 0, 11, 234),
  (0, 42, 3, 1, 72),
  (0, 48, 0, 0, 215),
  (0, 49, 2, 0, 134),
  (0, 54, 0, 1, 217),
  (0, 55, 3, 2, 77),
  (0, 58, 0, 2, 219),
  (0, 67, 0, 12, 235),
  (0, 70, 2, 3, 142),
  (0, 73, 2, 4, 144),
  (0, 80, 3, 9, 94),
  (0, 91, 3, 11, 99),
  (0, 97, 2, 1, 137),
  (0, 100, 2, 5, 146),
  (0, 109, 3, 10, 97),
  (0, 116, 3, 7, 90),
  (0, 126, 3, 4, 83),
  (0, 133, 3, 5, 85),
  (0, 136, 3, 8, 92),
  (0, 143, 3, 3, 80),
  (0, 146, 2, 2, 140),
  (1, 9, 1, 4, 176),
  (1, 15, 1, 5, 178),
  (1, 18, 1, 6, 180),
  (1, 21, 1, 7, 181),
  (1, 24, 1, 8, 182),
  (1, 29, 1, 9, 183),
  (1, 32, 1, 10, 184),
  (1, 35, 1, 0, 168),
  (1, 39, 1, 1, 170),
  (1, 42, 1, 2, 172),
  (1, 45, 3, 2, 76),
  (1, 50, 1, 3, 174),
  (1, 68, 3, 9, 95),
  (1, 71, 3, 6, 87),
  (1, 74, 3, 11, 100),
  (2, 9, 2, 0, 133),
  (2, 15, 2, 2, 139),
  (2, 19, 2, 3, 141),
  (2, 22, 2, 4, 143),
  (2, 25, 2, 5, 145),
  (2, 28, 2, 1, 136),
  (3, 9, 3, 3, 79),
  (3, 15, 3, 4, 81),
  (3, 18, 3, 5, 84),
  (3, 21, 3, 6, 86),
  (3, 24, 3, 7, 88),
  (3, 27, 3, 8, 91),
  (3, 30, 3, 9, 93),
  (3, 33, 3, 10, 96),
  (3, 38, 3, 11, 98),
  (3, 41, 3, 0, 70),
  (3, 45, 3, 1, 73),
  (3, 48, 3, 2, 75),
  (4, 9, 4, 1, 272),
  (4, 15, 4, 2, 274),
  (4, 18, 4, 0, 270),
  (5, 10, 5, 0, 282),
  (5, 19, 5, 1, 283),
  (5, 26, 5, 2, 284),
  (5, 33, 5, 3, 285),
  (5, 37, 5, 4, 286),
  (5, 43, 5, 5, 287),
  (5, 47, 3, 0, 71),
  (5, 71, 3, 1, 74),
  (5, 82, 3, 4, 82),
  (5, 91, 3, 7, 89),
  (5, 96, 2, 0, 135),
  (5, 111, 2, 1, 138),
  (5, 153, 0, 3, 222),
  (5, 163, 1, 2, 173),
  (5, 166, 1, 3, 175),
  (5, 180, 1, 4, 177),
  (5, 183, 1, 5, 179),
  (5, 188, 4, 0, 271),
  (5, 191, 0, 7, 230),
  (5, 195, 2, 5, 147),
  (5, 198, 0, 0, 216),
  (5, 203, 0, 2, 220),
  (5, 206, 0, 4, 224),
  (5, 209, 0, 5, 226),
  (5, 214, 0, 6, 228),
  (5, 217, 0, 1, 218),
  (5, 222, 4, 1, 273),
  (5, 225, 3, 2, 78),
  (5, 226, 1, 0, 169),
  (5, 229, 1, 1, 171),
  (6, 7, 6, 3, 705),
  (6, 13, 6, 4, 706),
  (6, 16, 6, 5, 707),
  (6, 19, 6, 6, 708),
  (6, 22, 6, 7, 709),
  (6, 26, 6, 8, 710),
  (6, 30, 6, 9, 711),
  (6, 33, 6, 10, 712),
  (6, 36, 6, 11, 713),
  (6, 39, 6, 13, 715),
  (6, 42, 6, 14, 716),
  (6, 45, 6, 15, 717),
  (6, 48, 6, 16, 718),
  (6, 51, 6, 17, 719),
  (6, 54, 6, 18, 720),
  (6, 57, 6, 19, 721),
  (6, 60, 6, 24, 726),
  (6, 64, 6, 25, 727),
  (6, 67, 6, 26, 728),
  (6, 70, 6, 27, 729),
  (6, 73, 6, 28, 730),
  (6, 76, 6, 33, 735),
  (6, 79, 6, 34, 736),
  (6, 82, 6, 35, 737),
  (6, 85, 6, 36, 738),
  (6, 88, 6, 37, 739),
  (6, 91, 6, 0, 702),
  (6, 94, 6, 1, 703),
  (6, 101, 6, 2, 704),
  (6, 116, 6, 12, 714),
  (6, 167, 6, 23, 725),
  (6, 170, 6, 20, 722),
  (6, 179, 6, 21, 723),
  (6, 182, 6, 22, 724),
  (6, 197, 6, 32, 734),
  (6, 203, 6, 29, 731),
  (6, 206, 6, 30, 732),
  (6, 209, 6, 31, 733)]
def ox_ML : List (Nat × Nat × Nat × Nat × Nat) := [(0, 59, 5, 2, 528),
  (0, 63, 4, 3, 541),
  (0, 76, 10, 3, 545),
  (0, 83, 3, 3, 565),
  (0, 87, 27, 2, 572),
  (0, 94, 8, 2, 573),
  (0, 103, 97, 2, 585),
  (0, 112, 99, 2, 569),
  (0, 119, 6, 3, 532),
  (0, 122, 26, 3, 536),
  (0, 129, 7, 5, 537),
  (0, 139, 9, 4, 577),
  (0, 149, 94, 4, 549),
  (0, 153, 95, 3, 552),
  (0, 157, 96, 3, 555),
  (0, 160, 93, 5, 558),
  (1, 51, 27, 2, 511),
  (1, 55, 16, 3, 512),
  (1, 59, 15, 2, 624),
  (1, 77, 17, 3, 516),
  (1, 81, 18, 3, 520),
  (2, 35, 20, 4, 485),
  (2, 39, 21, 2, 486),
  (3, 51, 27, 2, 502),
  (4, 22, 30, 4, 651),
  (4, 26, 31, 3, 658),
  (4, 30, 98, 3, 655),
  (4, 35, 99, 2, 662),
  (5, 58, 49, 2, 401),
  (5, 76, 25, 5, 423),
  (5, 86, 26, 3, 435),
  (5, 99, 50, 1, 448),
  (5, 107, 20, 4, 453),
  (5, 116, 21, 2, 466),
  (5, 120, 19, 1, 477),
  (5, 123, 22, 3, 481),
  (5, 127, 23, 2, 487),
  (5, 131, 28, 1, 498),
  (5, 137, 11, 3, 507),
  (5, 141, 0, 4, 524),
  (5, 145, 1, 4, 561),
  (5, 149, 2, 2, 581),
  (5, 156, 12, 3, 588),
  (5, 160, 13, 1, 592),
  (5, 174, 14, 3, 620),
  (5, 199, 29, 3, 647),
  (5, 232, 24, 1, 313),
  (6, 97, 52, 3, 825),
  (6, 104, 55, 2, 837),
  (6, 108, 57, 2, 845),
  (6, 112, 58, 4, 848),
  (6, 119, 61, 3, 860),
  (6, 125, 64, 2, 873),
  (6, 129, 67, 3, 885),
  (6, 132, 63, 1, 877),
  (6, 136, 66, 3, 889),
  (6, 140, 69, 2, 901),
  (6, 143, 70, 3, 905),
  (6, 146, 72, 4, 913),
  (6, 150, 73, 5, 917),
  (6, 154, 71, 4, 897),
  (6, 157, 74, 4, 909),
  (6, 160, 75, 2, 921),
  (6, 164, 77, 2, 929),
  (6, 173, 79, 2, 937),
  (6, 176, 65, 1, 868),
  (6, 185, 68, 2, 881),
  (6, 188, 76, 1, 893),
  (6, 191, 78, 1, 925),
  (6, 194, 80, 2, 933),
  (6, 200, 84, 2, 953),
  (8, 7, 32, 1, 321),
  (8, 15, 33, 5, 397),
  (8, 21, 34, 3, 430),
  (8, 25, 35, 4, 443),
  (8, 29, 36, 2, 461),
  (8, 33, 37, 2, 473),
  (8, 36, 38, 1, 494),
  (8, 39, 39, 3, 600),
  (8, 45, 40, 3, 634),
  (8, 48, 41, 2, 642),
  (8, 51, 42, 2, 666),
  (8, 54, 43, 3, 674),
  (8, 57, 44, 4, 682),
  (8, 61, 46, 2, 690),
  (8, 68, 100, 2, 317),
  (8, 73, 53, 1, 821),
  (8, 74, 51, 1, 817),
  (8, 77, 101, 6, 393),
  (8, 80, 54, 5, 829),
  (8, 81, 102, 4, 427),
  (8, 84, 56, 3, 833),
  (8, 85, 103, 5, 440),
  (8, 88, 59, 4, 841),
  (8, 89, 104, 3, 458),
  (8, 92, 60, 2, 852),
  (8, 93, 105, 3, 470),
  (8, 95, 62, 2, 856),
  (8, 96, 106, 2, 491),
  (8, 98, 81, 1, 864),
  (8, 99, 107, 4, 596),
  (8, 101, 82, 3, 941),
  (8, 102, 108, 4, 631),
  (8, 104, 83, 3, 945),
  (8, 105, 109, 3, 639),
  (8, 107, 85, 2, 949),
  (8, 108, 110, 3, 663),
  (8, 110, 86, 2, 957),
  (8, 111, 111, 4, 671),
  (8, 113, 87, 3, 961),
  (8, 114, 112, 5, 679),
  (8, 116, 88, 4, 965),
  (8, 117, 45, 1, 301),
  (8, 120, 89, 1, 969),
  (8, 121, 113, 3, 687),
  (8, 123, 90, 2, 973),
  (8, 124, 47, 2, 305),
  (8, 127, 91, 2, 977),
  (8, 128, 48, 1, 309),
  (8, 131, 92, 1, 981)]
def ox_MM : List (Nat × Nat × Nat × Nat × Nat) := [(1, 62, 901, 2, 628)]
def ox_NL : List (Nat × Nat × Nat × Nat × Nat) := [(2, 31, 50, 1, 457)]
def ox_CL : List (Nat × Nat × Nat × Nat) := [(6, 123, 5000, 872)]
def ox_XL : List (Nat × Nat × Nat × Nat) := [(5, 51, 0, 325),
  (5, 62, 1, 404),
  (5, 169, 2, 604)]
def ox_T (j : Nat) : u_T := (bif Nat.blt j 3 then (bif Nat.blt j 1 then ox_T0 else (bif Nat.blt j 2 then ox_T1 else ox_T2)) else (bif Nat.blt j 5 then (bif Nat.blt j 4 then ox_T3 else ox_T4) else (bif Nat.blt j 6 then ox_T5 else ox_T6)))
def ox_fn (j : Nat) : Nat := (bif Nat.blt j 3 then (bif Nat.blt j 1 then 13 else (bif Nat.blt j 2 then 11 else 6)) else (bif Nat.blt j 5 then (bif Nat.blt j 4 then 12 else 3) else (bif Nat.blt j 6 then 6 else 38)))
def ox_ex (x : Nat) : String := (bif Nat.blt x 1 then "java/lang/UnsupportedOperationException" else (bif Nat.blt x 2 then "java/lang/IllegalArgumentException" else "java/lang/IndexOutOfBoundsException"))
theorem ox_FLok : ∀ q ∈ ox_FL, lw_tbl[q.2.2.2.2]? = some (.fieldLink (ox_R q.1) q.2.1 (ox_T q.2.2.1 q.2.2.2.1).1 (ox_T q.2.2.1 q.2.2.2.1).2.1 (ox_T q.2.2.1 q.2.2.2.1).2.2.1) ∧ q.2.2.1 < 7 ∧ q.2.2.2.1 < ox_fn q.2.2.1 := by decide +kernel
theorem ox_MLok : ∀ q ∈ ox_ML, lw_tbl[q.2.2.2.2]? = some (.methodLink (ox_R q.1) q.2.1 (ox_nm q.2.2.1)) ∧ q.2.2.1 < 114 ∧ (parseMethodDescriptor (ox_nm q.2.2.1).desc).map (fun d => d.parameters.length) = some (q.2.2.2.1 - (bif ox_sta q.2.2.1 then 0 else 1)) ∧ (ox_sta q.2.2.1 = false → 1 ≤ q.2.2.2.1) := by decide +kernel
theorem ox_NLok : ∀ q ∈ ox_NL, lw_tbl[q.2.2.2.2]? = some (.methodLinkNest (ox_R q.1) q.2.1 (ox_nm q.2.2.1) "OrderAxioms") ∧ q.2.2.1 < 114 ∧ (parseMethodDescriptor (ox_nm q.2.2.1).desc).map (fun d => d.parameters.length) = some q.2.2.2.1 ∧ ox_sta q.2.2.1 = true := by decide +kernel
theorem ox_CLok : ∀ q ∈ ox_CL, lw_tbl[q.2.2.2]? = some (.constantLong (ox_R q.1) q.2.1 (Int64.ofNat q.2.2.1)) := by decide +kernel
theorem ox_XLok : ∀ q ∈ ox_XL, lw_tbl[q.2.2.2]? = some (.classLink (ox_R q.1) q.2.1 (ox_ex q.2.2.1)) := by decide +kernel
/-- what a row of a method's table must keep to: own class j, place pc -/
def ox_lnk (j pc : Nat) (e : Instr × Nat × Nat × Nat) : Bool := match e.1 with
  | .getfield i => ox_FL.any (fun q => q.1 == j && q.2.1 == i && q.2.2.1 == e.2.2.1 && q.2.2.2.1 == e.2.2.2)
  | .putfield i => ox_FL.any (fun q => q.1 == j && q.2.1 == i && q.2.2.1 == e.2.2.1 && q.2.2.2.1 == e.2.2.2)
  | .invokevirtual i => ox_ML.any (fun q => q.1 == j && q.2.1 == i && q.2.2.1 == e.2.2.1 && q.2.2.2.1 == e.2.2.2 && !(ox_sta q.2.2.1))
  | .invokestatic i => ox_ML.any (fun q => q.1 == j && q.2.1 == i && q.2.2.1 == e.2.2.1 && q.2.2.2.1 == e.2.2.2 && ox_sta q.2.2.1) || ox_NL.any (fun q => q.1 == j && q.2.1 == i && q.2.2.1 == e.2.2.1 && q.2.2.2.1 == e.2.2.2) || (e.2.2.1 == 901 && ox_MM.any (fun q => q.1 == j && q.2.1 == i))
  | .ldc2_w i => ox_CL.any (fun q => q.1 == j && q.2.1 == i && q.2.2.1 == e.2.2.1)
  | .new i => e.2.2.1 == 99 || ox_XL.any (fun q => q.1 == j && q.2.1 == i && q.2.2.1 == e.2.2.1)
  | .if_icmp _ off => decide ((pc : Int) + off = (e.2.2.1 : Int))
  | .ifCond _ off => decide ((pc : Int) + off = (e.2.2.1 : Int))
  | .goto off => decide ((pc : Int) + off = (e.2.2.1 : Int))
  | _ => true
def ox_len (e : Instr × Nat × Nat × Nat) : Bool := match e.1 with
  | .bipush _ | .iload _ | .aload _ | .istore _ | .astore _ => e.2.1 == 2
  | .sipush _ | .iinc _ _ | .ldc2_w _ | .getfield _ | .putfield _ | .invokevirtual _ | .invokestatic _ | .invokespecial _ | .new _ | .if_icmp _ _ | .ifCond _ _ | .goto _ => e.2.1 == 3
  | .tableswitch _ _ _ _ => true
  | .ldc _ | .newarray _ => true
  | _ => e.2.1 == 1
def ox_chk (j pc : Nat) (e : Instr × Nat × Nat × Nat) : Bool := ox_lnk j pc e && ox_len e
theorem ox_tab2 {f : Nat → Option (Instr × Nat × Nat × Nat)} {j : Nat} (n : Nat) (h0 : ∀ pc, n ≤ pc → f pc = none) (h : (List.range n).all (fun pc => match f pc with | none => true | some e => ox_chk j pc e) = true) :
    ∀ pc e, f pc = some e → ox_chk j pc e = true := by
  intro pc e he
  rcases Nat.lt_or_ge pc n with q | q
  · have h1 := List.all_eq_true.mp h pc (List.mem_range.mpr q)
    rw [he] at h1
    exact h1
  · rw [h0 pc q] at he; cases he
end
section
/-- OrderAxioms$Execution.prepare(LOrderAxioms$Program;LOrderAxioms$Model;Z)V -/
def oxi_0 (pc : Nat) : Option (Instr × Nat × Nat × Nat) := bif Nat.blt pc 196 then (bif Nat.blt pc 97 then (bif Nat.blt pc 45 then (bif Nat.blt pc 24 then (bif Nat.blt pc 10 then (bif Nat.blt pc 5 then (bif Nat.blt pc 1 then (bif Nat.beq pc 0 then some (.aload_n 0, 1, 0, 0) else none) else (bif Nat.blt pc 2 then (bif Nat.beq pc 1 then some (.aload_n 1, 1, 0, 0) else none) else (bif Nat.beq pc 2 then some (.getfield 42, 3, 3, 1) else none))) else (bif Nat.blt pc 8 then (bif Nat.beq pc 5 then some (.putfield 48, 3, 0, 0) else none) else (bif Nat.blt pc 9 then (bif Nat.beq pc 8 then some (.aload_n 0, 1, 0, 0) else none) else (bif Nat.beq pc 9 then some (.aload_n 2, 1, 0, 0) else none)))) else (bif Nat.blt pc 17 then (bif Nat.blt pc 13 then (bif Nat.beq pc 10 then some (.getfield 49, 3, 2, 0) else none) else (bif Nat.blt pc 16 then (bif Nat.beq pc 13 then some (.putfield 54, 3, 0, 1) else none) else (bif Nat.beq pc 16 then some (.aload_n 0, 1, 0, 0) else none))) else (bif Nat.blt pc 18 then (bif Nat.beq pc 17 then some (.aload_n 1, 1, 0, 0) else none) else (bif Nat.blt pc 21 then (bif Nat.beq pc 18 then some (.getfield 55, 3, 3, 2) else none) else (bif Nat.beq pc 21 then some (.putfield 58, 3, 0, 2) else none))))) else (bif Nat.blt pc 32 then (bif Nat.blt pc 29 then (bif Nat.blt pc 25 then (bif Nat.beq pc 24 then some (.aload_n 0, 1, 0, 0) else none) else (bif Nat.blt pc 26 then (bif Nat.beq pc 25 then some (.aload_n 1, 1, 0, 0) else none) else (bif Nat.beq pc 26 then some (.invokevirtual 59, 3, 5, 2) else none))) else (bif Nat.blt pc 30 then (bif Nat.beq pc 29 then some (.aload_n 0, 1, 0, 0) else none) else (bif Nat.blt pc 31 then (bif Nat.beq pc 30 then some (.aload_n 2, 1, 0, 0) else none) else (bif Nat.beq pc 31 then some (.iload_n 3, 1, 0, 0) else none)))) else (bif Nat.blt pc 37 then (bif Nat.blt pc 35 then (bif Nat.beq pc 32 then some (.invokevirtual 63, 3, 4, 3) else none) else (bif Nat.blt pc 36 then (bif Nat.beq pc 35 then some (.aload_n 0, 1, 0, 0) else none) else (bif Nat.beq pc 36 then some (.iconst 0, 1, 0, 0) else none))) else (bif Nat.blt pc 41 then (bif Nat.blt pc 40 then (bif Nat.beq pc 37 then some (.putfield 67, 3, 0, 12) else none) else (bif Nat.beq pc 40 then some (.iconst 0, 1, 0, 0) else none)) else (bif Nat.blt pc 43 then (bif Nat.beq pc 41 then some (.istore 4, 2, 0, 0) else none) else (bif Nat.beq pc 43 then some (.iload 4, 2, 0, 0) else none)))))) else (bif Nat.blt pc 73 then (bif Nat.blt pc 59 then (bif Nat.blt pc 52 then (bif Nat.blt pc 46 then (bif Nat.beq pc 45 then some (.aload_n 0, 1, 0, 0) else none) else (bif Nat.blt pc 49 then (bif Nat.beq pc 46 then some (.getfield 54, 3, 0, 1) else none) else (bif Nat.beq pc 49 then some (.if_icmp .ge (146), 3, 195, 0) else none))) else (bif Nat.blt pc 54 then (bif Nat.beq pc 52 then some (.iload 4, 2, 0, 0) else none) else (bif Nat.blt pc 56 then (bif Nat.beq pc 54 then some (.bipush 12, 2, 0, 0) else none) else (bif Nat.beq pc 56 then some (.if_icmp .ge (30), 3, 86, 0) else none)))) else (bif Nat.blt pc 65 then (bif Nat.blt pc 60 then (bif Nat.beq pc 59 then some (.aload_n 0, 1, 0, 0) else none) else (bif Nat.blt pc 63 then (bif Nat.beq pc 60 then some (.getfield 36, 3, 0, 10) else none) else (bif Nat.beq pc 63 then some (.iload 4, 2, 0, 0) else none))) else (bif Nat.blt pc 68 then (bif Nat.blt pc 67 then (bif Nat.beq pc 65 then some (.iload 4, 2, 0, 0) else none) else (bif Nat.beq pc 67 then some (.iconst 1, 1, 0, 0) else none)) else (bif Nat.blt pc 71 then (bif Nat.beq pc 68 then some (.if_icmp .lt (9), 3, 77, 0) else none) else (bif Nat.beq pc 71 then some (.iload 4, 2, 0, 0) else none))))) else (bif Nat.blt pc 83 then (bif Nat.blt pc 78 then (bif Nat.blt pc 74 then (bif Nat.beq pc 73 then some (.iconst 4, 1, 0, 0) else none) else (bif Nat.blt pc 77 then (bif Nat.beq pc 74 then some (.if_icmp .le (7), 3, 81, 0) else none) else (bif Nat.beq pc 77 then some (.iconst 1, 1, 0, 0) else none))) else (bif Nat.blt pc 81 then (bif Nat.beq pc 78 then some (.goto (4), 3, 82, 0) else none) else (bif Nat.blt pc 82 then (bif Nat.beq pc 81 then some (.iconst 0, 1, 0, 0) else none) else (bif Nat.beq pc 82 then some (.bastore, 1, 0, 0) else none)))) else (bif Nat.blt pc 90 then (bif Nat.blt pc 86 then (bif Nat.beq pc 83 then some (.goto (106), 3, 189, 0) else none) else (bif Nat.blt pc 87 then (bif Nat.beq pc 86 then some (.aload_n 0, 1, 0, 0) else none) else (bif Nat.beq pc 87 then some (.getfield 36, 3, 0, 10) else none))) else (bif Nat.blt pc 93 then (bif Nat.blt pc 92 then (bif Nat.beq pc 90 then some (.iload 4, 2, 0, 0) else none) else (bif Nat.beq pc 92 then some (.aload_n 0, 1, 0, 0) else none)) else (bif Nat.blt pc 96 then (bif Nat.beq pc 93 then some (.getfield 36, 3, 0, 10) else none) else (bif Nat.beq pc 96 then some (.aload_n 2, 1, 0, 0) else none))))))) else (bif Nat.blt pc 145 then (bif Nat.blt pc 122 then (bif Nat.blt pc 108 then (bif Nat.blt pc 103 then (bif Nat.blt pc 100 then (bif Nat.beq pc 97 then some (.getfield 70, 3, 2, 3) else none) else (bif Nat.blt pc 102 then (bif Nat.beq pc 100 then some (.iload 4, 2, 0, 0) else none) else (bif Nat.beq pc 102 then some (.iaload, 1, 0, 0) else none))) else (bif Nat.blt pc 104 then (bif Nat.beq pc 103 then some (.baload, 1, 0, 0) else none) else (bif Nat.blt pc 107 then (bif Nat.beq pc 104 then some (.ifCond .eq (22), 3, 126, 0) else none) else (bif Nat.beq pc 107 then some (.aload_n 0, 1, 0, 0) else none)))) else (bif Nat.blt pc 115 then (bif Nat.blt pc 111 then (bif Nat.beq pc 108 then some (.getfield 36, 3, 0, 10) else none) else (bif Nat.blt pc 112 then (bif Nat.beq pc 111 then some (.aload_n 2, 1, 0, 0) else none) else (bif Nat.beq pc 112 then some (.getfield 73, 3, 2, 4) else none))) else (bif Nat.blt pc 118 then (bif Nat.blt pc 117 then (bif Nat.beq pc 115 then some (.iload 4, 2, 0, 0) else none) else (bif Nat.beq pc 117 then some (.iaload, 1, 0, 0) else none)) else (bif Nat.blt pc 119 then (bif Nat.beq pc 118 then some (.baload, 1, 0, 0) else none) else (bif Nat.beq pc 119 then some (.ifCond .eq (7), 3, 126, 0) else none))))) else (bif Nat.blt pc 132 then (bif Nat.blt pc 127 then (bif Nat.blt pc 123 then (bif Nat.beq pc 122 then some (.iconst 1, 1, 0, 0) else none) else (bif Nat.blt pc 126 then (bif Nat.beq pc 123 then some (.goto (4), 3, 127, 0) else none) else (bif Nat.beq pc 126 then some (.iconst 0, 1, 0, 0) else none))) else (bif Nat.blt pc 128 then (bif Nat.beq pc 127 then some (.bastore, 1, 0, 0) else none) else (bif Nat.blt pc 129 then (bif Nat.beq pc 128 then some (.aload_n 0, 1, 0, 0) else none) else (bif Nat.beq pc 129 then some (.getfield 32, 3, 0, 9) else none)))) else (bif Nat.blt pc 138 then (bif Nat.blt pc 134 then (bif Nat.beq pc 132 then some (.iload 4, 2, 0, 0) else none) else (bif Nat.blt pc 135 then (bif Nat.beq pc 134 then some (.baload, 1, 0, 0) else none) else (bif Nat.beq pc 135 then some (.ifCond .eq (23), 3, 158, 0) else none))) else (bif Nat.blt pc 142 then (bif Nat.blt pc 139 then (bif Nat.beq pc 138 then some (.aload_n 0, 1, 0, 0) else none) else (bif Nat.beq pc 139 then some (.getfield 36, 3, 0, 10) else none)) else (bif Nat.blt pc 144 then (bif Nat.beq pc 142 then some (.iload 4, 2, 0, 0) else none) else (bif Nat.beq pc 144 then some (.baload, 1, 0, 0) else none)))))) else (bif Nat.blt pc 172 then (bif Nat.blt pc 158 then (bif Nat.blt pc 150 then (bif Nat.blt pc 148 then (bif Nat.beq pc 145 then some (.ifCond .eq (13), 3, 158, 0) else none) else (bif Nat.blt pc 149 then (bif Nat.beq pc 148 then some (.aload_n 0, 1, 0, 0) else none) else (bif Nat.beq pc 149 then some (.aload_n 2, 1, 0, 0) else none))) else (bif Nat.blt pc 152 then (bif Nat.beq pc 150 then some (.iload 4, 2, 0, 0) else none) else (bif Nat.blt pc 155 then (bif Nat.beq pc 152 then some (.invokevirtual 76, 3, 10, 3) else none) else (bif Nat.beq pc 155 then some (.goto (34), 3, 189, 0) else none)))) else (bif Nat.blt pc 164 then (bif Nat.blt pc 159 then (bif Nat.beq pc 158 then some (.aload_n 0, 1, 0, 0) else none) else (bif Nat.blt pc 162 then (bif Nat.beq pc 159 then some (.getfield 32, 3, 0, 9) else none) else (bif Nat.beq pc 162 then some (.iload 4, 2, 0, 0) else none))) else (bif Nat.blt pc 168 then (bif Nat.blt pc 165 then (bif Nat.beq pc 164 then some (.baload, 1, 0, 0) else none) else (bif Nat.beq pc 165 then some (.ifCond .eq (24), 3, 189, 0) else none)) else (bif Nat.blt pc 169 then (bif Nat.beq pc 168 then some (.aload_n 0, 1, 0, 0) else none) else (bif Nat.beq pc 169 then some (.getfield 39, 3, 0, 11) else none))))) else (bif Nat.blt pc 181 then (bif Nat.blt pc 178 then (bif Nat.blt pc 173 then (bif Nat.beq pc 172 then some (.aload_n 0, 1, 0, 0) else none) else (bif Nat.blt pc 176 then (bif Nat.beq pc 173 then some (.getfield 67, 3, 0, 12) else none) else (bif Nat.beq pc 176 then some (.iload 4, 2, 0, 0) else none))) else (bif Nat.blt pc 179 then (bif Nat.beq pc 178 then some (.iastore, 1, 0, 0) else none) else (bif Nat.blt pc 180 then (bif Nat.beq pc 179 then some (.aload_n 0, 1, 0, 0) else none) else (bif Nat.beq pc 180 then some (.dup, 1, 0, 0) else none)))) else (bif Nat.blt pc 186 then (bif Nat.blt pc 184 then (bif Nat.beq pc 181 then some (.getfield 67, 3, 0, 12) else none) else (bif Nat.blt pc 185 then (bif Nat.beq pc 184 then some (.iconst 1, 1, 0, 0) else none) else (bif Nat.beq pc 185 then some (.iadd, 1, 0, 0) else none))) else (bif Nat.blt pc 192 then (bif Nat.blt pc 189 then (bif Nat.beq pc 186 then some (.putfield 67, 3, 0, 12) else none) else (bif Nat.beq pc 189 then some (.iinc 4 1, 3, 0, 0) else none)) else (bif Nat.blt pc 195 then (bif Nat.beq pc 192 then some (.goto (-149), 3, 43, 0) else none) else (bif Nat.beq pc 195 then some (.return_, 1, 0, 0) else none)))))))) else none
theorem oxn_0 : ∀ pc, 196 ≤ pc → oxi_0 pc = none := fun pc h => by unfold oxi_0; rw [show Nat.blt pc 196 = false from ox_blt h]; rfl
theorem oxd_0 : ∀ pc e, oxi_0 pc = some e → decode prog_2_method_2_code pc = .ok (e.1, e.2.1) := ox_tab 196 oxn_0 (by decide +kernel)
theorem oxc_0 : ∀ pc e, oxi_0 pc = some e → ox_chk 0 pc e = true := ox_tab2 196 oxn_0 (by decide +kernel)
/-- OrderAxioms$Execution.choose(LOrderAxioms$Program;LOrderAxioms$Model;I)V -/
def oxi_1 (pc : Nat) : Option (Instr × Nat × Nat × Nat) := bif Nat.blt pc 202 then (bif Nat.blt pc 101 then (bif Nat.blt pc 49 then (bif Nat.blt pc 23 then (bif Nat.blt pc 11 then (bif Nat.blt pc 4 then (bif Nat.blt pc 1 then (bif Nat.beq pc 0 then some (.iload_n 3, 1, 0, 0) else none) else (bif Nat.blt pc 3 then (bif Nat.beq pc 1 then some (.istore 4, 2, 0, 0) else none) else (bif Nat.beq pc 3 then some (.iconst 3, 1, 0, 0) else none))) else (bif Nat.blt pc 6 then (bif Nat.beq pc 4 then some (.istore 5, 2, 0, 0) else none) else (bif Nat.blt pc 8 then (bif Nat.beq pc 6 then some (.iload 5, 2, 0, 0) else none) else (bif Nat.beq pc 8 then some (.ifCond .lt (63), 3, 71, 0) else none)))) else (bif Nat.blt pc 17 then (bif Nat.blt pc 12 then (bif Nat.beq pc 11 then some (.aload_n 1, 1, 0, 0) else none) else (bif Nat.blt pc 15 then (bif Nat.beq pc 12 then some (.getfield 80, 3, 3, 9) else none) else (bif Nat.beq pc 15 then some (.iload 5, 2, 0, 0) else none))) else (bif Nat.blt pc 20 then (bif Nat.blt pc 18 then (bif Nat.beq pc 17 then some (.iaload, 1, 0, 0) else none) else (bif Nat.beq pc 18 then some (.istore 6, 2, 0, 0) else none)) else (bif Nat.blt pc 21 then (bif Nat.beq pc 20 then some (.iconst 1, 1, 0, 0) else none) else (bif Nat.beq pc 21 then some (.istore 7, 2, 0, 0) else none))))) else (bif Nat.blt pc 38 then (bif Nat.blt pc 30 then (bif Nat.blt pc 25 then (bif Nat.beq pc 23 then some (.iload 7, 2, 0, 0) else none) else (bif Nat.blt pc 27 then (bif Nat.beq pc 25 then some (.iload 6, 2, 0, 0) else none) else (bif Nat.beq pc 27 then some (.if_icmp .gt (31), 3, 58, 0) else none))) else (bif Nat.blt pc 34 then (bif Nat.blt pc 31 then (bif Nat.beq pc 30 then some (.aload_n 0, 1, 0, 0) else none) else (bif Nat.beq pc 31 then some (.getfield 29, 3, 0, 8) else none)) else (bif Nat.blt pc 36 then (bif Nat.beq pc 34 then some (.iload 6, 2, 0, 0) else none) else (bif Nat.beq pc 36 then some (.iload 7, 2, 0, 0) else none)))) else (bif Nat.blt pc 43 then (bif Nat.blt pc 39 then (bif Nat.beq pc 38 then some (.isub, 1, 0, 0) else none) else (bif Nat.blt pc 41 then (bif Nat.beq pc 39 then some (.iload 4, 2, 0, 0) else none) else (bif Nat.beq pc 41 then some (.iload 7, 2, 0, 0) else none))) else (bif Nat.blt pc 45 then (bif Nat.blt pc 44 then (bif Nat.beq pc 43 then some (.irem, 1, 0, 0) else none) else (bif Nat.beq pc 44 then some (.iastore, 1, 0, 0) else none)) else (bif Nat.blt pc 47 then (bif Nat.beq pc 45 then some (.iload 4, 2, 0, 0) else none) else (bif Nat.beq pc 47 then some (.iload 7, 2, 0, 0) else none)))))) else (bif Nat.blt pc 76 then (bif Nat.blt pc 60 then (bif Nat.blt pc 55 then (bif Nat.blt pc 50 then (bif Nat.beq pc 49 then some (.idiv, 1, 0, 0) else none) else (bif Nat.blt pc 52 then (bif Nat.beq pc 50 then some (.istore 4, 2, 0, 0) else none) else (bif Nat.beq pc 52 then some (.iinc 7 1, 3, 0, 0) else none))) else (bif Nat.blt pc 58 then (bif Nat.beq pc 55 then some (.goto (-32), 3, 23, 0) else none) else (bif Nat.blt pc 59 then (bif Nat.beq pc 58 then some (.aload_n 0, 1, 0, 0) else none) else (bif Nat.beq pc 59 then some (.aload_n 1, 1, 0, 0) else none)))) else (bif Nat.blt pc 68 then (bif Nat.blt pc 62 then (bif Nat.beq pc 60 then some (.iload 5, 2, 0, 0) else none) else (bif Nat.blt pc 65 then (bif Nat.beq pc 62 then some (.invokevirtual 83, 3, 3, 3) else none) else (bif Nat.beq pc 65 then some (.iinc 5 (-1), 3, 0, 0) else none))) else (bif Nat.blt pc 72 then (bif Nat.blt pc 71 then (bif Nat.beq pc 68 then some (.goto (-62), 3, 6, 0) else none) else (bif Nat.beq pc 71 then some (.aload_n 0, 1, 0, 0) else none)) else (bif Nat.blt pc 75 then (bif Nat.beq pc 72 then some (.getfield 58, 3, 0, 2) else none) else (bif Nat.beq pc 75 then some (.iconst 1, 1, 0, 0) else none))))) else (bif Nat.blt pc 90 then (bif Nat.blt pc 81 then (bif Nat.blt pc 77 then (bif Nat.beq pc 76 then some (.isub, 1, 0, 0) else none) else (bif Nat.blt pc 79 then (bif Nat.beq pc 77 then some (.istore 5, 2, 0, 0) else none) else (bif Nat.beq pc 79 then some (.iload 5, 2, 0, 0) else none))) else (bif Nat.blt pc 85 then (bif Nat.blt pc 84 then (bif Nat.beq pc 81 then some (.ifCond .lt (85), 3, 166, 0) else none) else (bif Nat.beq pc 84 then some (.aload_n 1, 1, 0, 0) else none)) else (bif Nat.blt pc 87 then (bif Nat.beq pc 85 then some (.iload 5, 2, 0, 0) else none) else (bif Nat.beq pc 87 then some (.invokevirtual 87, 3, 27, 2) else none)))) else (bif Nat.blt pc 94 then (bif Nat.blt pc 92 then (bif Nat.beq pc 90 then some (.istore 6, 2, 0, 0) else none) else (bif Nat.blt pc 93 then (bif Nat.beq pc 92 then some (.iconst 1, 1, 0, 0) else none) else (bif Nat.beq pc 93 then some (.aload_n 1, 1, 0, 0) else none))) else (bif Nat.blt pc 99 then (bif Nat.blt pc 97 then (bif Nat.beq pc 94 then some (.getfield 80, 3, 3, 9) else none) else (bif Nat.beq pc 97 then some (.iload 6, 2, 0, 0) else none)) else (bif Nat.blt pc 100 then (bif Nat.beq pc 99 then some (.iaload, 1, 0, 0) else none) else (bif Nat.beq pc 100 then some (.iadd, 1, 0, 0) else none))))))) else (bif Nat.blt pc 150 then (bif Nat.blt pc 123 then (bif Nat.blt pc 113 then (bif Nat.blt pc 107 then (bif Nat.blt pc 103 then (bif Nat.beq pc 101 then some (.istore 7, 2, 0, 0) else none) else (bif Nat.blt pc 104 then (bif Nat.beq pc 103 then some (.aload_n 0, 1, 0, 0) else none) else (bif Nat.beq pc 104 then some (.getfield 9, 3, 0, 3) else none))) else (bif Nat.blt pc 109 then (bif Nat.beq pc 107 then some (.iload 5, 2, 0, 0) else none) else (bif Nat.blt pc 111 then (bif Nat.beq pc 109 then some (.iload 4, 2, 0, 0) else none) else (bif Nat.beq pc 111 then some (.iload 7, 2, 0, 0) else none)))) else (bif Nat.blt pc 117 then (bif Nat.blt pc 114 then (bif Nat.beq pc 113 then some (.irem, 1, 0, 0) else none) else (bif Nat.blt pc 115 then (bif Nat.beq pc 114 then some (.iastore, 1, 0, 0) else none) else (bif Nat.beq pc 115 then some (.iload 4, 2, 0, 0) else none))) else (bif Nat.blt pc 120 then (bif Nat.blt pc 119 then (bif Nat.beq pc 117 then some (.iload 7, 2, 0, 0) else none) else (bif Nat.beq pc 119 then some (.idiv, 1, 0, 0) else none)) else (bif Nat.blt pc 122 then (bif Nat.beq pc 120 then some (.istore 4, 2, 0, 0) else none) else (bif Nat.beq pc 122 then some (.aload_n 0, 1, 0, 0) else none))))) else (bif Nat.blt pc 138 then (bif Nat.blt pc 129 then (bif Nat.blt pc 126 then (bif Nat.beq pc 123 then some (.getfield 15, 3, 0, 4) else none) else (bif Nat.blt pc 128 then (bif Nat.beq pc 126 then some (.iload 5, 2, 0, 0) else none) else (bif Nat.beq pc 128 then some (.aload_n 0, 1, 0, 0) else none))) else (bif Nat.blt pc 134 then (bif Nat.blt pc 132 then (bif Nat.beq pc 129 then some (.getfield 9, 3, 0, 3) else none) else (bif Nat.beq pc 132 then some (.iload 5, 2, 0, 0) else none)) else (bif Nat.blt pc 135 then (bif Nat.beq pc 134 then some (.iaload, 1, 0, 0) else none) else (bif Nat.beq pc 135 then some (.ifCond .ne (7), 3, 142, 0) else none)))) else (bif Nat.blt pc 143 then (bif Nat.blt pc 139 then (bif Nat.beq pc 138 then some (.iconst (-1), 1, 0, 0) else none) else (bif Nat.blt pc 142 then (bif Nat.beq pc 139 then some (.goto (20), 3, 159, 0) else none) else (bif Nat.beq pc 142 then some (.aload_n 1, 1, 0, 0) else none))) else (bif Nat.blt pc 148 then (bif Nat.blt pc 146 then (bif Nat.beq pc 143 then some (.getfield 91, 3, 3, 11) else none) else (bif Nat.beq pc 146 then some (.iload 6, 2, 0, 0) else none)) else (bif Nat.blt pc 149 then (bif Nat.beq pc 148 then some (.aaload, 1, 0, 0) else none) else (bif Nat.beq pc 149 then some (.aload_n 0, 1, 0, 0) else none)))))) else (bif Nat.blt pc 174 then (bif Nat.blt pc 160 then (bif Nat.blt pc 156 then (bif Nat.blt pc 153 then (bif Nat.beq pc 150 then some (.getfield 9, 3, 0, 3) else none) else (bif Nat.blt pc 155 then (bif Nat.beq pc 153 then some (.iload 5, 2, 0, 0) else none) else (bif Nat.beq pc 155 then some (.iaload, 1, 0, 0) else none))) else (bif Nat.blt pc 158 then (bif Nat.blt pc 157 then (bif Nat.beq pc 156 then some (.iconst 1, 1, 0, 0) else none) else (bif Nat.beq pc 157 then some (.isub, 1, 0, 0) else none)) else (bif Nat.blt pc 159 then (bif Nat.beq pc 158 then some (.iaload, 1, 0, 0) else none) else (bif Nat.beq pc 159 then some (.iastore, 1, 0, 0) else none)))) else (bif Nat.blt pc 167 then (bif Nat.blt pc 163 then (bif Nat.beq pc 160 then some (.iinc 5 (-1), 3, 0, 0) else none) else (bif Nat.blt pc 166 then (bif Nat.beq pc 163 then some (.goto (-84), 3, 79, 0) else none) else (bif Nat.beq pc 166 then some (.aload_n 0, 1, 0, 0) else none))) else (bif Nat.blt pc 171 then (bif Nat.blt pc 168 then (bif Nat.beq pc 167 then some (.aload_n 1, 1, 0, 0) else none) else (bif Nat.beq pc 168 then some (.invokevirtual 94, 3, 8, 2) else none)) else (bif Nat.blt pc 172 then (bif Nat.beq pc 171 then some (.iconst 0, 1, 0, 0) else none) else (bif Nat.beq pc 172 then some (.istore 5, 2, 0, 0) else none))))) else (bif Nat.blt pc 186 then (bif Nat.blt pc 180 then (bif Nat.blt pc 176 then (bif Nat.beq pc 174 then some (.iload 5, 2, 0, 0) else none) else (bif Nat.blt pc 177 then (bif Nat.beq pc 176 then some (.aload_n 0, 1, 0, 0) else none) else (bif Nat.beq pc 177 then some (.getfield 67, 3, 0, 12) else none))) else (bif Nat.blt pc 184 then (bif Nat.blt pc 183 then (bif Nat.beq pc 180 then some (.if_icmp .ge (21), 3, 201, 0) else none) else (bif Nat.beq pc 183 then some (.aload_n 0, 1, 0, 0) else none)) else (bif Nat.blt pc 185 then (bif Nat.beq pc 184 then some (.aload_n 2, 1, 0, 0) else none) else (bif Nat.beq pc 185 then some (.aload_n 0, 1, 0, 0) else none)))) else (bif Nat.blt pc 192 then (bif Nat.blt pc 189 then (bif Nat.beq pc 186 then some (.getfield 39, 3, 0, 11) else none) else (bif Nat.blt pc 191 then (bif Nat.beq pc 189 then some (.iload 5, 2, 0, 0) else none) else (bif Nat.beq pc 191 then some (.iaload, 1, 0, 0) else none))) else (bif Nat.blt pc 198 then (bif Nat.blt pc 195 then (bif Nat.beq pc 192 then some (.invokevirtual 76, 3, 10, 3) else none) else (bif Nat.beq pc 195 then some (.iinc 5 1, 3, 0, 0) else none)) else (bif Nat.blt pc 201 then (bif Nat.beq pc 198 then some (.goto (-24), 3, 174, 0) else none) else (bif Nat.beq pc 201 then some (.return_, 1, 0, 0) else none)))))))) else none
theorem oxn_1 : ∀ pc, 202 ≤ pc → oxi_1 pc = none := fun pc h => by unfold oxi_1; rw [show Nat.blt pc 202 = false from ox_blt h]; rfl
theorem oxd_1 : ∀ pc e, oxi_1 pc = some e → decode prog_2_method_3_code pc = .ok (e.1, e.2.1) := ox_tab 202 oxn_1 (by decide +kernel)
theorem oxc_1 : ∀ pc e, oxi_1 pc = some e → ox_chk 0 pc e = true := ox_tab2 202 oxn_1 (by decide +kernel)
/-- OrderAxioms$Execution.firstBroken(LOrderAxioms$Model;)I -/
def oxi_2 (pc : Nat) : Option (Instr × Nat × Nat × Nat) := bif Nat.blt pc 41 then (bif Nat.blt pc 19 then (bif Nat.blt pc 7 then (bif Nat.blt pc 2 then (bif Nat.blt pc 1 then (bif Nat.beq pc 0 then some (.iconst 0, 1, 0, 0) else none) else (bif Nat.beq pc 1 then some (.istore_n 2, 1, 0, 0) else none)) else (bif Nat.blt pc 3 then (bif Nat.beq pc 2 then some (.iload_n 2, 1, 0, 0) else none) else (bif Nat.blt pc 4 then (bif Nat.beq pc 3 then some (.aload_n 1, 1, 0, 0) else none) else (bif Nat.beq pc 4 then some (.getfield 97, 3, 2, 1) else none)))) else (bif Nat.blt pc 14 then (bif Nat.blt pc 10 then (bif Nat.beq pc 7 then some (.if_icmp .ge (32), 3, 39, 0) else none) else (bif Nat.blt pc 11 then (bif Nat.beq pc 10 then some (.aload_n 0, 1, 0, 0) else none) else (bif Nat.beq pc 11 then some (.getfield 26, 3, 0, 7) else none))) else (bif Nat.blt pc 15 then (bif Nat.beq pc 14 then some (.aload_n 1, 1, 0, 0) else none) else (bif Nat.blt pc 18 then (bif Nat.beq pc 15 then some (.getfield 100, 3, 2, 5) else none) else (bif Nat.beq pc 18 then some (.iload_n 2, 1, 0, 0) else none))))) else (bif Nat.blt pc 31 then (bif Nat.blt pc 22 then (bif Nat.blt pc 20 then (bif Nat.beq pc 19 then some (.iaload, 1, 0, 0) else none) else (bif Nat.blt pc 21 then (bif Nat.beq pc 20 then some (.aaload, 1, 0, 0) else none) else (bif Nat.beq pc 21 then some (.aload_n 0, 1, 0, 0) else none))) else (bif Nat.blt pc 25 then (bif Nat.beq pc 22 then some (.getfield 48, 3, 0, 0) else none) else (bif Nat.blt pc 28 then (bif Nat.beq pc 25 then some (.invokestatic 103, 3, 97, 2) else none) else (bif Nat.beq pc 28 then some (.ifCond .eq (5), 3, 33, 0) else none)))) else (bif Nat.blt pc 36 then (bif Nat.blt pc 32 then (bif Nat.beq pc 31 then some (.iload_n 2, 1, 0, 0) else none) else (bif Nat.blt pc 33 then (bif Nat.beq pc 32 then some (.ireturn, 1, 0, 0) else none) else (bif Nat.beq pc 33 then some (.iinc 2 1, 3, 0, 0) else none))) else (bif Nat.blt pc 39 then (bif Nat.beq pc 36 then some (.goto (-34), 3, 2, 0) else none) else (bif Nat.blt pc 40 then (bif Nat.beq pc 39 then some (.iconst (-1), 1, 0, 0) else none) else (bif Nat.beq pc 40 then some (.ireturn, 1, 0, 0) else none)))))) else none
theorem oxn_2 : ∀ pc, 41 ≤ pc → oxi_2 pc = none := fun pc h => by unfold oxi_2; rw [show Nat.blt pc 41 = false from ox_blt h]; rfl
theorem oxd_2 : ∀ pc e, oxi_2 pc = some e → decode prog_2_method_4_code pc = .ok (e.1, e.2.1) := ox_tab 41 oxn_2 (by decide +kernel)
theorem oxc_2 : ∀ pc e, oxi_2 pc = some e → ox_chk 0 pc e = true := ox_tab2 41 oxn_2 (by decide +kernel)
/-- OrderAxioms$Execution.arrange(LOrderAxioms$Program;I)V -/
def oxi_3 (pc : Nat) : Option (Instr × Nat × Nat × Nat) := bif Nat.blt pc 77 then (bif Nat.blt pc 37 then (bif Nat.blt pc 19 then (bif Nat.blt pc 8 then (bif Nat.blt pc 5 then (bif Nat.blt pc 1 then (bif Nat.beq pc 0 then some (.aload_n 1, 1, 0, 0) else none) else (bif Nat.blt pc 4 then (bif Nat.beq pc 1 then some (.getfield 80, 3, 3, 9) else none) else (bif Nat.beq pc 4 then some (.iload_n 2, 1, 0, 0) else none))) else (bif Nat.blt pc 6 then (bif Nat.beq pc 5 then some (.iaload, 1, 0, 0) else none) else (bif Nat.blt pc 7 then (bif Nat.beq pc 6 then some (.istore_n 3, 1, 0, 0) else none) else (bif Nat.beq pc 7 then some (.aload_n 1, 1, 0, 0) else none)))) else (bif Nat.blt pc 13 then (bif Nat.blt pc 11 then (bif Nat.beq pc 8 then some (.getfield 109, 3, 3, 10) else none) else (bif Nat.blt pc 12 then (bif Nat.beq pc 11 then some (.iload_n 2, 1, 0, 0) else none) else (bif Nat.beq pc 12 then some (.iaload, 1, 0, 0) else none))) else (bif Nat.blt pc 15 then (bif Nat.beq pc 13 then some (.istore 4, 2, 0, 0) else none) else (bif Nat.blt pc 16 then (bif Nat.beq pc 15 then some (.aload_n 0, 1, 0, 0) else none) else (bif Nat.beq pc 16 then some (.getfield 18, 3, 0, 5) else none))))) else (bif Nat.blt pc 27 then (bif Nat.blt pc 22 then (bif Nat.blt pc 20 then (bif Nat.beq pc 19 then some (.iload_n 2, 1, 0, 0) else none) else (bif Nat.blt pc 21 then (bif Nat.beq pc 20 then some (.iload_n 3, 1, 0, 0) else none) else (bif Nat.beq pc 21 then some (.iastore, 1, 0, 0) else none))) else (bif Nat.blt pc 23 then (bif Nat.beq pc 22 then some (.iconst 0, 1, 0, 0) else none) else (bif Nat.blt pc 25 then (bif Nat.beq pc 23 then some (.istore 5, 2, 0, 0) else none) else (bif Nat.beq pc 25 then some (.iload 5, 2, 0, 0) else none)))) else (bif Nat.blt pc 32 then (bif Nat.blt pc 28 then (bif Nat.beq pc 27 then some (.iload_n 3, 1, 0, 0) else none) else (bif Nat.blt pc 31 then (bif Nat.beq pc 28 then some (.if_icmp .ge (48), 3, 76, 0) else none) else (bif Nat.beq pc 31 then some (.aload_n 0, 1, 0, 0) else none))) else (bif Nat.blt pc 35 then (bif Nat.beq pc 32 then some (.getfield 23, 3, 0, 6) else none) else (bif Nat.blt pc 36 then (bif Nat.beq pc 35 then some (.iload_n 2, 1, 0, 0) else none) else (bif Nat.beq pc 36 then some (.aaload, 1, 0, 0) else none)))))) else (bif Nat.blt pc 59 then (bif Nat.blt pc 48 then (bif Nat.blt pc 42 then (bif Nat.blt pc 39 then (bif Nat.beq pc 37 then some (.iload 5, 2, 0, 0) else none) else (bif Nat.blt pc 41 then (bif Nat.beq pc 39 then some (.iload 4, 2, 0, 0) else none) else (bif Nat.beq pc 41 then some (.aload_n 0, 1, 0, 0) else none))) else (bif Nat.blt pc 45 then (bif Nat.beq pc 42 then some (.getfield 29, 3, 0, 8) else none) else (bif Nat.blt pc 47 then (bif Nat.beq pc 45 then some (.iload 5, 2, 0, 0) else none) else (bif Nat.beq pc 47 then some (.iaload, 1, 0, 0) else none)))) else (bif Nat.blt pc 54 then (bif Nat.blt pc 51 then (bif Nat.beq pc 48 then some (.invokestatic 112, 3, 99, 2) else none) else (bif Nat.blt pc 52 then (bif Nat.beq pc 51 then some (.iastore, 1, 0, 0) else none) else (bif Nat.beq pc 52 then some (.iload 4, 2, 0, 0) else none))) else (bif Nat.blt pc 55 then (bif Nat.beq pc 54 then some (.iconst 1, 1, 0, 0) else none) else (bif Nat.blt pc 56 then (bif Nat.beq pc 55 then some (.aload_n 0, 1, 0, 0) else none) else (bif Nat.beq pc 56 then some (.getfield 23, 3, 0, 6) else none))))) else (bif Nat.blt pc 66 then (bif Nat.blt pc 63 then (bif Nat.blt pc 60 then (bif Nat.beq pc 59 then some (.iload_n 2, 1, 0, 0) else none) else (bif Nat.blt pc 61 then (bif Nat.beq pc 60 then some (.aaload, 1, 0, 0) else none) else (bif Nat.beq pc 61 then some (.iload 5, 2, 0, 0) else none))) else (bif Nat.blt pc 64 then (bif Nat.beq pc 63 then some (.iaload, 1, 0, 0) else none) else (bif Nat.blt pc 65 then (bif Nat.beq pc 64 then some (.ishl, 1, 0, 0) else none) else (bif Nat.beq pc 65 then some (.iconst (-1), 1, 0, 0) else none)))) else (bif Nat.blt pc 70 then (bif Nat.blt pc 67 then (bif Nat.beq pc 66 then some (.ixor, 1, 0, 0) else none) else (bif Nat.blt pc 68 then (bif Nat.beq pc 67 then some (.iand, 1, 0, 0) else none) else (bif Nat.beq pc 68 then some (.istore 4, 2, 0, 0) else none))) else (bif Nat.blt pc 73 then (bif Nat.beq pc 70 then some (.iinc 5 1, 3, 0, 0) else none) else (bif Nat.blt pc 76 then (bif Nat.beq pc 73 then some (.goto (-48), 3, 25, 0) else none) else (bif Nat.beq pc 76 then some (.return_, 1, 0, 0) else none))))))) else none
theorem oxn_3 : ∀ pc, 77 ≤ pc → oxi_3 pc = none := fun pc h => by unfold oxi_3; rw [show Nat.blt pc 77 = false from ox_blt h]; rfl
theorem oxd_3 : ∀ pc e, oxi_3 pc = some e → decode prog_2_method_5_code pc = .ok (e.1, e.2.1) := ox_tab 77 oxn_3 (by decide +kernel)
theorem oxc_3 : ∀ pc e, oxi_3 pc = some e → ox_chk 0 pc e = true := ox_tab2 77 oxn_3 (by decide +kernel)
/-- OrderAxioms$Execution.markWanted(LOrderAxioms$Model;Z)V -/
def oxi_4 (pc : Nat) : Option (Instr × Nat × Nat × Nat) := bif Nat.blt pc 104 then (bif Nat.blt pc 52 then (bif Nat.blt pc 25 then (bif Nat.blt pc 11 then (bif Nat.blt pc 3 then (bif Nat.blt pc 1 then (bif Nat.beq pc 0 then some (.iconst 0, 1, 0, 0) else none) else (bif Nat.blt pc 2 then (bif Nat.beq pc 1 then some (.istore_n 3, 1, 0, 0) else none) else (bif Nat.beq pc 2 then some (.iload_n 3, 1, 0, 0) else none))) else (bif Nat.blt pc 7 then (bif Nat.blt pc 4 then (bif Nat.beq pc 3 then some (.aload_n 0, 1, 0, 0) else none) else (bif Nat.beq pc 4 then some (.getfield 54, 3, 0, 1) else none)) else (bif Nat.blt pc 10 then (bif Nat.beq pc 7 then some (.if_icmp .ge (16), 3, 23, 0) else none) else (bif Nat.beq pc 10 then some (.aload_n 0, 1, 0, 0) else none)))) else (bif Nat.blt pc 17 then (bif Nat.blt pc 15 then (bif Nat.blt pc 14 then (bif Nat.beq pc 11 then some (.getfield 32, 3, 0, 9) else none) else (bif Nat.beq pc 14 then some (.iload_n 3, 1, 0, 0) else none)) else (bif Nat.blt pc 16 then (bif Nat.beq pc 15 then some (.iload_n 2, 1, 0, 0) else none) else (bif Nat.beq pc 16 then some (.bastore, 1, 0, 0) else none))) else (bif Nat.blt pc 23 then (bif Nat.blt pc 20 then (bif Nat.beq pc 17 then some (.iinc 3 1, 3, 0, 0) else none) else (bif Nat.beq pc 20 then some (.goto (-18), 3, 2, 0) else none)) else (bif Nat.blt pc 24 then (bif Nat.beq pc 23 then some (.iconst 0, 1, 0, 0) else none) else (bif Nat.beq pc 24 then some (.istore_n 3, 1, 0, 0) else none))))) else (bif Nat.blt pc 38 then (bif Nat.blt pc 30 then (bif Nat.blt pc 26 then (bif Nat.beq pc 25 then some (.iload_n 3, 1, 0, 0) else none) else (bif Nat.blt pc 27 then (bif Nat.beq pc 26 then some (.aload_n 1, 1, 0, 0) else none) else (bif Nat.beq pc 27 then some (.getfield 97, 3, 2, 1) else none))) else (bif Nat.blt pc 34 then (bif Nat.blt pc 33 then (bif Nat.beq pc 30 then some (.if_icmp .ge (21), 3, 51, 0) else none) else (bif Nat.beq pc 33 then some (.aload_n 0, 1, 0, 0) else none)) else (bif Nat.blt pc 37 then (bif Nat.beq pc 34 then some (.getfield 32, 3, 0, 9) else none) else (bif Nat.beq pc 37 then some (.aload_n 1, 1, 0, 0) else none)))) else (bif Nat.blt pc 44 then (bif Nat.blt pc 42 then (bif Nat.blt pc 41 then (bif Nat.beq pc 38 then some (.getfield 100, 3, 2, 5) else none) else (bif Nat.beq pc 41 then some (.iload_n 3, 1, 0, 0) else none)) else (bif Nat.blt pc 43 then (bif Nat.beq pc 42 then some (.iaload, 1, 0, 0) else none) else (bif Nat.beq pc 43 then some (.iconst 1, 1, 0, 0) else none))) else (bif Nat.blt pc 48 then (bif Nat.blt pc 45 then (bif Nat.beq pc 44 then some (.bastore, 1, 0, 0) else none) else (bif Nat.beq pc 45 then some (.iinc 3 1, 3, 0, 0) else none)) else (bif Nat.blt pc 51 then (bif Nat.beq pc 48 then some (.goto (-23), 3, 25, 0) else none) else (bif Nat.beq pc 51 then some (.aload_n 0, 1, 0, 0) else none)))))) else (bif Nat.blt pc 78 then (bif Nat.blt pc 64 then (bif Nat.blt pc 57 then (bif Nat.blt pc 55 then (bif Nat.beq pc 52 then some (.getfield 54, 3, 0, 1) else none) else (bif Nat.blt pc 56 then (bif Nat.beq pc 55 then some (.iconst 1, 1, 0, 0) else none) else (bif Nat.beq pc 56 then some (.isub, 1, 0, 0) else none))) else (bif Nat.blt pc 59 then (bif Nat.blt pc 58 then (bif Nat.beq pc 57 then some (.istore_n 3, 1, 0, 0) else none) else (bif Nat.beq pc 58 then some (.iload_n 3, 1, 0, 0) else none)) else (bif Nat.blt pc 61 then (bif Nat.beq pc 59 then some (.bipush 12, 2, 0, 0) else none) else (bif Nat.beq pc 61 then some (.if_icmp .lt (42), 3, 103, 0) else none)))) else (bif Nat.blt pc 70 then (bif Nat.blt pc 68 then (bif Nat.blt pc 65 then (bif Nat.beq pc 64 then some (.aload_n 0, 1, 0, 0) else none) else (bif Nat.beq pc 65 then some (.getfield 32, 3, 0, 9) else none)) else (bif Nat.blt pc 69 then (bif Nat.beq pc 68 then some (.iload_n 3, 1, 0, 0) else none) else (bif Nat.beq pc 69 then some (.baload, 1, 0, 0) else none))) else (bif Nat.blt pc 74 then (bif Nat.blt pc 73 then (bif Nat.beq pc 70 then some (.ifCond .eq (27), 3, 97, 0) else none) else (bif Nat.beq pc 73 then some (.aload_n 0, 1, 0, 0) else none)) else (bif Nat.blt pc 77 then (bif Nat.beq pc 74 then some (.getfield 32, 3, 0, 9) else none) else (bif Nat.beq pc 77 then some (.aload_n 1, 1, 0, 0) else none))))) else (bif Nat.blt pc 90 then (bif Nat.blt pc 84 then (bif Nat.blt pc 82 then (bif Nat.blt pc 81 then (bif Nat.beq pc 78 then some (.getfield 70, 3, 2, 3) else none) else (bif Nat.beq pc 81 then some (.iload_n 3, 1, 0, 0) else none)) else (bif Nat.blt pc 83 then (bif Nat.beq pc 82 then some (.iaload, 1, 0, 0) else none) else (bif Nat.beq pc 83 then some (.iconst 1, 1, 0, 0) else none))) else (bif Nat.blt pc 86 then (bif Nat.blt pc 85 then (bif Nat.beq pc 84 then some (.bastore, 1, 0, 0) else none) else (bif Nat.beq pc 85 then some (.aload_n 0, 1, 0, 0) else none)) else (bif Nat.blt pc 89 then (bif Nat.beq pc 86 then some (.getfield 32, 3, 0, 9) else none) else (bif Nat.beq pc 89 then some (.aload_n 1, 1, 0, 0) else none)))) else (bif Nat.blt pc 96 then (bif Nat.blt pc 94 then (bif Nat.blt pc 93 then (bif Nat.beq pc 90 then some (.getfield 73, 3, 2, 4) else none) else (bif Nat.beq pc 93 then some (.iload_n 3, 1, 0, 0) else none)) else (bif Nat.blt pc 95 then (bif Nat.beq pc 94 then some (.iaload, 1, 0, 0) else none) else (bif Nat.beq pc 95 then some (.iconst 1, 1, 0, 0) else none))) else (bif Nat.blt pc 100 then (bif Nat.blt pc 97 then (bif Nat.beq pc 96 then some (.bastore, 1, 0, 0) else none) else (bif Nat.beq pc 97 then some (.iinc 3 (-1), 3, 0, 0) else none)) else (bif Nat.blt pc 103 then (bif Nat.beq pc 100 then some (.goto (-42), 3, 58, 0) else none) else (bif Nat.beq pc 103 then some (.return_, 1, 0, 0) else none))))))) else none
theorem oxn_4 : ∀ pc, 104 ≤ pc → oxi_4 pc = none := fun pc h => by unfold oxi_4; rw [show Nat.blt pc 104 = false from ox_blt h]; rfl
theorem oxd_4 : ∀ pc e, oxi_4 pc = some e → decode prog_2_method_6_code pc = .ok (e.1, e.2.1) := ox_tab 104 oxn_4 (by decide +kernel)
theorem oxc_4 : ∀ pc e, oxi_4 pc = some e → ox_chk 0 pc e = true := ox_tab2 104 oxn_4 (by decide +kernel)
/-- OrderAxioms$Execution.fillSteady(LOrderAxioms$Program;)V -/
def oxi_5 (pc : Nat) : Option (Instr × Nat × Nat × Nat) := bif Nat.blt pc 70 then (bif Nat.blt pc 37 then (bif Nat.blt pc 18 then (bif Nat.blt pc 7 then (bif Nat.blt pc 2 then (bif Nat.blt pc 1 then (bif Nat.beq pc 0 then some (.iconst 0, 1, 0, 0) else none) else (bif Nat.beq pc 1 then some (.istore_n 2, 1, 0, 0) else none)) else (bif Nat.blt pc 3 then (bif Nat.beq pc 2 then some (.iload_n 2, 1, 0, 0) else none) else (bif Nat.blt pc 4 then (bif Nat.beq pc 3 then some (.aload_n 0, 1, 0, 0) else none) else (bif Nat.beq pc 4 then some (.getfield 48, 3, 0, 0) else none)))) else (bif Nat.blt pc 12 then (bif Nat.blt pc 10 then (bif Nat.beq pc 7 then some (.if_icmp .ge (62), 3, 69, 0) else none) else (bif Nat.blt pc 11 then (bif Nat.beq pc 10 then some (.iconst 5, 1, 0, 0) else none) else (bif Nat.beq pc 11 then some (.istore_n 3, 1, 0, 0) else none))) else (bif Nat.blt pc 13 then (bif Nat.beq pc 12 then some (.iload_n 3, 1, 0, 0) else none) else (bif Nat.blt pc 15 then (bif Nat.beq pc 13 then some (.bipush 12, 2, 0, 0) else none) else (bif Nat.beq pc 15 then some (.if_icmp .ge (18), 3, 33, 0) else none))))) else (bif Nat.blt pc 25 then (bif Nat.blt pc 22 then (bif Nat.blt pc 19 then (bif Nat.beq pc 18 then some (.aload_n 0, 1, 0, 0) else none) else (bif Nat.beq pc 19 then some (.getfield 26, 3, 0, 7) else none)) else (bif Nat.blt pc 23 then (bif Nat.beq pc 22 then some (.iload_n 3, 1, 0, 0) else none) else (bif Nat.blt pc 24 then (bif Nat.beq pc 23 then some (.aaload, 1, 0, 0) else none) else (bif Nat.beq pc 24 then some (.iload_n 2, 1, 0, 0) else none)))) else (bif Nat.blt pc 30 then (bif Nat.blt pc 26 then (bif Nat.beq pc 25 then some (.iconst 0, 1, 0, 0) else none) else (bif Nat.blt pc 27 then (bif Nat.beq pc 26 then some (.iastore, 1, 0, 0) else none) else (bif Nat.beq pc 27 then some (.iinc 3 1, 3, 0, 0) else none))) else (bif Nat.blt pc 33 then (bif Nat.beq pc 30 then some (.goto (-18), 3, 12, 0) else none) else (bif Nat.blt pc 34 then (bif Nat.beq pc 33 then some (.aload_n 0, 1, 0, 0) else none) else (bif Nat.beq pc 34 then some (.getfield 26, 3, 0, 7) else none)))))) else (bif Nat.blt pc 51 then (bif Nat.blt pc 42 then (bif Nat.blt pc 39 then (bif Nat.blt pc 38 then (bif Nat.beq pc 37 then some (.iconst 0, 1, 0, 0) else none) else (bif Nat.beq pc 38 then some (.aaload, 1, 0, 0) else none)) else (bif Nat.blt pc 40 then (bif Nat.beq pc 39 then some (.iload_n 2, 1, 0, 0) else none) else (bif Nat.blt pc 41 then (bif Nat.beq pc 40 then some (.iconst 0, 1, 0, 0) else none) else (bif Nat.beq pc 41 then some (.iastore, 1, 0, 0) else none)))) else (bif Nat.blt pc 48 then (bif Nat.blt pc 43 then (bif Nat.beq pc 42 then some (.aload_n 0, 1, 0, 0) else none) else (bif Nat.blt pc 46 then (bif Nat.beq pc 43 then some (.getfield 26, 3, 0, 7) else none) else (bif Nat.beq pc 46 then some (.bipush 6, 2, 0, 0) else none))) else (bif Nat.blt pc 49 then (bif Nat.beq pc 48 then some (.aaload, 1, 0, 0) else none) else (bif Nat.blt pc 50 then (bif Nat.beq pc 49 then some (.iload_n 2, 1, 0, 0) else none) else (bif Nat.beq pc 50 then some (.aload_n 1, 1, 0, 0) else none))))) else (bif Nat.blt pc 58 then (bif Nat.blt pc 55 then (bif Nat.blt pc 54 then (bif Nat.beq pc 51 then some (.getfield 116, 3, 3, 7) else none) else (bif Nat.beq pc 54 then some (.iload_n 2, 1, 0, 0) else none)) else (bif Nat.blt pc 56 then (bif Nat.beq pc 55 then some (.iaload, 1, 0, 0) else none) else (bif Nat.blt pc 57 then (bif Nat.beq pc 56 then some (.iastore, 1, 0, 0) else none) else (bif Nat.beq pc 57 then some (.aload_n 0, 1, 0, 0) else none)))) else (bif Nat.blt pc 63 then (bif Nat.blt pc 59 then (bif Nat.beq pc 58 then some (.aload_n 1, 1, 0, 0) else none) else (bif Nat.blt pc 60 then (bif Nat.beq pc 59 then some (.iload_n 2, 1, 0, 0) else none) else (bif Nat.beq pc 60 then some (.invokevirtual 119, 3, 6, 3) else none))) else (bif Nat.blt pc 66 then (bif Nat.beq pc 63 then some (.iinc 2 1, 3, 0, 0) else none) else (bif Nat.blt pc 69 then (bif Nat.beq pc 66 then some (.goto (-64), 3, 2, 0) else none) else (bif Nat.beq pc 69 then some (.return_, 1, 0, 0) else none))))))) else none
theorem oxn_5 : ∀ pc, 70 ≤ pc → oxi_5 pc = none := fun pc h => by unfold oxi_5; rw [show Nat.blt pc 70 = false from ox_blt h]; rfl
theorem oxd_5 : ∀ pc e, oxi_5 pc = some e → decode prog_2_method_7_code pc = .ok (e.1, e.2.1) := ox_tab 70 oxn_5 (by decide +kernel)
theorem oxc_5 : ∀ pc e, oxi_5 pc = some e → ox_chk 0 pc e = true := ox_tab2 70 oxn_5 (by decide +kernel)
/-- OrderAxioms$Execution.fillBehind(LOrderAxioms$Program;I)V -/
def oxi_6 (pc : Nat) : Option (Instr × Nat × Nat × Nat) := bif Nat.blt pc 86 then (bif Nat.blt pc 42 then (bif Nat.blt pc 20 then (bif Nat.blt pc 7 then (bif Nat.blt pc 3 then (bif Nat.blt pc 1 then (bif Nat.beq pc 0 then some (.iconst 0, 1, 0, 0) else none) else (bif Nat.blt pc 2 then (bif Nat.beq pc 1 then some (.istore_n 3, 1, 0, 0) else none) else (bif Nat.beq pc 2 then some (.iload_n 2, 1, 0, 0) else none))) else (bif Nat.blt pc 4 then (bif Nat.beq pc 3 then some (.iconst 1, 1, 0, 0) else none) else (bif Nat.blt pc 5 then (bif Nat.beq pc 4 then some (.iadd, 1, 0, 0) else none) else (bif Nat.beq pc 5 then some (.istore 4, 2, 0, 0) else none)))) else (bif Nat.blt pc 13 then (bif Nat.blt pc 9 then (bif Nat.beq pc 7 then some (.iload 4, 2, 0, 0) else none) else (bif Nat.blt pc 10 then (bif Nat.beq pc 9 then some (.aload_n 0, 1, 0, 0) else none) else (bif Nat.beq pc 10 then some (.getfield 48, 3, 0, 0) else none))) else (bif Nat.blt pc 17 then (bif Nat.blt pc 16 then (bif Nat.beq pc 13 then some (.if_icmp .ge (72), 3, 85, 0) else none) else (bif Nat.beq pc 16 then some (.aload_n 1, 1, 0, 0) else none)) else (bif Nat.blt pc 18 then (bif Nat.beq pc 17 then some (.iload_n 2, 1, 0, 0) else none) else (bif Nat.beq pc 18 then some (.iload 4, 2, 0, 0) else none))))) else (bif Nat.blt pc 34 then (bif Nat.blt pc 29 then (bif Nat.blt pc 23 then (bif Nat.beq pc 20 then some (.invokevirtual 122, 3, 26, 3) else none) else (bif Nat.blt pc 26 then (bif Nat.beq pc 23 then some (.ifCond .ne (6), 3, 29, 0) else none) else (bif Nat.beq pc 26 then some (.goto (53), 3, 79, 0) else none))) else (bif Nat.blt pc 30 then (bif Nat.beq pc 29 then some (.aload_n 0, 1, 0, 0) else none) else (bif Nat.blt pc 33 then (bif Nat.beq pc 30 then some (.getfield 26, 3, 0, 7) else none) else (bif Nat.beq pc 33 then some (.iconst 0, 1, 0, 0) else none)))) else (bif Nat.blt pc 37 then (bif Nat.blt pc 35 then (bif Nat.beq pc 34 then some (.aaload, 1, 0, 0) else none) else (bif Nat.blt pc 36 then (bif Nat.beq pc 35 then some (.iload_n 2, 1, 0, 0) else none) else (bif Nat.beq pc 36 then some (.dup2, 1, 0, 0) else none))) else (bif Nat.blt pc 39 then (bif Nat.blt pc 38 then (bif Nat.beq pc 37 then some (.iaload, 1, 0, 0) else none) else (bif Nat.beq pc 38 then some (.iconst 1, 1, 0, 0) else none)) else (bif Nat.blt pc 41 then (bif Nat.beq pc 39 then some (.iload 4, 2, 0, 0) else none) else (bif Nat.beq pc 41 then some (.ishl, 1, 0, 0) else none)))))) else (bif Nat.blt pc 64 then (bif Nat.blt pc 51 then (bif Nat.blt pc 45 then (bif Nat.blt pc 43 then (bif Nat.beq pc 42 then some (.ior, 1, 0, 0) else none) else (bif Nat.blt pc 44 then (bif Nat.beq pc 43 then some (.iastore, 1, 0, 0) else none) else (bif Nat.beq pc 44 then some (.aload_n 1, 1, 0, 0) else none))) else (bif Nat.blt pc 48 then (bif Nat.beq pc 45 then some (.getfield 126, 3, 3, 4) else none) else (bif Nat.blt pc 50 then (bif Nat.beq pc 48 then some (.iload 4, 2, 0, 0) else none) else (bif Nat.beq pc 50 then some (.iaload, 1, 0, 0) else none)))) else (bif Nat.blt pc 56 then (bif Nat.blt pc 52 then (bif Nat.beq pc 51 then some (.iconst 2, 1, 0, 0) else none) else (bif Nat.blt pc 55 then (bif Nat.beq pc 52 then some (.if_icmp .ne (8), 3, 60, 0) else none) else (bif Nat.beq pc 55 then some (.iconst 1, 1, 0, 0) else none))) else (bif Nat.blt pc 60 then (bif Nat.blt pc 57 then (bif Nat.beq pc 56 then some (.istore_n 3, 1, 0, 0) else none) else (bif Nat.beq pc 57 then some (.goto (22), 3, 79, 0) else none)) else (bif Nat.blt pc 61 then (bif Nat.beq pc 60 then some (.aload_n 1, 1, 0, 0) else none) else (bif Nat.beq pc 61 then some (.getfield 126, 3, 3, 4) else none))))) else (bif Nat.blt pc 72 then (bif Nat.blt pc 67 then (bif Nat.blt pc 65 then (bif Nat.beq pc 64 then some (.iload_n 2, 1, 0, 0) else none) else (bif Nat.blt pc 66 then (bif Nat.beq pc 65 then some (.iaload, 1, 0, 0) else none) else (bif Nat.beq pc 66 then some (.iconst 2, 1, 0, 0) else none))) else (bif Nat.blt pc 70 then (bif Nat.beq pc 67 then some (.if_icmp .eq (12), 3, 79, 0) else none) else (bif Nat.blt pc 71 then (bif Nat.beq pc 70 then some (.aload_n 0, 1, 0, 0) else none) else (bif Nat.beq pc 71 then some (.aload_n 1, 1, 0, 0) else none)))) else (bif Nat.blt pc 76 then (bif Nat.blt pc 73 then (bif Nat.beq pc 72 then some (.iload_n 2, 1, 0, 0) else none) else (bif Nat.blt pc 75 then (bif Nat.beq pc 73 then some (.iload 4, 2, 0, 0) else none) else (bif Nat.beq pc 75 then some (.iload_n 3, 1, 0, 0) else none))) else (bif Nat.blt pc 82 then (bif Nat.blt pc 79 then (bif Nat.beq pc 76 then some (.invokevirtual 129, 3, 7, 5) else none) else (bif Nat.beq pc 79 then some (.iinc 4 1, 3, 0, 0) else none)) else (bif Nat.blt pc 85 then (bif Nat.beq pc 82 then some (.goto (-75), 3, 7, 0) else none) else (bif Nat.beq pc 85 then some (.return_, 1, 0, 0) else none))))))) else none
theorem oxn_6 : ∀ pc, 86 ≤ pc → oxi_6 pc = none := fun pc h => by unfold oxi_6; rw [show Nat.blt pc 86 = false from ox_blt h]; rfl
theorem oxd_6 : ∀ pc e, oxi_6 pc = some e → decode prog_2_method_8_code pc = .ok (e.1, e.2.1) := ox_tab 86 oxn_6 (by decide +kernel)
theorem oxc_6 : ∀ pc e, oxi_6 pc = some e → ox_chk 0 pc e = true := ox_tab2 86 oxn_6 (by decide +kernel)
/-- OrderAxioms$Execution.fillPair(LOrderAxioms$Program;IIZ)V -/
def oxi_7 (pc : Nat) : Option (Instr × Nat × Nat × Nat) := bif Nat.blt pc 81 then (bif Nat.blt pc 44 then (bif Nat.blt pc 21 then (bif Nat.blt pc 13 then (bif Nat.blt pc 6 then (bif Nat.blt pc 2 then (bif Nat.beq pc 0 then some (.iload 4, 2, 0, 0) else none) else (bif Nat.blt pc 5 then (bif Nat.beq pc 2 then some (.ifCond .eq (18), 3, 20, 0) else none) else (bif Nat.beq pc 5 then some (.aload_n 0, 1, 0, 0) else none))) else (bif Nat.blt pc 11 then (bif Nat.blt pc 9 then (bif Nat.beq pc 6 then some (.getfield 26, 3, 0, 7) else none) else (bif Nat.beq pc 9 then some (.bipush 7, 2, 0, 0) else none)) else (bif Nat.blt pc 12 then (bif Nat.beq pc 11 then some (.aaload, 1, 0, 0) else none) else (bif Nat.beq pc 12 then some (.iload_n 2, 1, 0, 0) else none)))) else (bif Nat.blt pc 17 then (bif Nat.blt pc 15 then (bif Nat.blt pc 14 then (bif Nat.beq pc 13 then some (.dup2, 1, 0, 0) else none) else (bif Nat.beq pc 14 then some (.iaload, 1, 0, 0) else none)) else (bif Nat.blt pc 16 then (bif Nat.beq pc 15 then some (.iconst 1, 1, 0, 0) else none) else (bif Nat.beq pc 16 then some (.iload_n 3, 1, 0, 0) else none))) else (bif Nat.blt pc 19 then (bif Nat.blt pc 18 then (bif Nat.beq pc 17 then some (.ishl, 1, 0, 0) else none) else (bif Nat.beq pc 18 then some (.ior, 1, 0, 0) else none)) else (bif Nat.blt pc 20 then (bif Nat.beq pc 19 then some (.iastore, 1, 0, 0) else none) else (bif Nat.beq pc 20 then some (.aload_n 1, 1, 0, 0) else none))))) else (bif Nat.blt pc 32 then (bif Nat.blt pc 26 then (bif Nat.blt pc 24 then (bif Nat.beq pc 21 then some (.getfield 133, 3, 3, 5) else none) else (bif Nat.blt pc 25 then (bif Nat.beq pc 24 then some (.iload_n 2, 1, 0, 0) else none) else (bif Nat.beq pc 25 then some (.iaload, 1, 0, 0) else none))) else (bif Nat.blt pc 30 then (bif Nat.blt pc 27 then (bif Nat.beq pc 26 then some (.aload_n 1, 1, 0, 0) else none) else (bif Nat.beq pc 27 then some (.getfield 133, 3, 3, 5) else none)) else (bif Nat.blt pc 31 then (bif Nat.beq pc 30 then some (.iload_n 3, 1, 0, 0) else none) else (bif Nat.beq pc 31 then some (.iaload, 1, 0, 0) else none)))) else (bif Nat.blt pc 40 then (bif Nat.blt pc 36 then (bif Nat.blt pc 35 then (bif Nat.beq pc 32 then some (.if_icmp .ne (17), 3, 49, 0) else none) else (bif Nat.beq pc 35 then some (.aload_n 0, 1, 0, 0) else none)) else (bif Nat.blt pc 39 then (bif Nat.beq pc 36 then some (.getfield 26, 3, 0, 7) else none) else (bif Nat.beq pc 39 then some (.iconst 5, 1, 0, 0) else none))) else (bif Nat.blt pc 42 then (bif Nat.blt pc 41 then (bif Nat.beq pc 40 then some (.aaload, 1, 0, 0) else none) else (bif Nat.beq pc 41 then some (.iload_n 2, 1, 0, 0) else none)) else (bif Nat.blt pc 43 then (bif Nat.beq pc 42 then some (.dup2, 1, 0, 0) else none) else (bif Nat.beq pc 43 then some (.iaload, 1, 0, 0) else none)))))) else (bif Nat.blt pc 64 then (bif Nat.blt pc 53 then (bif Nat.blt pc 47 then (bif Nat.blt pc 45 then (bif Nat.beq pc 44 then some (.iconst 1, 1, 0, 0) else none) else (bif Nat.blt pc 46 then (bif Nat.beq pc 45 then some (.iload_n 3, 1, 0, 0) else none) else (bif Nat.beq pc 46 then some (.ishl, 1, 0, 0) else none))) else (bif Nat.blt pc 49 then (bif Nat.blt pc 48 then (bif Nat.beq pc 47 then some (.ior, 1, 0, 0) else none) else (bif Nat.beq pc 48 then some (.iastore, 1, 0, 0) else none)) else (bif Nat.blt pc 50 then (bif Nat.beq pc 49 then some (.aload_n 0, 1, 0, 0) else none) else (bif Nat.beq pc 50 then some (.getfield 26, 3, 0, 7) else none)))) else (bif Nat.blt pc 60 then (bif Nat.blt pc 56 then (bif Nat.blt pc 55 then (bif Nat.beq pc 53 then some (.bipush 8, 2, 0, 0) else none) else (bif Nat.beq pc 55 then some (.iconst 2, 1, 0, 0) else none)) else (bif Nat.blt pc 57 then (bif Nat.beq pc 56 then some (.aload_n 1, 1, 0, 0) else none) else (bif Nat.beq pc 57 then some (.getfield 126, 3, 3, 4) else none))) else (bif Nat.blt pc 62 then (bif Nat.blt pc 61 then (bif Nat.beq pc 60 then some (.iload_n 2, 1, 0, 0) else none) else (bif Nat.beq pc 61 then some (.iaload, 1, 0, 0) else none)) else (bif Nat.blt pc 63 then (bif Nat.beq pc 62 then some (.imul, 1, 0, 0) else none) else (bif Nat.beq pc 63 then some (.iadd, 1, 0, 0) else none))))) else (bif Nat.blt pc 73 then (bif Nat.blt pc 69 then (bif Nat.blt pc 65 then (bif Nat.beq pc 64 then some (.aload_n 1, 1, 0, 0) else none) else (bif Nat.blt pc 68 then (bif Nat.beq pc 65 then some (.getfield 126, 3, 3, 4) else none) else (bif Nat.beq pc 68 then some (.iload_n 3, 1, 0, 0) else none))) else (bif Nat.blt pc 71 then (bif Nat.blt pc 70 then (bif Nat.beq pc 69 then some (.iaload, 1, 0, 0) else none) else (bif Nat.beq pc 70 then some (.iadd, 1, 0, 0) else none)) else (bif Nat.blt pc 72 then (bif Nat.beq pc 71 then some (.aaload, 1, 0, 0) else none) else (bif Nat.beq pc 72 then some (.iload_n 2, 1, 0, 0) else none)))) else (bif Nat.blt pc 77 then (bif Nat.blt pc 75 then (bif Nat.blt pc 74 then (bif Nat.beq pc 73 then some (.dup2, 1, 0, 0) else none) else (bif Nat.beq pc 74 then some (.iaload, 1, 0, 0) else none)) else (bif Nat.blt pc 76 then (bif Nat.beq pc 75 then some (.iconst 1, 1, 0, 0) else none) else (bif Nat.beq pc 76 then some (.iload_n 3, 1, 0, 0) else none))) else (bif Nat.blt pc 79 then (bif Nat.blt pc 78 then (bif Nat.beq pc 77 then some (.ishl, 1, 0, 0) else none) else (bif Nat.beq pc 78 then some (.ior, 1, 0, 0) else none)) else (bif Nat.blt pc 80 then (bif Nat.beq pc 79 then some (.iastore, 1, 0, 0) else none) else (bif Nat.beq pc 80 then some (.return_, 1, 0, 0) else none))))))) else none
theorem oxn_7 : ∀ pc, 81 ≤ pc → oxi_7 pc = none := fun pc h => by unfold oxi_7; rw [show Nat.blt pc 81 = false from ox_blt h]; rfl
theorem oxd_7 : ∀ pc e, oxi_7 pc = some e → decode prog_2_method_9_code pc = .ok (e.1, e.2.1) := ox_tab 81 oxn_7 (by decide +kernel)
theorem oxc_7 : ∀ pc e, oxi_7 pc = some e → ox_chk 0 pc e = true := ox_tab2 81 oxn_7 (by decide +kernel)
/-- OrderAxioms$Execution.fillChosen(LOrderAxioms$Program;)V -/
def oxi_8 (pc : Nat) : Option (Instr × Nat × Nat × Nat) := bif Nat.blt pc 136 then (bif Nat.blt pc 67 then (bif Nat.blt pc 32 then (bif Nat.blt pc 14 then (bif Nat.blt pc 7 then (bif Nat.blt pc 2 then (bif Nat.blt pc 1 then (bif Nat.beq pc 0 then some (.iconst 0, 1, 0, 0) else none) else (bif Nat.beq pc 1 then some (.istore_n 2, 1, 0, 0) else none)) else (bif Nat.blt pc 3 then (bif Nat.beq pc 2 then some (.iload_n 2, 1, 0, 0) else none) else (bif Nat.blt pc 4 then (bif Nat.beq pc 3 then some (.aload_n 0, 1, 0, 0) else none) else (bif Nat.beq pc 4 then some (.getfield 48, 3, 0, 0) else none)))) else (bif Nat.blt pc 11 then (bif Nat.blt pc 10 then (bif Nat.beq pc 7 then some (.if_icmp .ge (31), 3, 38, 0) else none) else (bif Nat.beq pc 10 then some (.iconst 1, 1, 0, 0) else none)) else (bif Nat.blt pc 12 then (bif Nat.beq pc 11 then some (.istore_n 3, 1, 0, 0) else none) else (bif Nat.blt pc 13 then (bif Nat.beq pc 12 then some (.iload_n 3, 1, 0, 0) else none) else (bif Nat.beq pc 13 then some (.iconst 4, 1, 0, 0) else none))))) else (bif Nat.blt pc 23 then (bif Nat.blt pc 18 then (bif Nat.blt pc 17 then (bif Nat.beq pc 14 then some (.if_icmp .gt (18), 3, 32, 0) else none) else (bif Nat.beq pc 17 then some (.aload_n 0, 1, 0, 0) else none)) else (bif Nat.blt pc 21 then (bif Nat.beq pc 18 then some (.getfield 26, 3, 0, 7) else none) else (bif Nat.blt pc 22 then (bif Nat.beq pc 21 then some (.iload_n 3, 1, 0, 0) else none) else (bif Nat.beq pc 22 then some (.aaload, 1, 0, 0) else none)))) else (bif Nat.blt pc 25 then (bif Nat.blt pc 24 then (bif Nat.beq pc 23 then some (.iload_n 2, 1, 0, 0) else none) else (bif Nat.beq pc 24 then some (.iconst 0, 1, 0, 0) else none)) else (bif Nat.blt pc 26 then (bif Nat.beq pc 25 then some (.iastore, 1, 0, 0) else none) else (bif Nat.blt pc 29 then (bif Nat.beq pc 26 then some (.iinc 3 1, 3, 0, 0) else none) else (bif Nat.beq pc 29 then some (.goto (-17), 3, 12, 0) else none)))))) else (bif Nat.blt pc 48 then (bif Nat.blt pc 41 then (bif Nat.blt pc 38 then (bif Nat.blt pc 35 then (bif Nat.beq pc 32 then some (.iinc 2 1, 3, 0, 0) else none) else (bif Nat.beq pc 35 then some (.goto (-33), 3, 2, 0) else none)) else (bif Nat.blt pc 39 then (bif Nat.beq pc 38 then some (.iconst 0, 1, 0, 0) else none) else (bif Nat.blt pc 40 then (bif Nat.beq pc 39 then some (.istore_n 2, 1, 0, 0) else none) else (bif Nat.beq pc 40 then some (.iload_n 2, 1, 0, 0) else none)))) else (bif Nat.blt pc 45 then (bif Nat.blt pc 42 then (bif Nat.beq pc 41 then some (.iconst 4, 1, 0, 0) else none) else (bif Nat.beq pc 42 then some (.if_icmp .ge (60), 3, 102, 0) else none)) else (bif Nat.blt pc 46 then (bif Nat.beq pc 45 then some (.iconst 0, 1, 0, 0) else none) else (bif Nat.blt pc 47 then (bif Nat.beq pc 46 then some (.istore_n 3, 1, 0, 0) else none) else (bif Nat.beq pc 47 then some (.aload_n 0, 1, 0, 0) else none))))) else (bif Nat.blt pc 55 then (bif Nat.blt pc 52 then (bif Nat.blt pc 51 then (bif Nat.beq pc 48 then some (.getfield 18, 3, 0, 5) else none) else (bif Nat.beq pc 51 then some (.iload_n 2, 1, 0, 0) else none)) else (bif Nat.blt pc 53 then (bif Nat.beq pc 52 then some (.iaload, 1, 0, 0) else none) else (bif Nat.blt pc 54 then (bif Nat.beq pc 53 then some (.iconst 1, 1, 0, 0) else none) else (bif Nat.beq pc 54 then some (.isub, 1, 0, 0) else none)))) else (bif Nat.blt pc 62 then (bif Nat.blt pc 57 then (bif Nat.beq pc 55 then some (.istore 4, 2, 0, 0) else none) else (bif Nat.blt pc 59 then (bif Nat.beq pc 57 then some (.iload 4, 2, 0, 0) else none) else (bif Nat.beq pc 59 then some (.ifCond .lt (37), 3, 96, 0) else none))) else (bif Nat.blt pc 63 then (bif Nat.beq pc 62 then some (.aload_n 0, 1, 0, 0) else none) else (bif Nat.blt pc 66 then (bif Nat.beq pc 63 then some (.getfield 23, 3, 0, 6) else none) else (bif Nat.beq pc 66 then some (.iload_n 2, 1, 0, 0) else none))))))) else (bif Nat.blt pc 99 then (bif Nat.blt pc 82 then (bif Nat.blt pc 74 then (bif Nat.blt pc 70 then (bif Nat.blt pc 68 then (bif Nat.beq pc 67 then some (.aaload, 1, 0, 0) else none) else (bif Nat.beq pc 68 then some (.iload 4, 2, 0, 0) else none)) else (bif Nat.blt pc 71 then (bif Nat.beq pc 70 then some (.iaload, 1, 0, 0) else none) else (bif Nat.blt pc 73 then (bif Nat.beq pc 71 then some (.istore 5, 2, 0, 0) else none) else (bif Nat.beq pc 73 then some (.aload_n 0, 1, 0, 0) else none)))) else (bif Nat.blt pc 78 then (bif Nat.blt pc 77 then (bif Nat.beq pc 74 then some (.getfield 26, 3, 0, 7) else none) else (bif Nat.beq pc 77 then some (.iconst 2, 1, 0, 0) else none)) else (bif Nat.blt pc 79 then (bif Nat.beq pc 78 then some (.aaload, 1, 0, 0) else none) else (bif Nat.blt pc 81 then (bif Nat.beq pc 79 then some (.iload 5, 2, 0, 0) else none) else (bif Nat.beq pc 81 then some (.iload_n 3, 1, 0, 0) else none))))) else (bif Nat.blt pc 88 then (bif Nat.blt pc 84 then (bif Nat.blt pc 83 then (bif Nat.beq pc 82 then some (.iastore, 1, 0, 0) else none) else (bif Nat.beq pc 83 then some (.iload_n 3, 1, 0, 0) else none)) else (bif Nat.blt pc 85 then (bif Nat.beq pc 84 then some (.iconst 1, 1, 0, 0) else none) else (bif Nat.blt pc 87 then (bif Nat.beq pc 85 then some (.iload 5, 2, 0, 0) else none) else (bif Nat.beq pc 87 then some (.ishl, 1, 0, 0) else none)))) else (bif Nat.blt pc 90 then (bif Nat.blt pc 89 then (bif Nat.beq pc 88 then some (.ior, 1, 0, 0) else none) else (bif Nat.beq pc 89 then some (.istore_n 3, 1, 0, 0) else none)) else (bif Nat.blt pc 93 then (bif Nat.beq pc 90 then some (.iinc 4 (-1), 3, 0, 0) else none) else (bif Nat.blt pc 96 then (bif Nat.beq pc 93 then some (.goto (-36), 3, 57, 0) else none) else (bif Nat.beq pc 96 then some (.iinc 2 1, 3, 0, 0) else none)))))) else (bif Nat.blt pc 115 then (bif Nat.blt pc 106 then (bif Nat.blt pc 103 then (bif Nat.blt pc 102 then (bif Nat.beq pc 99 then some (.goto (-59), 3, 40, 0) else none) else (bif Nat.beq pc 102 then some (.iconst 0, 1, 0, 0) else none)) else (bif Nat.blt pc 104 then (bif Nat.beq pc 103 then some (.istore_n 2, 1, 0, 0) else none) else (bif Nat.blt pc 105 then (bif Nat.beq pc 104 then some (.iload_n 2, 1, 0, 0) else none) else (bif Nat.beq pc 105 then some (.aload_n 0, 1, 0, 0) else none)))) else (bif Nat.blt pc 112 then (bif Nat.blt pc 109 then (bif Nat.beq pc 106 then some (.getfield 58, 3, 0, 2) else none) else (bif Nat.beq pc 109 then some (.if_icmp .ge (26), 3, 135, 0) else none)) else (bif Nat.blt pc 113 then (bif Nat.beq pc 112 then some (.aload_n 0, 1, 0, 0) else none) else (bif Nat.blt pc 114 then (bif Nat.beq pc 113 then some (.aload_n 1, 1, 0, 0) else none) else (bif Nat.beq pc 114 then some (.aload_n 1, 1, 0, 0) else none))))) else (bif Nat.blt pc 124 then (bif Nat.blt pc 119 then (bif Nat.blt pc 118 then (bif Nat.beq pc 115 then some (.getfield 136, 3, 3, 8) else none) else (bif Nat.beq pc 118 then some (.iload_n 2, 1, 0, 0) else none)) else (bif Nat.blt pc 120 then (bif Nat.beq pc 119 then some (.iaload, 1, 0, 0) else none) else (bif Nat.blt pc 121 then (bif Nat.beq pc 120 then some (.aload_n 0, 1, 0, 0) else none) else (bif Nat.beq pc 121 then some (.getfield 15, 3, 0, 4) else none)))) else (bif Nat.blt pc 129 then (bif Nat.blt pc 125 then (bif Nat.beq pc 124 then some (.iload_n 2, 1, 0, 0) else none) else (bif Nat.blt pc 126 then (bif Nat.beq pc 125 then some (.iaload, 1, 0, 0) else none) else (bif Nat.beq pc 126 then some (.invokevirtual 139, 3, 9, 4) else none))) else (bif Nat.blt pc 132 then (bif Nat.beq pc 129 then some (.iinc 2 1, 3, 0, 0) else none) else (bif Nat.blt pc 135 then (bif Nat.beq pc 132 then some (.goto (-28), 3, 104, 0) else none) else (bif Nat.beq pc 135 then some (.return_, 1, 0, 0) else none)))))))) else none
theorem oxn_8 : ∀ pc, 136 ≤ pc → oxi_8 pc = none := fun pc h => by unfold oxi_8; rw [show Nat.blt pc 136 = false from ox_blt h]; rfl
theorem oxd_8 : ∀ pc e, oxi_8 pc = some e → decode prog_2_method_10_code pc = .ok (e.1, e.2.1) := ox_tab 136 oxn_8 (by decide +kernel)
theorem oxc_8 : ∀ pc e, oxi_8 pc = some e → ox_chk 0 pc e = true := ox_tab2 136 oxn_8 (by decide +kernel)
/-- OrderAxioms$Execution.fillRead(LOrderAxioms$Program;II)V -/
def oxi_9 (pc : Nat) : Option (Instr × Nat × Nat × Nat) := bif Nat.blt pc 85 then (bif Nat.blt pc 45 then (bif Nat.blt pc 23 then (bif Nat.blt pc 11 then (bif Nat.blt pc 5 then (bif Nat.blt pc 1 then (bif Nat.beq pc 0 then some (.iload_n 3, 1, 0, 0) else none) else (bif Nat.blt pc 2 then (bif Nat.beq pc 1 then some (.iconst (-1), 1, 0, 0) else none) else (bif Nat.beq pc 2 then some (.if_icmp .ne (23), 3, 25, 0) else none))) else (bif Nat.blt pc 9 then (bif Nat.blt pc 6 then (bif Nat.beq pc 5 then some (.aload_n 0, 1, 0, 0) else none) else (bif Nat.beq pc 6 then some (.getfield 26, 3, 0, 7) else none)) else (bif Nat.blt pc 10 then (bif Nat.beq pc 9 then some (.iconst 3, 1, 0, 0) else none) else (bif Nat.beq pc 10 then some (.aaload, 1, 0, 0) else none)))) else (bif Nat.blt pc 17 then (bif Nat.blt pc 13 then (bif Nat.blt pc 12 then (bif Nat.beq pc 11 then some (.iload_n 2, 1, 0, 0) else none) else (bif Nat.beq pc 12 then some (.aload_n 1, 1, 0, 0) else none)) else (bif Nat.blt pc 16 then (bif Nat.beq pc 13 then some (.getfield 109, 3, 3, 10) else none) else (bif Nat.beq pc 16 then some (.aload_n 1, 1, 0, 0) else none))) else (bif Nat.blt pc 21 then (bif Nat.blt pc 20 then (bif Nat.beq pc 17 then some (.getfield 133, 3, 3, 5) else none) else (bif Nat.beq pc 20 then some (.iload_n 2, 1, 0, 0) else none)) else (bif Nat.blt pc 22 then (bif Nat.beq pc 21 then some (.iaload, 1, 0, 0) else none) else (bif Nat.beq pc 22 then some (.iaload, 1, 0, 0) else none))))) else (bif Nat.blt pc 33 then (bif Nat.blt pc 29 then (bif Nat.blt pc 25 then (bif Nat.blt pc 24 then (bif Nat.beq pc 23 then some (.iastore, 1, 0, 0) else none) else (bif Nat.beq pc 24 then some (.return_, 1, 0, 0) else none)) else (bif Nat.blt pc 26 then (bif Nat.beq pc 25 then some (.aload_n 0, 1, 0, 0) else none) else (bif Nat.beq pc 26 then some (.getfield 26, 3, 0, 7) else none))) else (bif Nat.blt pc 31 then (bif Nat.blt pc 30 then (bif Nat.beq pc 29 then some (.iconst 3, 1, 0, 0) else none) else (bif Nat.beq pc 30 then some (.aaload, 1, 0, 0) else none)) else (bif Nat.blt pc 32 then (bif Nat.beq pc 31 then some (.iload_n 2, 1, 0, 0) else none) else (bif Nat.beq pc 32 then some (.aload_n 0, 1, 0, 0) else none)))) else (bif Nat.blt pc 39 then (bif Nat.blt pc 37 then (bif Nat.blt pc 36 then (bif Nat.beq pc 33 then some (.getfield 26, 3, 0, 7) else none) else (bif Nat.beq pc 36 then some (.iconst 2, 1, 0, 0) else none)) else (bif Nat.blt pc 38 then (bif Nat.beq pc 37 then some (.aaload, 1, 0, 0) else none) else (bif Nat.beq pc 38 then some (.iload_n 3, 1, 0, 0) else none))) else (bif Nat.blt pc 41 then (bif Nat.blt pc 40 then (bif Nat.beq pc 39 then some (.iaload, 1, 0, 0) else none) else (bif Nat.beq pc 40 then some (.iastore, 1, 0, 0) else none)) else (bif Nat.blt pc 42 then (bif Nat.beq pc 41 then some (.aload_n 0, 1, 0, 0) else none) else (bif Nat.beq pc 42 then some (.getfield 26, 3, 0, 7) else none)))))) else (bif Nat.blt pc 65 then (bif Nat.blt pc 53 then (bif Nat.blt pc 49 then (bif Nat.blt pc 47 then (bif Nat.blt pc 46 then (bif Nat.beq pc 45 then some (.iconst 1, 1, 0, 0) else none) else (bif Nat.beq pc 46 then some (.aaload, 1, 0, 0) else none)) else (bif Nat.blt pc 48 then (bif Nat.beq pc 47 then some (.iload_n 3, 1, 0, 0) else none) else (bif Nat.beq pc 48 then some (.dup2, 1, 0, 0) else none))) else (bif Nat.blt pc 51 then (bif Nat.blt pc 50 then (bif Nat.beq pc 49 then some (.iaload, 1, 0, 0) else none) else (bif Nat.beq pc 50 then some (.iconst 1, 1, 0, 0) else none)) else (bif Nat.blt pc 52 then (bif Nat.beq pc 51 then some (.iload_n 2, 1, 0, 0) else none) else (bif Nat.beq pc 52 then some (.ishl, 1, 0, 0) else none)))) else (bif Nat.blt pc 59 then (bif Nat.blt pc 55 then (bif Nat.blt pc 54 then (bif Nat.beq pc 53 then some (.ior, 1, 0, 0) else none) else (bif Nat.beq pc 54 then some (.iastore, 1, 0, 0) else none)) else (bif Nat.blt pc 56 then (bif Nat.beq pc 55 then some (.aload_n 1, 1, 0, 0) else none) else (bif Nat.beq pc 56 then some (.getfield 143, 3, 3, 3) else none))) else (bif Nat.blt pc 61 then (bif Nat.blt pc 60 then (bif Nat.beq pc 59 then some (.iload_n 3, 1, 0, 0) else none) else (bif Nat.beq pc 60 then some (.iaload, 1, 0, 0) else none)) else (bif Nat.blt pc 62 then (bif Nat.beq pc 61 then some (.aload_n 1, 1, 0, 0) else none) else (bif Nat.beq pc 62 then some (.getfield 143, 3, 3, 3) else none))))) else (bif Nat.blt pc 77 then (bif Nat.blt pc 71 then (bif Nat.blt pc 67 then (bif Nat.blt pc 66 then (bif Nat.beq pc 65 then some (.iload_n 2, 1, 0, 0) else none) else (bif Nat.beq pc 66 then some (.iaload, 1, 0, 0) else none)) else (bif Nat.blt pc 70 then (bif Nat.beq pc 67 then some (.if_icmp .eq (17), 3, 84, 0) else none) else (bif Nat.beq pc 70 then some (.aload_n 0, 1, 0, 0) else none))) else (bif Nat.blt pc 75 then (bif Nat.blt pc 74 then (bif Nat.beq pc 71 then some (.getfield 26, 3, 0, 7) else none) else (bif Nat.beq pc 74 then some (.iconst 4, 1, 0, 0) else none)) else (bif Nat.blt pc 76 then (bif Nat.beq pc 75 then some (.aaload, 1, 0, 0) else none) else (bif Nat.beq pc 76 then some (.iload_n 3, 1, 0, 0) else none)))) else (bif Nat.blt pc 81 then (bif Nat.blt pc 79 then (bif Nat.blt pc 78 then (bif Nat.beq pc 77 then some (.dup2, 1, 0, 0) else none) else (bif Nat.beq pc 78 then some (.iaload, 1, 0, 0) else none)) else (bif Nat.blt pc 80 then (bif Nat.beq pc 79 then some (.iconst 1, 1, 0, 0) else none) else (bif Nat.beq pc 80 then some (.iload_n 2, 1, 0, 0) else none))) else (bif Nat.blt pc 83 then (bif Nat.blt pc 82 then (bif Nat.beq pc 81 then some (.ishl, 1, 0, 0) else none) else (bif Nat.beq pc 82 then some (.ior, 1, 0, 0) else none)) else (bif Nat.blt pc 84 then (bif Nat.beq pc 83 then some (.iastore, 1, 0, 0) else none) else (bif Nat.beq pc 84 then some (.return_, 1, 0, 0) else none))))))) else none
theorem oxn_9 : ∀ pc, 85 ≤ pc → oxi_9 pc = none := fun pc h => by unfold oxi_9; rw [show Nat.blt pc 85 = false from ox_blt h]; rfl
theorem oxd_9 : ∀ pc e, oxi_9 pc = some e → decode prog_2_method_11_code pc = .ok (e.1, e.2.1) := ox_tab 85 oxn_9 (by decide +kernel)
theorem oxc_9 : ∀ pc e, oxi_9 pc = some e → ox_chk 0 pc e = true := ox_tab2 85 oxn_9 (by decide +kernel)
/-- OrderAxioms$Execution.fillMade(LOrderAxioms$Model;I)V -/
def oxi_10 (pc : Nat) : Option (Instr × Nat × Nat × Nat) := bif Nat.blt pc 124 then (bif Nat.blt pc 67 then (bif Nat.blt pc 22 then (bif Nat.blt pc 11 then (bif Nat.blt pc 5 then (bif Nat.blt pc 1 then (bif Nat.beq pc 0 then some (.aload_n 0, 1, 0, 0) else none) else (bif Nat.blt pc 4 then (bif Nat.beq pc 1 then some (.getfield 26, 3, 0, 7) else none) else (bif Nat.beq pc 4 then some (.aload_n 1, 1, 0, 0) else none))) else (bif Nat.blt pc 9 then (bif Nat.blt pc 8 then (bif Nat.beq pc 5 then some (.getfield 70, 3, 2, 3) else none) else (bif Nat.beq pc 8 then some (.iload_n 2, 1, 0, 0) else none)) else (bif Nat.blt pc 10 then (bif Nat.beq pc 9 then some (.iaload, 1, 0, 0) else none) else (bif Nat.beq pc 10 then some (.aaload, 1, 0, 0) else none)))) else (bif Nat.blt pc 16 then (bif Nat.blt pc 12 then (bif Nat.beq pc 11 then some (.astore_n 3, 1, 0, 0) else none) else (bif Nat.blt pc 13 then (bif Nat.beq pc 12 then some (.aload_n 0, 1, 0, 0) else none) else (bif Nat.beq pc 13 then some (.getfield 26, 3, 0, 7) else none))) else (bif Nat.blt pc 20 then (bif Nat.blt pc 17 then (bif Nat.beq pc 16 then some (.aload_n 1, 1, 0, 0) else none) else (bif Nat.beq pc 17 then some (.getfield 73, 3, 2, 4) else none)) else (bif Nat.blt pc 21 then (bif Nat.beq pc 20 then some (.iload_n 2, 1, 0, 0) else none) else (bif Nat.beq pc 21 then some (.iaload, 1, 0, 0) else none))))) else (bif Nat.blt pc 33 then (bif Nat.blt pc 26 then (bif Nat.blt pc 23 then (bif Nat.beq pc 22 then some (.aaload, 1, 0, 0) else none) else (bif Nat.blt pc 25 then (bif Nat.beq pc 23 then some (.astore 4, 2, 0, 0) else none) else (bif Nat.beq pc 25 then some (.aload_n 0, 1, 0, 0) else none))) else (bif Nat.blt pc 30 then (bif Nat.blt pc 29 then (bif Nat.beq pc 26 then some (.getfield 26, 3, 0, 7) else none) else (bif Nat.beq pc 29 then some (.iload_n 2, 1, 0, 0) else none)) else (bif Nat.blt pc 31 then (bif Nat.beq pc 30 then some (.aaload, 1, 0, 0) else none) else (bif Nat.beq pc 31 then some (.astore 5, 2, 0, 0) else none)))) else (bif Nat.blt pc 38 then (bif Nat.blt pc 34 then (bif Nat.beq pc 33 then some (.aload_n 1, 1, 0, 0) else none) else (bif Nat.blt pc 37 then (bif Nat.beq pc 34 then some (.getfield 146, 3, 2, 2) else none) else (bif Nat.beq pc 37 then some (.iload_n 2, 1, 0, 0) else none))) else (bif Nat.blt pc 64 then (bif Nat.blt pc 39 then (bif Nat.beq pc 38 then some (.iaload, 1, 0, 0) else none) else (bif Nat.beq pc 39 then some (.tableswitch (66) (3) (5) #[25, 40, 53], 25, 0, 0) else none)) else (bif Nat.blt pc 66 then (bif Nat.beq pc 64 then some (.aload 5, 2, 0, 0) else none) else (bif Nat.beq pc 66 then some (.aload_n 3, 1, 0, 0) else none)))))) else (bif Nat.blt pc 96 then (bif Nat.blt pc 82 then (bif Nat.blt pc 73 then (bif Nat.blt pc 69 then (bif Nat.beq pc 67 then some (.aload 4, 2, 0, 0) else none) else (bif Nat.blt pc 70 then (bif Nat.beq pc 69 then some (.aload_n 0, 1, 0, 0) else none) else (bif Nat.beq pc 70 then some (.getfield 48, 3, 0, 0) else none))) else (bif Nat.blt pc 79 then (bif Nat.blt pc 76 then (bif Nat.beq pc 73 then some (.invokestatic 149, 3, 94, 4) else none) else (bif Nat.beq pc 76 then some (.goto (47), 3, 123, 0) else none)) else (bif Nat.blt pc 81 then (bif Nat.beq pc 79 then some (.aload 5, 2, 0, 0) else none) else (bif Nat.beq pc 81 then some (.aload_n 3, 1, 0, 0) else none)))) else (bif Nat.blt pc 89 then (bif Nat.blt pc 83 then (bif Nat.beq pc 82 then some (.aload_n 0, 1, 0, 0) else none) else (bif Nat.blt pc 86 then (bif Nat.beq pc 83 then some (.getfield 48, 3, 0, 0) else none) else (bif Nat.beq pc 86 then some (.invokestatic 153, 3, 95, 3) else none))) else (bif Nat.blt pc 94 then (bif Nat.blt pc 92 then (bif Nat.beq pc 89 then some (.goto (34), 3, 123, 0) else none) else (bif Nat.beq pc 92 then some (.aload 5, 2, 0, 0) else none)) else (bif Nat.blt pc 95 then (bif Nat.beq pc 94 then some (.aload_n 3, 1, 0, 0) else none) else (bif Nat.beq pc 95 then some (.aload_n 0, 1, 0, 0) else none))))) else (bif Nat.blt pc 111 then (bif Nat.blt pc 105 then (bif Nat.blt pc 99 then (bif Nat.beq pc 96 then some (.getfield 48, 3, 0, 0) else none) else (bif Nat.blt pc 102 then (bif Nat.beq pc 99 then some (.invokestatic 157, 3, 96, 3) else none) else (bif Nat.beq pc 102 then some (.goto (21), 3, 123, 0) else none))) else (bif Nat.blt pc 108 then (bif Nat.blt pc 107 then (bif Nat.beq pc 105 then some (.aload 5, 2, 0, 0) else none) else (bif Nat.beq pc 107 then some (.aload_n 3, 1, 0, 0) else none)) else (bif Nat.blt pc 110 then (bif Nat.beq pc 108 then some (.aload 4, 2, 0, 0) else none) else (bif Nat.beq pc 110 then some (.aload_n 1, 1, 0, 0) else none)))) else (bif Nat.blt pc 116 then (bif Nat.blt pc 114 then (bif Nat.beq pc 111 then some (.getfield 146, 3, 2, 2) else none) else (bif Nat.blt pc 115 then (bif Nat.beq pc 114 then some (.iload_n 2, 1, 0, 0) else none) else (bif Nat.beq pc 115 then some (.iaload, 1, 0, 0) else none))) else (bif Nat.blt pc 120 then (bif Nat.blt pc 117 then (bif Nat.beq pc 116 then some (.aload_n 0, 1, 0, 0) else none) else (bif Nat.beq pc 117 then some (.getfield 48, 3, 0, 0) else none)) else (bif Nat.blt pc 123 then (bif Nat.beq pc 120 then some (.invokestatic 160, 3, 93, 5) else none) else (bif Nat.beq pc 123 then some (.return_, 1, 0, 0) else none))))))) else none
theorem oxn_10 : ∀ pc, 124 ≤ pc → oxi_10 pc = none := fun pc h => by unfold oxi_10; rw [show Nat.blt pc 124 = false from ox_blt h]; rfl
theorem oxd_10 : ∀ pc e, oxi_10 pc = some e → decode prog_2_method_12_code pc = .ok (e.1, e.2.1) := ox_tab 124 oxn_10 (by decide +kernel)
theorem oxc_10 : ∀ pc e, oxi_10 pc = some e → ox_chk 0 pc e = true := ox_tab2 124 oxn_10 (by decide +kernel)
/-- OrderAxioms$Listing.begin(LOrderAxioms$Program;I)V -/
def oxi_11 (pc : Nat) : Option (Instr × Nat × Nat × Nat) := bif Nat.blt pc 93 then (bif Nat.blt pc 44 then (bif Nat.blt pc 23 then (bif Nat.blt pc 10 then (bif Nat.blt pc 5 then (bif Nat.blt pc 1 then (bif Nat.beq pc 0 then some (.aload_n 0, 1, 0, 0) else none) else (bif Nat.blt pc 2 then (bif Nat.beq pc 1 then some (.iload_n 2, 1, 0, 0) else none) else (bif Nat.beq pc 2 then some (.putfield 35, 3, 1, 0) else none))) else (bif Nat.blt pc 6 then (bif Nat.beq pc 5 then some (.aload_n 0, 1, 0, 0) else none) else (bif Nat.blt pc 7 then (bif Nat.beq pc 6 then some (.iconst 0, 1, 0, 0) else none) else (bif Nat.beq pc 7 then some (.putfield 39, 3, 1, 1) else none)))) else (bif Nat.blt pc 15 then (bif Nat.blt pc 11 then (bif Nat.beq pc 10 then some (.aload_n 0, 1, 0, 0) else none) else (bif Nat.blt pc 12 then (bif Nat.beq pc 11 then some (.iconst 0, 1, 0, 0) else none) else (bif Nat.beq pc 12 then some (.putfield 42, 3, 1, 2) else none))) else (bif Nat.blt pc 17 then (bif Nat.blt pc 16 then (bif Nat.beq pc 15 then some (.aload_n 0, 1, 0, 0) else none) else (bif Nat.beq pc 16 then some (.aload_n 1, 1, 0, 0) else none)) else (bif Nat.blt pc 20 then (bif Nat.beq pc 17 then some (.getfield 45, 3, 3, 2) else none) else (bif Nat.beq pc 20 then some (.putfield 50, 3, 1, 3) else none))))) else (bif Nat.blt pc 33 then (bif Nat.blt pc 26 then (bif Nat.blt pc 24 then (bif Nat.beq pc 23 then some (.iconst 0, 1, 0, 0) else none) else (bif Nat.blt pc 25 then (bif Nat.beq pc 24 then some (.istore_n 3, 1, 0, 0) else none) else (bif Nat.beq pc 25 then some (.iload_n 3, 1, 0, 0) else none))) else (bif Nat.blt pc 27 then (bif Nat.beq pc 26 then some (.aload_n 0, 1, 0, 0) else none) else (bif Nat.blt pc 30 then (bif Nat.beq pc 27 then some (.getfield 50, 3, 1, 3) else none) else (bif Nat.beq pc 30 then some (.if_icmp .ge (20), 3, 50, 0) else none)))) else (bif Nat.blt pc 38 then (bif Nat.blt pc 34 then (bif Nat.beq pc 33 then some (.aload_n 0, 1, 0, 0) else none) else (bif Nat.blt pc 37 then (bif Nat.beq pc 34 then some (.getfield 21, 3, 1, 7) else none) else (bif Nat.beq pc 37 then some (.iload_n 3, 1, 0, 0) else none))) else (bif Nat.blt pc 40 then (bif Nat.blt pc 39 then (bif Nat.beq pc 38 then some (.aload_n 1, 1, 0, 0) else none) else (bif Nat.beq pc 39 then some (.iload_n 3, 1, 0, 0) else none)) else (bif Nat.blt pc 43 then (bif Nat.beq pc 40 then some (.invokevirtual 51, 3, 27, 2) else none) else (bif Nat.beq pc 43 then some (.iastore, 1, 0, 0) else none)))))) else (bif Nat.blt pc 69 then (bif Nat.blt pc 54 then (bif Nat.blt pc 51 then (bif Nat.blt pc 47 then (bif Nat.beq pc 44 then some (.iinc 3 1, 3, 0, 0) else none) else (bif Nat.blt pc 50 then (bif Nat.beq pc 47 then some (.goto (-22), 3, 25, 0) else none) else (bif Nat.beq pc 50 then some (.iconst 0, 1, 0, 0) else none))) else (bif Nat.blt pc 52 then (bif Nat.beq pc 51 then some (.istore_n 3, 1, 0, 0) else none) else (bif Nat.blt pc 53 then (bif Nat.beq pc 52 then some (.iload_n 3, 1, 0, 0) else none) else (bif Nat.beq pc 53 then some (.iconst 4, 1, 0, 0) else none)))) else (bif Nat.blt pc 59 then (bif Nat.blt pc 57 then (bif Nat.beq pc 54 then some (.if_icmp .ge (15), 3, 69, 0) else none) else (bif Nat.blt pc 58 then (bif Nat.beq pc 57 then some (.aload_n 0, 1, 0, 0) else none) else (bif Nat.beq pc 58 then some (.aload_n 1, 1, 0, 0) else none))) else (bif Nat.blt pc 63 then (bif Nat.blt pc 60 then (bif Nat.beq pc 59 then some (.iload_n 3, 1, 0, 0) else none) else (bif Nat.beq pc 60 then some (.invokevirtual 55, 3, 16, 3) else none)) else (bif Nat.blt pc 66 then (bif Nat.beq pc 63 then some (.iinc 3 1, 3, 0, 0) else none) else (bif Nat.beq pc 66 then some (.goto (-14), 3, 52, 0) else none))))) else (bif Nat.blt pc 80 then (bif Nat.blt pc 72 then (bif Nat.blt pc 70 then (bif Nat.beq pc 69 then some (.iconst 0, 1, 0, 0) else none) else (bif Nat.blt pc 71 then (bif Nat.beq pc 70 then some (.istore_n 3, 1, 0, 0) else none) else (bif Nat.beq pc 71 then some (.iload_n 3, 1, 0, 0) else none))) else (bif Nat.blt pc 76 then (bif Nat.blt pc 73 then (bif Nat.beq pc 72 then some (.aload_n 0, 1, 0, 0) else none) else (bif Nat.beq pc 73 then some (.getfield 35, 3, 1, 0) else none)) else (bif Nat.blt pc 79 then (bif Nat.beq pc 76 then some (.if_icmp .ge (16), 3, 92, 0) else none) else (bif Nat.beq pc 79 then some (.aload_n 0, 1, 0, 0) else none)))) else (bif Nat.blt pc 85 then (bif Nat.blt pc 83 then (bif Nat.beq pc 80 then some (.getfield 9, 3, 1, 4) else none) else (bif Nat.blt pc 84 then (bif Nat.beq pc 83 then some (.iload_n 3, 1, 0, 0) else none) else (bif Nat.beq pc 84 then some (.iconst 0, 1, 0, 0) else none))) else (bif Nat.blt pc 89 then (bif Nat.blt pc 86 then (bif Nat.beq pc 85 then some (.iastore, 1, 0, 0) else none) else (bif Nat.beq pc 86 then some (.iinc 3 1, 3, 0, 0) else none)) else (bif Nat.blt pc 92 then (bif Nat.beq pc 89 then some (.goto (-18), 3, 71, 0) else none) else (bif Nat.beq pc 92 then some (.return_, 1, 0, 0) else none))))))) else none
theorem oxn_11 : ∀ pc, 93 ≤ pc → oxi_11 pc = none := fun pc h => by unfold oxi_11; rw [show Nat.blt pc 93 = false from ox_blt h]; rfl
theorem oxd_11 : ∀ pc e, oxi_11 pc = some e → decode prog_3_method_2_code pc = .ok (e.1, e.2.1) := ox_tab 93 oxn_11 (by decide +kernel)
theorem oxc_11 : ∀ pc e, oxi_11 pc = some e → ox_chk 1 pc e = true := ox_tab2 93 oxn_11 (by decide +kernel)
/-- OrderAxioms$Listing.addAllowed(I[I)V -/
def oxi_12 (pc : Nat) : Option (Instr × Nat × Nat × Nat) := bif Nat.blt pc 89 then (bif Nat.blt pc 45 then (bif Nat.blt pc 24 then (bif Nat.blt pc 11 then (bif Nat.blt pc 3 then (bif Nat.blt pc 1 then (bif Nat.beq pc 0 then some (.iconst 0, 1, 0, 0) else none) else (bif Nat.blt pc 2 then (bif Nat.beq pc 1 then some (.istore_n 3, 1, 0, 0) else none) else (bif Nat.beq pc 2 then some (.iconst 0, 1, 0, 0) else none))) else (bif Nat.blt pc 7 then (bif Nat.blt pc 5 then (bif Nat.beq pc 3 then some (.istore 4, 2, 0, 0) else none) else (bif Nat.beq pc 5 then some (.iload 4, 2, 0, 0) else none)) else (bif Nat.blt pc 8 then (bif Nat.beq pc 7 then some (.aload_n 0, 1, 0, 0) else none) else (bif Nat.beq pc 8 then some (.getfield 50, 3, 1, 3) else none)))) else (bif Nat.blt pc 18 then (bif Nat.blt pc 14 then (bif Nat.beq pc 11 then some (.if_icmp .ge (41), 3, 52, 0) else none) else (bif Nat.blt pc 15 then (bif Nat.beq pc 14 then some (.aload_n 0, 1, 0, 0) else none) else (bif Nat.beq pc 15 then some (.getfield 21, 3, 1, 7) else none))) else (bif Nat.blt pc 21 then (bif Nat.blt pc 20 then (bif Nat.beq pc 18 then some (.iload 4, 2, 0, 0) else none) else (bif Nat.beq pc 20 then some (.iaload, 1, 0, 0) else none)) else (bif Nat.blt pc 23 then (bif Nat.beq pc 21 then some (.istore 5, 2, 0, 0) else none) else (bif Nat.beq pc 23 then some (.iload_n 3, 1, 0, 0) else none))))) else (bif Nat.blt pc 36 then (bif Nat.blt pc 30 then (bif Nat.blt pc 25 then (bif Nat.beq pc 24 then some (.aload_n 0, 1, 0, 0) else none) else (bif Nat.blt pc 28 then (bif Nat.beq pc 25 then some (.getfield 24, 3, 1, 8) else none) else (bif Nat.beq pc 28 then some (.iload 5, 2, 0, 0) else none))) else (bif Nat.blt pc 32 then (bif Nat.blt pc 31 then (bif Nat.beq pc 30 then some (.iaload, 1, 0, 0) else none) else (bif Nat.beq pc 31 then some (.imul, 1, 0, 0) else none)) else (bif Nat.blt pc 33 then (bif Nat.beq pc 32 then some (.aload_n 0, 1, 0, 0) else none) else (bif Nat.beq pc 33 then some (.getfield 32, 3, 1, 10) else none)))) else (bif Nat.blt pc 40 then (bif Nat.blt pc 38 then (bif Nat.beq pc 36 then some (.iload 5, 2, 0, 0) else none) else (bif Nat.blt pc 39 then (bif Nat.beq pc 38 then some (.aaload, 1, 0, 0) else none) else (bif Nat.beq pc 39 then some (.aload_n 2, 1, 0, 0) else none))) else (bif Nat.blt pc 43 then (bif Nat.blt pc 42 then (bif Nat.beq pc 40 then some (.iload 4, 2, 0, 0) else none) else (bif Nat.beq pc 42 then some (.iaload, 1, 0, 0) else none)) else (bif Nat.blt pc 44 then (bif Nat.beq pc 43 then some (.iaload, 1, 0, 0) else none) else (bif Nat.beq pc 44 then some (.iadd, 1, 0, 0) else none)))))) else (bif Nat.blt pc 69 then (bif Nat.blt pc 58 then (bif Nat.blt pc 52 then (bif Nat.blt pc 46 then (bif Nat.beq pc 45 then some (.istore_n 3, 1, 0, 0) else none) else (bif Nat.blt pc 49 then (bif Nat.beq pc 46 then some (.iinc 4 1, 3, 0, 0) else none) else (bif Nat.beq pc 49 then some (.goto (-44), 3, 5, 0) else none))) else (bif Nat.blt pc 56 then (bif Nat.blt pc 53 then (bif Nat.beq pc 52 then some (.aload_n 0, 1, 0, 0) else none) else (bif Nat.beq pc 53 then some (.getfield 9, 3, 1, 4) else none)) else (bif Nat.blt pc 57 then (bif Nat.beq pc 56 then some (.iload_n 3, 1, 0, 0) else none) else (bif Nat.beq pc 57 then some (.iaload, 1, 0, 0) else none)))) else (bif Nat.blt pc 65 then (bif Nat.blt pc 61 then (bif Nat.beq pc 58 then some (.ifCond .ne (10), 3, 68, 0) else none) else (bif Nat.blt pc 62 then (bif Nat.beq pc 61 then some (.aload_n 0, 1, 0, 0) else none) else (bif Nat.beq pc 62 then some (.getfield 15, 3, 1, 5) else none))) else (bif Nat.blt pc 67 then (bif Nat.blt pc 66 then (bif Nat.beq pc 65 then some (.iload_n 3, 1, 0, 0) else none) else (bif Nat.beq pc 66 then some (.iload_n 1, 1, 0, 0) else none)) else (bif Nat.blt pc 68 then (bif Nat.beq pc 67 then some (.iastore, 1, 0, 0) else none) else (bif Nat.beq pc 68 then some (.aload_n 0, 1, 0, 0) else none))))) else (bif Nat.blt pc 78 then (bif Nat.blt pc 74 then (bif Nat.blt pc 72 then (bif Nat.beq pc 69 then some (.getfield 9, 3, 1, 4) else none) else (bif Nat.blt pc 73 then (bif Nat.beq pc 72 then some (.iload_n 3, 1, 0, 0) else none) else (bif Nat.beq pc 73 then some (.dup2, 1, 0, 0) else none))) else (bif Nat.blt pc 76 then (bif Nat.blt pc 75 then (bif Nat.beq pc 74 then some (.iaload, 1, 0, 0) else none) else (bif Nat.beq pc 75 then some (.iconst 1, 1, 0, 0) else none)) else (bif Nat.blt pc 77 then (bif Nat.beq pc 76 then some (.iadd, 1, 0, 0) else none) else (bif Nat.beq pc 77 then some (.iastore, 1, 0, 0) else none)))) else (bif Nat.blt pc 83 then (bif Nat.blt pc 79 then (bif Nat.beq pc 78 then some (.aload_n 0, 1, 0, 0) else none) else (bif Nat.blt pc 80 then (bif Nat.beq pc 79 then some (.dup, 1, 0, 0) else none) else (bif Nat.beq pc 80 then some (.getfield 39, 3, 1, 1) else none))) else (bif Nat.blt pc 85 then (bif Nat.blt pc 84 then (bif Nat.beq pc 83 then some (.iconst 1, 1, 0, 0) else none) else (bif Nat.beq pc 84 then some (.iadd, 1, 0, 0) else none)) else (bif Nat.blt pc 88 then (bif Nat.beq pc 85 then some (.putfield 39, 3, 1, 1) else none) else (bif Nat.beq pc 88 then some (.return_, 1, 0, 0) else none))))))) else none
theorem oxn_12 : ∀ pc, 89 ≤ pc → oxi_12 pc = none := fun pc h => by unfold oxi_12; rw [show Nat.blt pc 89 = false from ox_blt h]; rfl
theorem oxd_12 : ∀ pc e, oxi_12 pc = some e → decode prog_3_method_3_code pc = .ok (e.1, e.2.1) := ox_tab 89 oxn_12 (by decide +kernel)
theorem oxc_12 : ∀ pc e, oxi_12 pc = some e → ox_chk 1 pc e = true := ox_tab2 89 oxn_12 (by decide +kernel)
/-- OrderAxioms$Listing.finish()V -/
def oxi_13 (pc : Nat) : Option (Instr × Nat × Nat × Nat) := bif Nat.blt pc 76 then (bif Nat.blt pc 38 then (bif Nat.blt pc 19 then (bif Nat.blt pc 7 then (bif Nat.blt pc 2 then (bif Nat.blt pc 1 then (bif Nat.beq pc 0 then some (.iconst 0, 1, 0, 0) else none) else (bif Nat.beq pc 1 then some (.istore_n 1, 1, 0, 0) else none)) else (bif Nat.blt pc 3 then (bif Nat.beq pc 2 then some (.iload_n 1, 1, 0, 0) else none) else (bif Nat.blt pc 4 then (bif Nat.beq pc 3 then some (.aload_n 0, 1, 0, 0) else none) else (bif Nat.beq pc 4 then some (.getfield 35, 3, 1, 0) else none)))) else (bif Nat.blt pc 14 then (bif Nat.blt pc 10 then (bif Nat.beq pc 7 then some (.if_icmp .ge (68), 3, 75, 0) else none) else (bif Nat.blt pc 11 then (bif Nat.beq pc 10 then some (.aload_n 0, 1, 0, 0) else none) else (bif Nat.beq pc 11 then some (.getfield 9, 3, 1, 4) else none))) else (bif Nat.blt pc 15 then (bif Nat.beq pc 14 then some (.iload_n 1, 1, 0, 0) else none) else (bif Nat.blt pc 16 then (bif Nat.beq pc 15 then some (.iaload, 1, 0, 0) else none) else (bif Nat.beq pc 16 then some (.ifCond .eq (53), 3, 69, 0) else none))))) else (bif Nat.blt pc 28 then (bif Nat.blt pc 23 then (bif Nat.blt pc 20 then (bif Nat.beq pc 19 then some (.aload_n 0, 1, 0, 0) else none) else (bif Nat.beq pc 20 then some (.getfield 18, 3, 1, 6) else none)) else (bif Nat.blt pc 24 then (bif Nat.beq pc 23 then some (.aload_n 0, 1, 0, 0) else none) else (bif Nat.blt pc 27 then (bif Nat.beq pc 24 then some (.getfield 42, 3, 1, 2) else none) else (bif Nat.beq pc 27 then some (.iload_n 1, 1, 0, 0) else none)))) else (bif Nat.blt pc 33 then (bif Nat.blt pc 29 then (bif Nat.beq pc 28 then some (.iastore, 1, 0, 0) else none) else (bif Nat.blt pc 30 then (bif Nat.beq pc 29 then some (.aload_n 0, 1, 0, 0) else none) else (bif Nat.beq pc 30 then some (.getfield 9, 3, 1, 4) else none))) else (bif Nat.blt pc 34 then (bif Nat.beq pc 33 then some (.aload_n 0, 1, 0, 0) else none) else (bif Nat.blt pc 37 then (bif Nat.beq pc 34 then some (.getfield 42, 3, 1, 2) else none) else (bif Nat.beq pc 37 then some (.aload_n 0, 1, 0, 0) else none)))))) else (bif Nat.blt pc 57 then (bif Nat.blt pc 45 then (bif Nat.blt pc 42 then (bif Nat.blt pc 41 then (bif Nat.beq pc 38 then some (.getfield 9, 3, 1, 4) else none) else (bif Nat.beq pc 41 then some (.iload_n 1, 1, 0, 0) else none)) else (bif Nat.blt pc 43 then (bif Nat.beq pc 42 then some (.iaload, 1, 0, 0) else none) else (bif Nat.blt pc 44 then (bif Nat.beq pc 43 then some (.iastore, 1, 0, 0) else none) else (bif Nat.beq pc 44 then some (.aload_n 0, 1, 0, 0) else none)))) else (bif Nat.blt pc 52 then (bif Nat.blt pc 48 then (bif Nat.beq pc 45 then some (.getfield 15, 3, 1, 5) else none) else (bif Nat.blt pc 49 then (bif Nat.beq pc 48 then some (.aload_n 0, 1, 0, 0) else none) else (bif Nat.beq pc 49 then some (.getfield 42, 3, 1, 2) else none))) else (bif Nat.blt pc 53 then (bif Nat.beq pc 52 then some (.aload_n 0, 1, 0, 0) else none) else (bif Nat.blt pc 56 then (bif Nat.beq pc 53 then some (.getfield 15, 3, 1, 5) else none) else (bif Nat.beq pc 56 then some (.iload_n 1, 1, 0, 0) else none))))) else (bif Nat.blt pc 64 then (bif Nat.blt pc 59 then (bif Nat.blt pc 58 then (bif Nat.beq pc 57 then some (.iaload, 1, 0, 0) else none) else (bif Nat.beq pc 58 then some (.iastore, 1, 0, 0) else none)) else (bif Nat.blt pc 60 then (bif Nat.beq pc 59 then some (.aload_n 0, 1, 0, 0) else none) else (bif Nat.blt pc 61 then (bif Nat.beq pc 60 then some (.dup, 1, 0, 0) else none) else (bif Nat.beq pc 61 then some (.getfield 42, 3, 1, 2) else none)))) else (bif Nat.blt pc 69 then (bif Nat.blt pc 65 then (bif Nat.beq pc 64 then some (.iconst 1, 1, 0, 0) else none) else (bif Nat.blt pc 66 then (bif Nat.beq pc 65 then some (.iadd, 1, 0, 0) else none) else (bif Nat.beq pc 66 then some (.putfield 42, 3, 1, 2) else none))) else (bif Nat.blt pc 72 then (bif Nat.beq pc 69 then some (.iinc 1 1, 3, 0, 0) else none) else (bif Nat.blt pc 75 then (bif Nat.beq pc 72 then some (.goto (-70), 3, 2, 0) else none) else (bif Nat.beq pc 75 then some (.return_, 1, 0, 0) else none))))))) else none
theorem oxn_13 : ∀ pc, 76 ≤ pc → oxi_13 pc = none := fun pc h => by unfold oxi_13; rw [show Nat.blt pc 76 = false from ox_blt h]; rfl
theorem oxd_13 : ∀ pc e, oxi_13 pc = some e → decode prog_3_method_4_code pc = .ok (e.1, e.2.1) := ox_tab 76 oxn_13 (by decide +kernel)
theorem oxc_13 : ∀ pc e, oxi_13 pc = some e → ox_chk 1 pc e = true := ox_tab2 76 oxn_13 (by decide +kernel)
/-- OrderAxioms$Listing.valueRead(II)I -/
def oxi_14 (pc : Nat) : Option (Instr × Nat × Nat × Nat) := bif Nat.blt pc 56 then (bif Nat.blt pc 28 then (bif Nat.blt pc 12 then (bif Nat.blt pc 6 then (bif Nat.blt pc 4 then (bif Nat.blt pc 1 then (bif Nat.beq pc 0 then some (.aload_n 0, 1, 0, 0) else none) else (bif Nat.beq pc 1 then some (.getfield 18, 3, 1, 6) else none)) else (bif Nat.blt pc 5 then (bif Nat.beq pc 4 then some (.iload_n 1, 1, 0, 0) else none) else (bif Nat.beq pc 5 then some (.iaload, 1, 0, 0) else none))) else (bif Nat.blt pc 8 then (bif Nat.blt pc 7 then (bif Nat.beq pc 6 then some (.istore_n 3, 1, 0, 0) else none) else (bif Nat.beq pc 7 then some (.aload_n 0, 1, 0, 0) else none)) else (bif Nat.blt pc 11 then (bif Nat.beq pc 8 then some (.getfield 50, 3, 1, 3) else none) else (bif Nat.beq pc 11 then some (.iconst 1, 1, 0, 0) else none)))) else (bif Nat.blt pc 18 then (bif Nat.blt pc 15 then (bif Nat.blt pc 13 then (bif Nat.beq pc 12 then some (.isub, 1, 0, 0) else none) else (bif Nat.beq pc 13 then some (.istore 4, 2, 0, 0) else none)) else (bif Nat.blt pc 17 then (bif Nat.beq pc 15 then some (.iload 4, 2, 0, 0) else none) else (bif Nat.beq pc 17 then some (.iload_n 2, 1, 0, 0) else none))) else (bif Nat.blt pc 22 then (bif Nat.blt pc 21 then (bif Nat.beq pc 18 then some (.if_icmp .le (18), 3, 36, 0) else none) else (bif Nat.beq pc 21 then some (.iload_n 3, 1, 0, 0) else none)) else (bif Nat.blt pc 23 then (bif Nat.beq pc 22 then some (.aload_n 0, 1, 0, 0) else none) else (bif Nat.blt pc 25 then (bif Nat.beq pc 23 then some (.iload 4, 2, 0, 0) else none) else (bif Nat.beq pc 25 then some (.invokevirtual 59, 3, 15, 2) else none)))))) else (bif Nat.blt pc 45 then (bif Nat.blt pc 36 then (bif Nat.blt pc 30 then (bif Nat.blt pc 29 then (bif Nat.beq pc 28 then some (.idiv, 1, 0, 0) else none) else (bif Nat.beq pc 29 then some (.istore_n 3, 1, 0, 0) else none)) else (bif Nat.blt pc 33 then (bif Nat.beq pc 30 then some (.iinc 4 (-1), 3, 0, 0) else none) else (bif Nat.beq pc 33 then some (.goto (-18), 3, 15, 0) else none))) else (bif Nat.blt pc 40 then (bif Nat.blt pc 37 then (bif Nat.beq pc 36 then some (.aload_n 0, 1, 0, 0) else none) else (bif Nat.beq pc 37 then some (.getfield 29, 3, 1, 9) else none)) else (bif Nat.blt pc 41 then (bif Nat.beq pc 40 then some (.aload_n 0, 1, 0, 0) else none) else (bif Nat.blt pc 44 then (bif Nat.beq pc 41 then some (.getfield 21, 3, 1, 7) else none) else (bif Nat.beq pc 44 then some (.iload_n 2, 1, 0, 0) else none))))) else (bif Nat.blt pc 49 then (bif Nat.blt pc 47 then (bif Nat.blt pc 46 then (bif Nat.beq pc 45 then some (.iaload, 1, 0, 0) else none) else (bif Nat.beq pc 46 then some (.aaload, 1, 0, 0) else none)) else (bif Nat.blt pc 48 then (bif Nat.beq pc 47 then some (.iload_n 3, 1, 0, 0) else none) else (bif Nat.beq pc 48 then some (.aload_n 0, 1, 0, 0) else none))) else (bif Nat.blt pc 53 then (bif Nat.blt pc 50 then (bif Nat.beq pc 49 then some (.iload_n 2, 1, 0, 0) else none) else (bif Nat.beq pc 50 then some (.invokevirtual 59, 3, 15, 2) else none)) else (bif Nat.blt pc 54 then (bif Nat.beq pc 53 then some (.irem, 1, 0, 0) else none) else (bif Nat.blt pc 55 then (bif Nat.beq pc 54 then some (.iaload, 1, 0, 0) else none) else (bif Nat.beq pc 55 then some (.ireturn, 1, 0, 0) else none))))))) else none
theorem oxn_14 : ∀ pc, 56 ≤ pc → oxi_14 pc = none := fun pc h => by unfold oxi_14; rw [show Nat.blt pc 56 = false from ox_blt h]; rfl
theorem oxd_14 : ∀ pc e, oxi_14 pc = some e → decode prog_3_method_5_code pc = .ok (e.1, e.2.1) := ox_tab 56 oxn_14 (by decide +kernel)
theorem oxc_14 : ∀ pc e, oxi_14 pc = some e → ox_chk 1 pc e = true := ox_tab2 56 oxn_14 (by decide +kernel)
/-- OrderAxioms$Listing.countAt(I)I -/
def oxi_15 (pc : Nat) : Option (Instr × Nat × Nat × Nat) := bif Nat.blt pc 16 then (bif Nat.blt pc 9 then (bif Nat.blt pc 2 then (bif Nat.blt pc 1 then (bif Nat.beq pc 0 then some (.iconst 1, 1, 0, 0) else none) else (bif Nat.beq pc 1 then some (.aload_n 0, 1, 0, 0) else none)) else (bif Nat.blt pc 5 then (bif Nat.beq pc 2 then some (.getfield 24, 3, 1, 8) else none) else (bif Nat.blt pc 6 then (bif Nat.beq pc 5 then some (.aload_n 0, 1, 0, 0) else none) else (bif Nat.beq pc 6 then some (.getfield 21, 3, 1, 7) else none)))) else (bif Nat.blt pc 11 then (bif Nat.blt pc 10 then (bif Nat.beq pc 9 then some (.iload_n 1, 1, 0, 0) else none) else (bif Nat.beq pc 10 then some (.iaload, 1, 0, 0) else none)) else (bif Nat.blt pc 12 then (bif Nat.beq pc 11 then some (.iaload, 1, 0, 0) else none) else (bif Nat.blt pc 15 then (bif Nat.beq pc 12 then some (.invokestatic 62, 3, 901, 2) else none) else (bif Nat.beq pc 15 then some (.ireturn, 1, 0, 0) else none))))) else none
theorem oxn_15 : ∀ pc, 16 ≤ pc → oxi_15 pc = none := fun pc h => by unfold oxi_15; rw [show Nat.blt pc 16 = false from ox_blt h]; rfl
theorem oxd_15 : ∀ pc e, oxi_15 pc = some e → decode prog_3_method_6_code pc = .ok (e.1, e.2.1) := ox_tab 16 oxn_15 (by decide +kernel)
theorem oxc_15 : ∀ pc e, oxi_15 pc = some e → ox_chk 1 pc e = true := ox_tab2 16 oxn_15 (by decide +kernel)
/-- OrderAxioms$Listing.rankValues(LOrderAxioms$Program;I)V -/
def oxi_16 (pc : Nat) : Option (Instr × Nat × Nat × Nat) := bif Nat.blt pc 117 then (bif Nat.blt pc 58 then (bif Nat.blt pc 24 then (bif Nat.blt pc 13 then (bif Nat.blt pc 6 then (bif Nat.blt pc 4 then (bif Nat.blt pc 1 then (bif Nat.beq pc 0 then some (.aload_n 0, 1, 0, 0) else none) else (bif Nat.beq pc 1 then some (.getfield 29, 3, 1, 9) else none)) else (bif Nat.blt pc 5 then (bif Nat.beq pc 4 then some (.iload_n 2, 1, 0, 0) else none) else (bif Nat.beq pc 5 then some (.aaload, 1, 0, 0) else none))) else (bif Nat.blt pc 8 then (bif Nat.blt pc 7 then (bif Nat.beq pc 6 then some (.iconst 0, 1, 0, 0) else none) else (bif Nat.beq pc 7 then some (.iconst 0, 1, 0, 0) else none)) else (bif Nat.blt pc 9 then (bif Nat.beq pc 8 then some (.iastore, 1, 0, 0) else none) else (bif Nat.blt pc 10 then (bif Nat.beq pc 9 then some (.aload_n 0, 1, 0, 0) else none) else (bif Nat.beq pc 10 then some (.getfield 24, 3, 1, 8) else none))))) else (bif Nat.blt pc 17 then (bif Nat.blt pc 15 then (bif Nat.blt pc 14 then (bif Nat.beq pc 13 then some (.iload_n 2, 1, 0, 0) else none) else (bif Nat.beq pc 14 then some (.iconst 1, 1, 0, 0) else none)) else (bif Nat.blt pc 16 then (bif Nat.beq pc 15 then some (.iastore, 1, 0, 0) else none) else (bif Nat.beq pc 16 then some (.aload_n 1, 1, 0, 0) else none))) else (bif Nat.blt pc 21 then (bif Nat.blt pc 20 then (bif Nat.beq pc 17 then some (.getfield 68, 3, 3, 9) else none) else (bif Nat.beq pc 20 then some (.iload_n 2, 1, 0, 0) else none)) else (bif Nat.blt pc 22 then (bif Nat.beq pc 21 then some (.iaload, 1, 0, 0) else none) else (bif Nat.blt pc 23 then (bif Nat.beq pc 22 then some (.istore_n 3, 1, 0, 0) else none) else (bif Nat.beq pc 23 then some (.iconst 0, 1, 0, 0) else none)))))) else (bif Nat.blt pc 39 then (bif Nat.blt pc 32 then (bif Nat.blt pc 28 then (bif Nat.blt pc 26 then (bif Nat.beq pc 24 then some (.istore 4, 2, 0, 0) else none) else (bif Nat.beq pc 26 then some (.iload 4, 2, 0, 0) else none)) else (bif Nat.blt pc 29 then (bif Nat.beq pc 28 then some (.iload_n 3, 1, 0, 0) else none) else (bif Nat.beq pc 29 then some (.if_icmp .ge (28), 3, 57, 0) else none))) else (bif Nat.blt pc 34 then (bif Nat.blt pc 33 then (bif Nat.beq pc 32 then some (.aload_n 0, 1, 0, 0) else none) else (bif Nat.beq pc 33 then some (.iload_n 2, 1, 0, 0) else none)) else (bif Nat.blt pc 35 then (bif Nat.beq pc 34 then some (.aload_n 1, 1, 0, 0) else none) else (bif Nat.blt pc 38 then (bif Nat.beq pc 35 then some (.getfield 71, 3, 3, 6) else none) else (bif Nat.beq pc 38 then some (.aload_n 1, 1, 0, 0) else none))))) else (bif Nat.blt pc 47 then (bif Nat.blt pc 43 then (bif Nat.blt pc 42 then (bif Nat.beq pc 39 then some (.getfield 74, 3, 3, 11) else none) else (bif Nat.beq pc 42 then some (.iload_n 2, 1, 0, 0) else none)) else (bif Nat.blt pc 44 then (bif Nat.beq pc 43 then some (.aaload, 1, 0, 0) else none) else (bif Nat.blt pc 46 then (bif Nat.beq pc 44 then some (.iload 4, 2, 0, 0) else none) else (bif Nat.beq pc 46 then some (.iaload, 1, 0, 0) else none)))) else (bif Nat.blt pc 51 then (bif Nat.blt pc 48 then (bif Nat.beq pc 47 then some (.iaload, 1, 0, 0) else none) else (bif Nat.beq pc 48 then some (.invokevirtual 77, 3, 17, 3) else none)) else (bif Nat.blt pc 54 then (bif Nat.beq pc 51 then some (.iinc 4 1, 3, 0, 0) else none) else (bif Nat.blt pc 57 then (bif Nat.beq pc 54 then some (.goto (-28), 3, 26, 0) else none) else (bif Nat.beq pc 57 then some (.aload_n 0, 1, 0, 0) else none))))))) else (bif Nat.blt pc 86 then (bif Nat.blt pc 71 then (bif Nat.blt pc 64 then (bif Nat.blt pc 62 then (bif Nat.blt pc 61 then (bif Nat.beq pc 58 then some (.getfield 32, 3, 1, 10) else none) else (bif Nat.beq pc 61 then some (.iload_n 2, 1, 0, 0) else none)) else (bif Nat.blt pc 63 then (bif Nat.beq pc 62 then some (.aaload, 1, 0, 0) else none) else (bif Nat.beq pc 63 then some (.iconst 0, 1, 0, 0) else none))) else (bif Nat.blt pc 66 then (bif Nat.blt pc 65 then (bif Nat.beq pc 64 then some (.aload_n 0, 1, 0, 0) else none) else (bif Nat.beq pc 65 then some (.iload_n 2, 1, 0, 0) else none)) else (bif Nat.blt pc 67 then (bif Nat.beq pc 66 then some (.iconst 0, 1, 0, 0) else none) else (bif Nat.blt pc 70 then (bif Nat.beq pc 67 then some (.invokevirtual 81, 3, 18, 3) else none) else (bif Nat.beq pc 70 then some (.iastore, 1, 0, 0) else none))))) else (bif Nat.blt pc 77 then (bif Nat.blt pc 74 then (bif Nat.blt pc 72 then (bif Nat.beq pc 71 then some (.iconst 0, 1, 0, 0) else none) else (bif Nat.beq pc 72 then some (.istore 4, 2, 0, 0) else none)) else (bif Nat.blt pc 76 then (bif Nat.beq pc 74 then some (.iload 4, 2, 0, 0) else none) else (bif Nat.beq pc 76 then some (.iload_n 3, 1, 0, 0) else none))) else (bif Nat.blt pc 81 then (bif Nat.blt pc 80 then (bif Nat.beq pc 77 then some (.if_icmp .ge (39), 3, 116, 0) else none) else (bif Nat.beq pc 80 then some (.aload_n 0, 1, 0, 0) else none)) else (bif Nat.blt pc 84 then (bif Nat.beq pc 81 then some (.getfield 32, 3, 1, 10) else none) else (bif Nat.blt pc 85 then (bif Nat.beq pc 84 then some (.iload_n 2, 1, 0, 0) else none) else (bif Nat.beq pc 85 then some (.aaload, 1, 0, 0) else none)))))) else (bif Nat.blt pc 100 then (bif Nat.blt pc 91 then (bif Nat.blt pc 89 then (bif Nat.blt pc 88 then (bif Nat.beq pc 86 then some (.iload 4, 2, 0, 0) else none) else (bif Nat.beq pc 88 then some (.iconst 1, 1, 0, 0) else none)) else (bif Nat.blt pc 90 then (bif Nat.beq pc 89 then some (.iadd, 1, 0, 0) else none) else (bif Nat.beq pc 90 then some (.aload_n 0, 1, 0, 0) else none))) else (bif Nat.blt pc 93 then (bif Nat.blt pc 92 then (bif Nat.beq pc 91 then some (.iload_n 2, 1, 0, 0) else none) else (bif Nat.beq pc 92 then some (.aload_n 1, 1, 0, 0) else none)) else (bif Nat.blt pc 96 then (bif Nat.beq pc 93 then some (.getfield 71, 3, 3, 6) else none) else (bif Nat.blt pc 97 then (bif Nat.beq pc 96 then some (.aload_n 1, 1, 0, 0) else none) else (bif Nat.beq pc 97 then some (.getfield 74, 3, 3, 11) else none))))) else (bif Nat.blt pc 106 then (bif Nat.blt pc 102 then (bif Nat.blt pc 101 then (bif Nat.beq pc 100 then some (.iload_n 2, 1, 0, 0) else none) else (bif Nat.beq pc 101 then some (.aaload, 1, 0, 0) else none)) else (bif Nat.blt pc 104 then (bif Nat.beq pc 102 then some (.iload 4, 2, 0, 0) else none) else (bif Nat.blt pc 105 then (bif Nat.beq pc 104 then some (.iaload, 1, 0, 0) else none) else (bif Nat.beq pc 105 then some (.iaload, 1, 0, 0) else none)))) else (bif Nat.blt pc 110 then (bif Nat.blt pc 109 then (bif Nat.beq pc 106 then some (.invokevirtual 81, 3, 18, 3) else none) else (bif Nat.beq pc 109 then some (.iastore, 1, 0, 0) else none)) else (bif Nat.blt pc 113 then (bif Nat.beq pc 110 then some (.iinc 4 1, 3, 0, 0) else none) else (bif Nat.blt pc 116 then (bif Nat.beq pc 113 then some (.goto (-39), 3, 74, 0) else none) else (bif Nat.beq pc 116 then some (.return_, 1, 0, 0) else none)))))))) else none
theorem oxn_16 : ∀ pc, 117 ≤ pc → oxi_16 pc = none := fun pc h => by unfold oxi_16; rw [show Nat.blt pc 117 = false from ox_blt h]; rfl
theorem oxd_16 : ∀ pc e, oxi_16 pc = some e → decode prog_3_method_7_code pc = .ok (e.1, e.2.1) := ox_tab 117 oxn_16 (by decide +kernel)
theorem oxc_16 : ∀ pc e, oxi_16 pc = some e → ox_chk 1 pc e = true := ox_tab2 117 oxn_16 (by decide +kernel)
/-- OrderAxioms$Listing.insertValue(II)V -/
def oxi_17 (pc : Nat) : Option (Instr × Nat × Nat × Nat) := bif Nat.blt pc 82 then (bif Nat.blt pc 40 then (bif Nat.blt pc 20 then (bif Nat.blt pc 8 then (bif Nat.blt pc 3 then (bif Nat.blt pc 1 then (bif Nat.beq pc 0 then some (.aload_n 0, 1, 0, 0) else none) else (bif Nat.blt pc 2 then (bif Nat.beq pc 1 then some (.iload_n 1, 1, 0, 0) else none) else (bif Nat.beq pc 2 then some (.iload_n 2, 1, 0, 0) else none))) else (bif Nat.blt pc 6 then (bif Nat.beq pc 3 then some (.invokevirtual 81, 3, 18, 3) else none) else (bif Nat.blt pc 7 then (bif Nat.beq pc 6 then some (.istore_n 3, 1, 0, 0) else none) else (bif Nat.beq pc 7 then some (.aload_n 0, 1, 0, 0) else none)))) else (bif Nat.blt pc 13 then (bif Nat.blt pc 11 then (bif Nat.beq pc 8 then some (.getfield 29, 3, 1, 9) else none) else (bif Nat.blt pc 12 then (bif Nat.beq pc 11 then some (.iload_n 1, 1, 0, 0) else none) else (bif Nat.beq pc 12 then some (.aaload, 1, 0, 0) else none))) else (bif Nat.blt pc 16 then (bif Nat.blt pc 15 then (bif Nat.beq pc 13 then some (.astore 4, 2, 0, 0) else none) else (bif Nat.beq pc 15 then some (.iload_n 3, 1, 0, 0) else none)) else (bif Nat.blt pc 17 then (bif Nat.beq pc 16 then some (.aload_n 0, 1, 0, 0) else none) else (bif Nat.beq pc 17 then some (.getfield 24, 3, 1, 8) else none))))) else (bif Nat.blt pc 29 then (bif Nat.blt pc 25 then (bif Nat.blt pc 21 then (bif Nat.beq pc 20 then some (.iload_n 1, 1, 0, 0) else none) else (bif Nat.blt pc 22 then (bif Nat.beq pc 21 then some (.iaload, 1, 0, 0) else none) else (bif Nat.beq pc 22 then some (.if_icmp .ge (12), 3, 34, 0) else none))) else (bif Nat.blt pc 27 then (bif Nat.beq pc 25 then some (.aload 4, 2, 0, 0) else none) else (bif Nat.blt pc 28 then (bif Nat.beq pc 27 then some (.iload_n 3, 1, 0, 0) else none) else (bif Nat.beq pc 28 then some (.iaload, 1, 0, 0) else none)))) else (bif Nat.blt pc 34 then (bif Nat.blt pc 30 then (bif Nat.beq pc 29 then some (.iload_n 2, 1, 0, 0) else none) else (bif Nat.blt pc 33 then (bif Nat.beq pc 30 then some (.if_icmp .ne (4), 3, 34, 0) else none) else (bif Nat.beq pc 33 then some (.return_, 1, 0, 0) else none))) else (bif Nat.blt pc 38 then (bif Nat.blt pc 35 then (bif Nat.beq pc 34 then some (.aload_n 0, 1, 0, 0) else none) else (bif Nat.beq pc 35 then some (.getfield 24, 3, 1, 8) else none)) else (bif Nat.blt pc 39 then (bif Nat.beq pc 38 then some (.iload_n 1, 1, 0, 0) else none) else (bif Nat.beq pc 39 then some (.iaload, 1, 0, 0) else none)))))) else (bif Nat.blt pc 63 then (bif Nat.blt pc 52 then (bif Nat.blt pc 45 then (bif Nat.blt pc 42 then (bif Nat.beq pc 40 then some (.istore 5, 2, 0, 0) else none) else (bif Nat.blt pc 44 then (bif Nat.beq pc 42 then some (.iload 5, 2, 0, 0) else none) else (bif Nat.beq pc 44 then some (.iload_n 3, 1, 0, 0) else none))) else (bif Nat.blt pc 48 then (bif Nat.beq pc 45 then some (.if_icmp .le (21), 3, 66, 0) else none) else (bif Nat.blt pc 50 then (bif Nat.beq pc 48 then some (.aload 4, 2, 0, 0) else none) else (bif Nat.beq pc 50 then some (.iload 5, 2, 0, 0) else none)))) else (bif Nat.blt pc 57 then (bif Nat.blt pc 54 then (bif Nat.beq pc 52 then some (.aload 4, 2, 0, 0) else none) else (bif Nat.blt pc 56 then (bif Nat.beq pc 54 then some (.iload 5, 2, 0, 0) else none) else (bif Nat.beq pc 56 then some (.iconst 1, 1, 0, 0) else none))) else (bif Nat.blt pc 59 then (bif Nat.blt pc 58 then (bif Nat.beq pc 57 then some (.isub, 1, 0, 0) else none) else (bif Nat.beq pc 58 then some (.iaload, 1, 0, 0) else none)) else (bif Nat.blt pc 60 then (bif Nat.beq pc 59 then some (.iastore, 1, 0, 0) else none) else (bif Nat.beq pc 60 then some (.iinc 5 (-1), 3, 0, 0) else none))))) else (bif Nat.blt pc 75 then (bif Nat.blt pc 69 then (bif Nat.blt pc 66 then (bif Nat.beq pc 63 then some (.goto (-21), 3, 42, 0) else none) else (bif Nat.blt pc 68 then (bif Nat.beq pc 66 then some (.aload 4, 2, 0, 0) else none) else (bif Nat.beq pc 68 then some (.iload_n 3, 1, 0, 0) else none))) else (bif Nat.blt pc 71 then (bif Nat.blt pc 70 then (bif Nat.beq pc 69 then some (.iload_n 2, 1, 0, 0) else none) else (bif Nat.beq pc 70 then some (.iastore, 1, 0, 0) else none)) else (bif Nat.blt pc 72 then (bif Nat.beq pc 71 then some (.aload_n 0, 1, 0, 0) else none) else (bif Nat.beq pc 72 then some (.getfield 24, 3, 1, 8) else none)))) else (bif Nat.blt pc 78 then (bif Nat.blt pc 76 then (bif Nat.beq pc 75 then some (.iload_n 1, 1, 0, 0) else none) else (bif Nat.blt pc 77 then (bif Nat.beq pc 76 then some (.dup2, 1, 0, 0) else none) else (bif Nat.beq pc 77 then some (.iaload, 1, 0, 0) else none))) else (bif Nat.blt pc 80 then (bif Nat.blt pc 79 then (bif Nat.beq pc 78 then some (.iconst 1, 1, 0, 0) else none) else (bif Nat.beq pc 79 then some (.iadd, 1, 0, 0) else none)) else (bif Nat.blt pc 81 then (bif Nat.beq pc 80 then some (.iastore, 1, 0, 0) else none) else (bif Nat.beq pc 81 then some (.return_, 1, 0, 0) else none))))))) else none
theorem oxn_17 : ∀ pc, 82 ≤ pc → oxi_17 pc = none := fun pc h => by unfold oxi_17; rw [show Nat.blt pc 82 = false from ox_blt h]; rfl
theorem oxd_17 : ∀ pc e, oxi_17 pc = some e → decode prog_3_method_8_code pc = .ok (e.1, e.2.1) := ox_tab 82 oxn_17 (by decide +kernel)
theorem oxc_17 : ∀ pc e, oxi_17 pc = some e → ox_chk 1 pc e = true := ox_tab2 82 oxn_17 (by decide +kernel)
/-- OrderAxioms$Listing.rankOf(II)I -/
def oxi_18 (pc : Nat) : Option (Instr × Nat × Nat × Nat) := bif Nat.blt pc 40 then (bif Nat.blt pc 17 then (bif Nat.blt pc 7 then (bif Nat.blt pc 2 then (bif Nat.blt pc 1 then (bif Nat.beq pc 0 then some (.iconst 0, 1, 0, 0) else none) else (bif Nat.beq pc 1 then some (.istore_n 3, 1, 0, 0) else none)) else (bif Nat.blt pc 3 then (bif Nat.beq pc 2 then some (.iconst 0, 1, 0, 0) else none) else (bif Nat.blt pc 5 then (bif Nat.beq pc 3 then some (.istore 4, 2, 0, 0) else none) else (bif Nat.beq pc 5 then some (.iload 4, 2, 0, 0) else none)))) else (bif Nat.blt pc 12 then (bif Nat.blt pc 8 then (bif Nat.beq pc 7 then some (.aload_n 0, 1, 0, 0) else none) else (bif Nat.blt pc 11 then (bif Nat.beq pc 8 then some (.getfield 24, 3, 1, 8) else none) else (bif Nat.beq pc 11 then some (.iload_n 1, 1, 0, 0) else none))) else (bif Nat.blt pc 13 then (bif Nat.beq pc 12 then some (.iaload, 1, 0, 0) else none) else (bif Nat.blt pc 16 then (bif Nat.beq pc 13 then some (.if_icmp .ge (25), 3, 38, 0) else none) else (bif Nat.beq pc 16 then some (.aload_n 0, 1, 0, 0) else none))))) else (bif Nat.blt pc 26 then (bif Nat.blt pc 22 then (bif Nat.blt pc 20 then (bif Nat.beq pc 17 then some (.getfield 29, 3, 1, 9) else none) else (bif Nat.blt pc 21 then (bif Nat.beq pc 20 then some (.iload_n 1, 1, 0, 0) else none) else (bif Nat.beq pc 21 then some (.aaload, 1, 0, 0) else none))) else (bif Nat.blt pc 24 then (bif Nat.beq pc 22 then some (.iload 4, 2, 0, 0) else none) else (bif Nat.blt pc 25 then (bif Nat.beq pc 24 then some (.iaload, 1, 0, 0) else none) else (bif Nat.beq pc 25 then some (.iload_n 2, 1, 0, 0) else none)))) else (bif Nat.blt pc 35 then (bif Nat.blt pc 29 then (bif Nat.beq pc 26 then some (.if_icmp .ge (6), 3, 32, 0) else none) else (bif Nat.blt pc 32 then (bif Nat.beq pc 29 then some (.iinc 3 1, 3, 0, 0) else none) else (bif Nat.beq pc 32 then some (.iinc 4 1, 3, 0, 0) else none))) else (bif Nat.blt pc 38 then (bif Nat.beq pc 35 then some (.goto (-30), 3, 5, 0) else none) else (bif Nat.blt pc 39 then (bif Nat.beq pc 38 then some (.iload_n 3, 1, 0, 0) else none) else (bif Nat.beq pc 39 then some (.ireturn, 1, 0, 0) else none)))))) else none
theorem oxn_18 : ∀ pc, 40 ≤ pc → oxi_18 pc = none := fun pc h => by unfold oxi_18; rw [show Nat.blt pc 40 = false from ox_blt h]; rfl
theorem oxd_18 : ∀ pc e, oxi_18 pc = some e → decode prog_3_method_9_code pc = .ok (e.1, e.2.1) := ox_tab 40 oxn_18 (by decide +kernel)
theorem oxc_18 : ∀ pc e, oxi_18 pc = some e → ox_chk 1 pc e = true := ox_tab2 40 oxn_18 (by decide +kernel)
/-- OrderAxioms$Model.forget()V -/
def oxi_19 (pc : Nat) : Option (Instr × Nat × Nat × Nat) := bif Nat.blt pc 12 then (bif Nat.blt pc 6 then (bif Nat.blt pc 1 then (bif Nat.beq pc 0 then some (.aload_n 0, 1, 0, 0) else none) else (bif Nat.blt pc 3 then (bif Nat.beq pc 1 then some (.bipush 12, 2, 0, 0) else none) else (bif Nat.beq pc 3 then some (.putfield 9, 3, 2, 0) else none))) else (bif Nat.blt pc 8 then (bif Nat.blt pc 7 then (bif Nat.beq pc 6 then some (.aload_n 0, 1, 0, 0) else none) else (bif Nat.beq pc 7 then some (.iconst 0, 1, 0, 0) else none)) else (bif Nat.blt pc 11 then (bif Nat.beq pc 8 then some (.putfield 28, 3, 2, 1) else none) else (bif Nat.beq pc 11 then some (.return_, 1, 0, 0) else none)))) else none
theorem oxn_19 : ∀ pc, 12 ≤ pc → oxi_19 pc = none := fun pc h => by unfold oxi_19; rw [show Nat.blt pc 12 = false from ox_blt h]; rfl
theorem oxd_19 : ∀ pc e, oxi_19 pc = some e → decode prog_4_method_2_code pc = .ok (e.1, e.2.1) := ox_tab 12 oxn_19 (by decide +kernel)
theorem oxc_19 : ∀ pc e, oxi_19 pc = some e → ox_chk 2 pc e = true := ox_tab2 12 oxn_19 (by decide +kernel)
/-- OrderAxioms$Model.addRelation(III)I -/
def oxi_20 (pc : Nat) : Option (Instr × Nat × Nat × Nat) := bif Nat.blt pc 54 then (bif Nat.blt pc 26 then (bif Nat.blt pc 13 then (bif Nat.blt pc 6 then (bif Nat.blt pc 1 then (bif Nat.beq pc 0 then some (.aload_n 0, 1, 0, 0) else none) else (bif Nat.blt pc 4 then (bif Nat.beq pc 1 then some (.getfield 9, 3, 2, 0) else none) else (bif Nat.beq pc 4 then some (.istore 4, 2, 0, 0) else none))) else (bif Nat.blt pc 10 then (bif Nat.blt pc 7 then (bif Nat.beq pc 6 then some (.aload_n 0, 1, 0, 0) else none) else (bif Nat.beq pc 7 then some (.getfield 15, 3, 2, 2) else none)) else (bif Nat.blt pc 12 then (bif Nat.beq pc 10 then some (.iload 4, 2, 0, 0) else none) else (bif Nat.beq pc 12 then some (.iload_n 1, 1, 0, 0) else none)))) else (bif Nat.blt pc 20 then (bif Nat.blt pc 15 then (bif Nat.blt pc 14 then (bif Nat.beq pc 13 then some (.iastore, 1, 0, 0) else none) else (bif Nat.beq pc 14 then some (.aload_n 0, 1, 0, 0) else none)) else (bif Nat.blt pc 18 then (bif Nat.beq pc 15 then some (.getfield 19, 3, 2, 3) else none) else (bif Nat.beq pc 18 then some (.iload 4, 2, 0, 0) else none))) else (bif Nat.blt pc 22 then (bif Nat.blt pc 21 then (bif Nat.beq pc 20 then some (.iload_n 2, 1, 0, 0) else none) else (bif Nat.beq pc 21 then some (.iastore, 1, 0, 0) else none)) else (bif Nat.blt pc 23 then (bif Nat.beq pc 22 then some (.aload_n 0, 1, 0, 0) else none) else (bif Nat.beq pc 23 then some (.getfield 22, 3, 2, 4) else none))))) else (bif Nat.blt pc 41 then (bif Nat.blt pc 35 then (bif Nat.blt pc 29 then (bif Nat.blt pc 28 then (bif Nat.beq pc 26 then some (.iload 4, 2, 0, 0) else none) else (bif Nat.beq pc 28 then some (.iload_n 1, 1, 0, 0) else none)) else (bif Nat.blt pc 32 then (bif Nat.beq pc 29 then some (.invokestatic 31, 3, 50, 1) else none) else (bif Nat.beq pc 32 then some (.ifCond .eq (7), 3, 39, 0) else none))) else (bif Nat.blt pc 39 then (bif Nat.blt pc 36 then (bif Nat.beq pc 35 then some (.iload_n 3, 1, 0, 0) else none) else (bif Nat.beq pc 36 then some (.goto (4), 3, 40, 0) else none)) else (bif Nat.blt pc 40 then (bif Nat.beq pc 39 then some (.iload_n 2, 1, 0, 0) else none) else (bif Nat.beq pc 40 then some (.iastore, 1, 0, 0) else none)))) else (bif Nat.blt pc 47 then (bif Nat.blt pc 43 then (bif Nat.blt pc 42 then (bif Nat.beq pc 41 then some (.aload_n 0, 1, 0, 0) else none) else (bif Nat.beq pc 42 then some (.dup, 1, 0, 0) else none)) else (bif Nat.blt pc 46 then (bif Nat.beq pc 43 then some (.getfield 9, 3, 2, 0) else none) else (bif Nat.beq pc 46 then some (.iconst 1, 1, 0, 0) else none))) else (bif Nat.blt pc 51 then (bif Nat.blt pc 48 then (bif Nat.beq pc 47 then some (.iadd, 1, 0, 0) else none) else (bif Nat.beq pc 48 then some (.putfield 9, 3, 2, 0) else none)) else (bif Nat.blt pc 53 then (bif Nat.beq pc 51 then some (.iload 4, 2, 0, 0) else none) else (bif Nat.beq pc 53 then some (.ireturn, 1, 0, 0) else none)))))) else none
theorem oxn_20 : ∀ pc, 54 ≤ pc → oxi_20 pc = none := fun pc h => by unfold oxi_20; rw [show Nat.blt pc 54 = false from ox_blt h]; rfl
theorem oxd_20 : ∀ pc e, oxi_20 pc = some e → decode prog_4_method_3_code pc = .ok (e.1, e.2.1) := ox_tab 54 oxn_20 (by decide +kernel)
theorem oxc_20 : ∀ pc e, oxi_20 pc = some e → ox_chk 2 pc e = true := ox_tab2 54 oxn_20 (by decide +kernel)
/-- OrderAxioms$Model.addRule(I)V -/
def oxi_21 (pc : Nat) : Option (Instr × Nat × Nat × Nat) := bif Nat.blt pc 21 then (bif Nat.blt pc 10 then (bif Nat.blt pc 5 then (bif Nat.blt pc 1 then (bif Nat.beq pc 0 then some (.aload_n 0, 1, 0, 0) else none) else (bif Nat.blt pc 4 then (bif Nat.beq pc 1 then some (.getfield 25, 3, 2, 5) else none) else (bif Nat.beq pc 4 then some (.aload_n 0, 1, 0, 0) else none))) else (bif Nat.blt pc 8 then (bif Nat.beq pc 5 then some (.getfield 28, 3, 2, 1) else none) else (bif Nat.blt pc 9 then (bif Nat.beq pc 8 then some (.iload_n 1, 1, 0, 0) else none) else (bif Nat.beq pc 9 then some (.iastore, 1, 0, 0) else none)))) else (bif Nat.blt pc 15 then (bif Nat.blt pc 11 then (bif Nat.beq pc 10 then some (.aload_n 0, 1, 0, 0) else none) else (bif Nat.blt pc 12 then (bif Nat.beq pc 11 then some (.dup, 1, 0, 0) else none) else (bif Nat.beq pc 12 then some (.getfield 28, 3, 2, 1) else none))) else (bif Nat.blt pc 17 then (bif Nat.blt pc 16 then (bif Nat.beq pc 15 then some (.iconst 1, 1, 0, 0) else none) else (bif Nat.beq pc 16 then some (.iadd, 1, 0, 0) else none)) else (bif Nat.blt pc 20 then (bif Nat.beq pc 17 then some (.putfield 28, 3, 2, 1) else none) else (bif Nat.beq pc 20 then some (.return_, 1, 0, 0) else none))))) else none
theorem oxn_21 : ∀ pc, 21 ≤ pc → oxi_21 pc = none := fun pc h => by unfold oxi_21; rw [show Nat.blt pc 21 = false from ox_blt h]; rfl
theorem oxd_21 : ∀ pc e, oxi_21 pc = some e → decode prog_4_method_4_code pc = .ok (e.1, e.2.1) := ox_tab 21 oxn_21 (by decide +kernel)
theorem oxc_21 : ∀ pc e, oxi_21 pc = some e → ox_chk 2 pc e = true := ox_tab2 21 oxn_21 (by decide +kernel)
/-- OrderAxioms$Model.addOrderRule(II)V -/
def oxi_22 (pc : Nat) : Option (Instr × Nat × Nat × Nat) := bif Nat.blt pc 28 then (bif Nat.blt pc 12 then (bif Nat.blt pc 7 then (bif Nat.blt pc 2 then (bif Nat.blt pc 1 then (bif Nat.beq pc 0 then some (.aload_n 0, 1, 0, 0) else none) else (bif Nat.beq pc 1 then some (.iconst 0, 1, 0, 0) else none)) else (bif Nat.blt pc 3 then (bif Nat.beq pc 2 then some (.iload_n 1, 1, 0, 0) else none) else (bif Nat.blt pc 4 then (bif Nat.beq pc 3 then some (.iload_n 2, 1, 0, 0) else none) else (bif Nat.beq pc 4 then some (.invokevirtual 35, 3, 20, 4) else none)))) else (bif Nat.blt pc 9 then (bif Nat.blt pc 8 then (bif Nat.beq pc 7 then some (.istore_n 3, 1, 0, 0) else none) else (bif Nat.beq pc 8 then some (.aload_n 0, 1, 0, 0) else none)) else (bif Nat.blt pc 10 then (bif Nat.beq pc 9 then some (.iconst 0, 1, 0, 0) else none) else (bif Nat.blt pc 11 then (bif Nat.beq pc 10 then some (.iload_n 3, 1, 0, 0) else none) else (bif Nat.beq pc 11 then some (.iconst 2, 1, 0, 0) else none))))) else (bif Nat.blt pc 19 then (bif Nat.blt pc 16 then (bif Nat.blt pc 15 then (bif Nat.beq pc 12 then some (.invokevirtual 35, 3, 20, 4) else none) else (bif Nat.beq pc 15 then some (.istore_n 3, 1, 0, 0) else none)) else (bif Nat.blt pc 17 then (bif Nat.beq pc 16 then some (.aload_n 0, 1, 0, 0) else none) else (bif Nat.blt pc 18 then (bif Nat.beq pc 17 then some (.aload_n 0, 1, 0, 0) else none) else (bif Nat.beq pc 18 then some (.iconst 0, 1, 0, 0) else none)))) else (bif Nat.blt pc 21 then (bif Nat.blt pc 20 then (bif Nat.beq pc 19 then some (.iload_n 3, 1, 0, 0) else none) else (bif Nat.beq pc 20 then some (.iconst 3, 1, 0, 0) else none)) else (bif Nat.blt pc 24 then (bif Nat.beq pc 21 then some (.invokevirtual 35, 3, 20, 4) else none) else (bif Nat.blt pc 27 then (bif Nat.beq pc 24 then some (.invokevirtual 39, 3, 21, 2) else none) else (bif Nat.beq pc 27 then some (.return_, 1, 0, 0) else none)))))) else none
theorem oxn_22 : ∀ pc, 28 ≤ pc → oxi_22 pc = none := fun pc h => by unfold oxi_22; rw [show Nat.blt pc 28 = false from ox_blt h]; rfl
theorem oxd_22 : ∀ pc e, oxi_22 pc = some e → decode prog_4_method_5_code pc = .ok (e.1, e.2.1) := ox_tab 28 oxn_22 (by decide +kernel)
theorem oxc_22 : ∀ pc e, oxi_22 pc = some e → ox_chk 2 pc e = true := ox_tab2 28 oxn_22 (by decide +kernel)
/-- OrderAxioms$Model.addKept(I)I -/
def oxi_23 (pc : Nat) : Option (Instr × Nat × Nat × Nat) := bif Nat.blt pc 40 then (bif Nat.blt pc 19 then (bif Nat.blt pc 9 then (bif Nat.blt pc 4 then (bif Nat.blt pc 2 then (bif Nat.beq pc 0 then some (.bipush 6, 2, 0, 0) else none) else (bif Nat.blt pc 3 then (bif Nat.beq pc 2 then some (.istore_n 2, 1, 0, 0) else none) else (bif Nat.beq pc 3 then some (.iload_n 1, 1, 0, 0) else none))) else (bif Nat.blt pc 5 then (bif Nat.beq pc 4 then some (.iconst 4, 1, 0, 0) else none) else (bif Nat.blt pc 8 then (bif Nat.beq pc 5 then some (.if_icmp .gt (12), 3, 17, 0) else none) else (bif Nat.beq pc 8 then some (.aload_n 0, 1, 0, 0) else none)))) else (bif Nat.blt pc 13 then (bif Nat.blt pc 10 then (bif Nat.beq pc 9 then some (.iconst 2, 1, 0, 0) else none) else (bif Nat.blt pc 11 then (bif Nat.beq pc 10 then some (.iconst 0, 1, 0, 0) else none) else (bif Nat.beq pc 11 then some (.bipush 10, 2, 0, 0) else none))) else (bif Nat.blt pc 17 then (bif Nat.blt pc 16 then (bif Nat.beq pc 13 then some (.invokevirtual 35, 3, 20, 4) else none) else (bif Nat.beq pc 16 then some (.istore_n 2, 1, 0, 0) else none)) else (bif Nat.blt pc 18 then (bif Nat.beq pc 17 then some (.iload_n 1, 1, 0, 0) else none) else (bif Nat.beq pc 18 then some (.iconst 4, 1, 0, 0) else none))))) else (bif Nat.blt pc 30 then (bif Nat.blt pc 24 then (bif Nat.blt pc 22 then (bif Nat.beq pc 19 then some (.if_icmp .ne (12), 3, 31, 0) else none) else (bif Nat.blt pc 23 then (bif Nat.beq pc 22 then some (.aload_n 0, 1, 0, 0) else none) else (bif Nat.beq pc 23 then some (.iconst 2, 1, 0, 0) else none))) else (bif Nat.blt pc 25 then (bif Nat.beq pc 24 then some (.iload_n 2, 1, 0, 0) else none) else (bif Nat.blt pc 27 then (bif Nat.beq pc 25 then some (.bipush 11, 2, 0, 0) else none) else (bif Nat.beq pc 27 then some (.invokevirtual 35, 3, 20, 4) else none)))) else (bif Nat.blt pc 33 then (bif Nat.blt pc 31 then (bif Nat.beq pc 30 then some (.istore_n 2, 1, 0, 0) else none) else (bif Nat.blt pc 32 then (bif Nat.beq pc 31 then some (.aload_n 0, 1, 0, 0) else none) else (bif Nat.beq pc 32 then some (.iconst 0, 1, 0, 0) else none))) else (bif Nat.blt pc 36 then (bif Nat.blt pc 34 then (bif Nat.beq pc 33 then some (.iload_n 2, 1, 0, 0) else none) else (bif Nat.beq pc 34 then some (.bipush 7, 2, 0, 0) else none)) else (bif Nat.blt pc 39 then (bif Nat.beq pc 36 then some (.invokevirtual 35, 3, 20, 4) else none) else (bif Nat.beq pc 39 then some (.ireturn, 1, 0, 0) else none)))))) else none
theorem oxn_23 : ∀ pc, 40 ≤ pc → oxi_23 pc = none := fun pc h => by unfold oxi_23; rw [show Nat.blt pc 40 = false from ox_blt h]; rfl
theorem oxd_23 : ∀ pc e, oxi_23 pc = some e → decode prog_4_method_6_code pc = .ok (e.1, e.2.1) := ox_tab 40 oxn_23 (by decide +kernel)
theorem oxc_23 : ∀ pc e, oxi_23 pc = some e → ox_chk 2 pc e = true := ox_tab2 40 oxn_23 (by decide +kernel)
/-- OrderAxioms$Program.forget()V -/
def oxi_24 (pc : Nat) : Option (Instr × Nat × Nat × Nat) := bif Nat.blt pc 43 then (bif Nat.blt pc 19 then (bif Nat.blt pc 10 then (bif Nat.blt pc 5 then (bif Nat.blt pc 1 then (bif Nat.beq pc 0 then some (.aload_n 0, 1, 0, 0) else none) else (bif Nat.blt pc 2 then (bif Nat.beq pc 1 then some (.iconst 0, 1, 0, 0) else none) else (bif Nat.beq pc 2 then some (.putfield 41, 3, 3, 0) else none))) else (bif Nat.blt pc 6 then (bif Nat.beq pc 5 then some (.aload_n 0, 1, 0, 0) else none) else (bif Nat.blt pc 7 then (bif Nat.beq pc 6 then some (.iconst 0, 1, 0, 0) else none) else (bif Nat.beq pc 7 then some (.putfield 45, 3, 3, 1) else none)))) else (bif Nat.blt pc 15 then (bif Nat.blt pc 11 then (bif Nat.beq pc 10 then some (.aload_n 0, 1, 0, 0) else none) else (bif Nat.blt pc 12 then (bif Nat.beq pc 11 then some (.iconst 0, 1, 0, 0) else none) else (bif Nat.beq pc 12 then some (.putfield 48, 3, 3, 2) else none))) else (bif Nat.blt pc 17 then (bif Nat.blt pc 16 then (bif Nat.beq pc 15 then some (.iconst 0, 1, 0, 0) else none) else (bif Nat.beq pc 16 then some (.istore_n 1, 1, 0, 0) else none)) else (bif Nat.blt pc 18 then (bif Nat.beq pc 17 then some (.iload_n 1, 1, 0, 0) else none) else (bif Nat.beq pc 18 then some (.iconst 4, 1, 0, 0) else none))))) else (bif Nat.blt pc 30 then (bif Nat.blt pc 26 then (bif Nat.blt pc 22 then (bif Nat.beq pc 19 then some (.if_icmp .ge (23), 3, 42, 0) else none) else (bif Nat.blt pc 23 then (bif Nat.beq pc 22 then some (.aload_n 0, 1, 0, 0) else none) else (bif Nat.beq pc 23 then some (.getfield 30, 3, 3, 9) else none))) else (bif Nat.blt pc 28 then (bif Nat.blt pc 27 then (bif Nat.beq pc 26 then some (.iload_n 1, 1, 0, 0) else none) else (bif Nat.beq pc 27 then some (.iconst 0, 1, 0, 0) else none)) else (bif Nat.blt pc 29 then (bif Nat.beq pc 28 then some (.iastore, 1, 0, 0) else none) else (bif Nat.beq pc 29 then some (.aload_n 0, 1, 0, 0) else none)))) else (bif Nat.blt pc 35 then (bif Nat.blt pc 33 then (bif Nat.beq pc 30 then some (.getfield 33, 3, 3, 10) else none) else (bif Nat.blt pc 34 then (bif Nat.beq pc 33 then some (.iload_n 1, 1, 0, 0) else none) else (bif Nat.beq pc 34 then some (.iconst 0, 1, 0, 0) else none))) else (bif Nat.blt pc 39 then (bif Nat.blt pc 36 then (bif Nat.beq pc 35 then some (.iastore, 1, 0, 0) else none) else (bif Nat.beq pc 36 then some (.iinc 1 1, 3, 0, 0) else none)) else (bif Nat.blt pc 42 then (bif Nat.beq pc 39 then some (.goto (-22), 3, 17, 0) else none) else (bif Nat.beq pc 42 then some (.return_, 1, 0, 0) else none)))))) else none
theorem oxn_24 : ∀ pc, 43 ≤ pc → oxi_24 pc = none := fun pc h => by unfold oxi_24; rw [show Nat.blt pc 43 = false from ox_blt h]; rfl
theorem oxd_24 : ∀ pc e, oxi_24 pc = some e → decode prog_5_method_2_code pc = .ok (e.1, e.2.1) := ox_tab 43 oxn_24 (by decide +kernel)
theorem oxc_24 : ∀ pc e, oxi_24 pc = some e → ox_chk 3 pc e = true := ox_tab2 43 oxn_24 (by decide +kernel)
/-- OrderAxioms$Program.append(IIII)I -/
def oxi_25 (pc : Nat) : Option (Instr × Nat × Nat × Nat) := bif Nat.blt pc 140 then (bif Nat.blt pc 73 then (bif Nat.blt pc 37 then (bif Nat.blt pc 18 then (bif Nat.blt pc 10 then (bif Nat.blt pc 4 then (bif Nat.blt pc 1 then (bif Nat.beq pc 0 then some (.aload_n 0, 1, 0, 0) else none) else (bif Nat.beq pc 1 then some (.getfield 45, 3, 3, 1) else none)) else (bif Nat.blt pc 6 then (bif Nat.beq pc 4 then some (.istore 5, 2, 0, 0) else none) else (bif Nat.blt pc 7 then (bif Nat.beq pc 6 then some (.aload_n 0, 1, 0, 0) else none) else (bif Nat.beq pc 7 then some (.getfield 9, 3, 3, 3) else none)))) else (bif Nat.blt pc 13 then (bif Nat.blt pc 12 then (bif Nat.beq pc 10 then some (.iload 5, 2, 0, 0) else none) else (bif Nat.beq pc 12 then some (.iload_n 1, 1, 0, 0) else none)) else (bif Nat.blt pc 14 then (bif Nat.beq pc 13 then some (.iastore, 1, 0, 0) else none) else (bif Nat.blt pc 15 then (bif Nat.beq pc 14 then some (.aload_n 0, 1, 0, 0) else none) else (bif Nat.beq pc 15 then some (.getfield 15, 3, 3, 4) else none))))) else (bif Nat.blt pc 26 then (bif Nat.blt pc 21 then (bif Nat.blt pc 20 then (bif Nat.beq pc 18 then some (.iload 5, 2, 0, 0) else none) else (bif Nat.beq pc 20 then some (.iload_n 2, 1, 0, 0) else none)) else (bif Nat.blt pc 22 then (bif Nat.beq pc 21 then some (.iastore, 1, 0, 0) else none) else (bif Nat.blt pc 23 then (bif Nat.beq pc 22 then some (.aload_n 0, 1, 0, 0) else none) else (bif Nat.beq pc 23 then some (.getfield 18, 3, 3, 5) else none)))) else (bif Nat.blt pc 30 then (bif Nat.blt pc 28 then (bif Nat.beq pc 26 then some (.iload 5, 2, 0, 0) else none) else (bif Nat.blt pc 29 then (bif Nat.beq pc 28 then some (.iload_n 2, 1, 0, 0) else none) else (bif Nat.beq pc 29 then some (.iconst 2, 1, 0, 0) else none))) else (bif Nat.blt pc 33 then (bif Nat.beq pc 30 then some (.if_icmp .ne (7), 3, 37, 0) else none) else (bif Nat.blt pc 34 then (bif Nat.beq pc 33 then some (.iconst (-1), 1, 0, 0) else none) else (bif Nat.beq pc 34 then some (.goto (4), 3, 38, 0) else none)))))) else (bif Nat.blt pc 55 then (bif Nat.blt pc 45 then (bif Nat.blt pc 39 then (bif Nat.blt pc 38 then (bif Nat.beq pc 37 then some (.iload_n 3, 1, 0, 0) else none) else (bif Nat.beq pc 38 then some (.iastore, 1, 0, 0) else none)) else (bif Nat.blt pc 40 then (bif Nat.beq pc 39 then some (.aload_n 0, 1, 0, 0) else none) else (bif Nat.blt pc 43 then (bif Nat.beq pc 40 then some (.getfield 21, 3, 3, 6) else none) else (bif Nat.beq pc 43 then some (.iload 5, 2, 0, 0) else none)))) else (bif Nat.blt pc 49 then (bif Nat.blt pc 47 then (bif Nat.beq pc 45 then some (.iload 4, 2, 0, 0) else none) else (bif Nat.blt pc 48 then (bif Nat.beq pc 47 then some (.iastore, 1, 0, 0) else none) else (bif Nat.beq pc 48 then some (.aload_n 0, 1, 0, 0) else none))) else (bif Nat.blt pc 52 then (bif Nat.beq pc 49 then some (.getfield 24, 3, 3, 7) else none) else (bif Nat.blt pc 54 then (bif Nat.beq pc 52 then some (.iload 5, 2, 0, 0) else none) else (bif Nat.beq pc 54 then some (.iconst 0, 1, 0, 0) else none))))) else (bif Nat.blt pc 64 then (bif Nat.blt pc 57 then (bif Nat.blt pc 56 then (bif Nat.beq pc 55 then some (.iastore, 1, 0, 0) else none) else (bif Nat.beq pc 56 then some (.iload_n 2, 1, 0, 0) else none)) else (bif Nat.blt pc 60 then (bif Nat.beq pc 57 then some (.ifCond .ne (27), 3, 84, 0) else none) else (bif Nat.blt pc 61 then (bif Nat.beq pc 60 then some (.aload_n 0, 1, 0, 0) else none) else (bif Nat.beq pc 61 then some (.getfield 27, 3, 3, 8) else none)))) else (bif Nat.blt pc 70 then (bif Nat.blt pc 65 then (bif Nat.beq pc 64 then some (.aload_n 0, 1, 0, 0) else none) else (bif Nat.blt pc 68 then (bif Nat.beq pc 65 then some (.getfield 48, 3, 3, 2) else none) else (bif Nat.beq pc 68 then some (.iload 5, 2, 0, 0) else none))) else (bif Nat.blt pc 71 then (bif Nat.beq pc 70 then some (.iastore, 1, 0, 0) else none) else (bif Nat.blt pc 72 then (bif Nat.beq pc 71 then some (.aload_n 0, 1, 0, 0) else none) else (bif Nat.beq pc 72 then some (.dup, 1, 0, 0) else none))))))) else (bif Nat.blt pc 110 then (bif Nat.blt pc 94 then (bif Nat.blt pc 84 then (bif Nat.blt pc 77 then (bif Nat.blt pc 76 then (bif Nat.beq pc 73 then some (.getfield 48, 3, 3, 2) else none) else (bif Nat.beq pc 76 then some (.iconst 1, 1, 0, 0) else none)) else (bif Nat.blt pc 78 then (bif Nat.beq pc 77 then some (.iadd, 1, 0, 0) else none) else (bif Nat.blt pc 81 then (bif Nat.beq pc 78 then some (.putfield 48, 3, 3, 2) else none) else (bif Nat.beq pc 81 then some (.goto (46), 3, 127, 0) else none)))) else (bif Nat.blt pc 89 then (bif Nat.blt pc 85 then (bif Nat.beq pc 84 then some (.iload_n 2, 1, 0, 0) else none) else (bif Nat.blt pc 86 then (bif Nat.beq pc 85 then some (.iconst 1, 1, 0, 0) else none) else (bif Nat.beq pc 86 then some (.if_icmp .ne (41), 3, 127, 0) else none))) else (bif Nat.blt pc 90 then (bif Nat.beq pc 89 then some (.aload_n 0, 1, 0, 0) else none) else (bif Nat.blt pc 93 then (bif Nat.beq pc 90 then some (.getfield 38, 3, 3, 11) else none) else (bif Nat.beq pc 93 then some (.iload_n 3, 1, 0, 0) else none))))) else (bif Nat.blt pc 101 then (bif Nat.blt pc 96 then (bif Nat.blt pc 95 then (bif Nat.beq pc 94 then some (.aaload, 1, 0, 0) else none) else (bif Nat.beq pc 95 then some (.aload_n 0, 1, 0, 0) else none)) else (bif Nat.blt pc 99 then (bif Nat.beq pc 96 then some (.getfield 30, 3, 3, 9) else none) else (bif Nat.blt pc 100 then (bif Nat.beq pc 99 then some (.iload_n 3, 1, 0, 0) else none) else (bif Nat.beq pc 100 then some (.iaload, 1, 0, 0) else none)))) else (bif Nat.blt pc 105 then (bif Nat.blt pc 103 then (bif Nat.beq pc 101 then some (.iload 5, 2, 0, 0) else none) else (bif Nat.blt pc 104 then (bif Nat.beq pc 103 then some (.iastore, 1, 0, 0) else none) else (bif Nat.beq pc 104 then some (.aload_n 0, 1, 0, 0) else none))) else (bif Nat.blt pc 108 then (bif Nat.beq pc 105 then some (.getfield 30, 3, 3, 9) else none) else (bif Nat.blt pc 109 then (bif Nat.beq pc 108 then some (.iload_n 3, 1, 0, 0) else none) else (bif Nat.beq pc 109 then some (.dup2, 1, 0, 0) else none)))))) else (bif Nat.blt pc 124 then (bif Nat.blt pc 115 then (bif Nat.blt pc 112 then (bif Nat.blt pc 111 then (bif Nat.beq pc 110 then some (.iaload, 1, 0, 0) else none) else (bif Nat.beq pc 111 then some (.iconst 1, 1, 0, 0) else none)) else (bif Nat.blt pc 113 then (bif Nat.beq pc 112 then some (.iadd, 1, 0, 0) else none) else (bif Nat.blt pc 114 then (bif Nat.beq pc 113 then some (.iastore, 1, 0, 0) else none) else (bif Nat.beq pc 114 then some (.aload_n 0, 1, 0, 0) else none)))) else (bif Nat.blt pc 120 then (bif Nat.blt pc 118 then (bif Nat.beq pc 115 then some (.getfield 33, 3, 3, 10) else none) else (bif Nat.blt pc 119 then (bif Nat.beq pc 118 then some (.iload_n 3, 1, 0, 0) else none) else (bif Nat.beq pc 119 then some (.dup2, 1, 0, 0) else none))) else (bif Nat.blt pc 121 then (bif Nat.beq pc 120 then some (.iaload, 1, 0, 0) else none) else (bif Nat.blt pc 122 then (bif Nat.beq pc 121 then some (.iconst 1, 1, 0, 0) else none) else (bif Nat.beq pc 122 then some (.iload 5, 2, 0, 0) else none))))) else (bif Nat.blt pc 129 then (bif Nat.blt pc 126 then (bif Nat.blt pc 125 then (bif Nat.beq pc 124 then some (.ishl, 1, 0, 0) else none) else (bif Nat.beq pc 125 then some (.ior, 1, 0, 0) else none)) else (bif Nat.blt pc 127 then (bif Nat.beq pc 126 then some (.iastore, 1, 0, 0) else none) else (bif Nat.blt pc 128 then (bif Nat.beq pc 127 then some (.aload_n 0, 1, 0, 0) else none) else (bif Nat.beq pc 128 then some (.dup, 1, 0, 0) else none)))) else (bif Nat.blt pc 134 then (bif Nat.blt pc 132 then (bif Nat.beq pc 129 then some (.getfield 45, 3, 3, 1) else none) else (bif Nat.blt pc 133 then (bif Nat.beq pc 132 then some (.iconst 1, 1, 0, 0) else none) else (bif Nat.beq pc 133 then some (.iadd, 1, 0, 0) else none))) else (bif Nat.blt pc 137 then (bif Nat.beq pc 134 then some (.putfield 45, 3, 3, 1) else none) else (bif Nat.blt pc 139 then (bif Nat.beq pc 137 then some (.iload 5, 2, 0, 0) else none) else (bif Nat.beq pc 139 then some (.ireturn, 1, 0, 0) else none)))))))) else none
theorem oxn_25 : ∀ pc, 140 ≤ pc → oxi_25 pc = none := fun pc h => by unfold oxi_25; rw [show Nat.blt pc 140 = false from ox_blt h]; rfl
theorem oxd_25 : ∀ pc e, oxi_25 pc = some e → decode prog_5_method_3_code pc = .ok (e.1, e.2.1) := ox_tab 140 oxn_25 (by decide +kernel)
theorem oxc_25 : ∀ pc e, oxi_25 pc = some e → ox_chk 3 pc e = true := ox_tab2 140 oxn_25 (by decide +kernel)
/-- OrderAxioms$Program.isBefore(II)Z -/
def oxi_26 (pc : Nat) : Option (Instr × Nat × Nat × Nat) := bif Nat.blt pc 26 then (bif Nat.blt pc 12 then (bif Nat.blt pc 6 then (bif Nat.blt pc 2 then (bif Nat.blt pc 1 then (bif Nat.beq pc 0 then some (.iload_n 1, 1, 0, 0) else none) else (bif Nat.beq pc 1 then some (.iload_n 2, 1, 0, 0) else none)) else (bif Nat.blt pc 5 then (bif Nat.beq pc 2 then some (.if_icmp .ge (22), 3, 24, 0) else none) else (bif Nat.beq pc 5 then some (.aload_n 0, 1, 0, 0) else none))) else (bif Nat.blt pc 10 then (bif Nat.blt pc 9 then (bif Nat.beq pc 6 then some (.getfield 9, 3, 3, 3) else none) else (bif Nat.beq pc 9 then some (.iload_n 1, 1, 0, 0) else none)) else (bif Nat.blt pc 11 then (bif Nat.beq pc 10 then some (.iaload, 1, 0, 0) else none) else (bif Nat.beq pc 11 then some (.aload_n 0, 1, 0, 0) else none)))) else (bif Nat.blt pc 20 then (bif Nat.blt pc 16 then (bif Nat.blt pc 15 then (bif Nat.beq pc 12 then some (.getfield 9, 3, 3, 3) else none) else (bif Nat.beq pc 15 then some (.iload_n 2, 1, 0, 0) else none)) else (bif Nat.blt pc 17 then (bif Nat.beq pc 16 then some (.iaload, 1, 0, 0) else none) else (bif Nat.beq pc 17 then some (.if_icmp .ne (7), 3, 24, 0) else none))) else (bif Nat.blt pc 24 then (bif Nat.blt pc 21 then (bif Nat.beq pc 20 then some (.iconst 1, 1, 0, 0) else none) else (bif Nat.beq pc 21 then some (.goto (4), 3, 25, 0) else none)) else (bif Nat.blt pc 25 then (bif Nat.beq pc 24 then some (.iconst 0, 1, 0, 0) else none) else (bif Nat.beq pc 25 then some (.ireturn, 1, 0, 0) else none))))) else none
theorem oxn_26 : ∀ pc, 26 ≤ pc → oxi_26 pc = none := fun pc h => by unfold oxi_26; rw [show Nat.blt pc 26 = false from ox_blt h]; rfl
theorem oxd_26 : ∀ pc e, oxi_26 pc = some e → decode prog_5_method_4_code pc = .ok (e.1, e.2.1) := ox_tab 26 oxn_26 (by decide +kernel)
theorem oxc_26 : ∀ pc e, oxi_26 pc = some e → ox_chk 3 pc e = true := ox_tab2 26 oxn_26 (by decide +kernel)
/-- OrderAxioms$Program.placeRead(I)I -/
def oxi_27 (pc : Nat) : Option (Instr × Nat × Nat × Nat) := bif Nat.blt pc 12 then (bif Nat.blt pc 8 then (bif Nat.blt pc 4 then (bif Nat.blt pc 1 then (bif Nat.beq pc 0 then some (.aload_n 0, 1, 0, 0) else none) else (bif Nat.beq pc 1 then some (.getfield 18, 3, 3, 5) else none)) else (bif Nat.blt pc 5 then (bif Nat.beq pc 4 then some (.aload_n 0, 1, 0, 0) else none) else (bif Nat.beq pc 5 then some (.getfield 27, 3, 3, 8) else none))) else (bif Nat.blt pc 10 then (bif Nat.blt pc 9 then (bif Nat.beq pc 8 then some (.iload_n 1, 1, 0, 0) else none) else (bif Nat.beq pc 9 then some (.iaload, 1, 0, 0) else none)) else (bif Nat.blt pc 11 then (bif Nat.beq pc 10 then some (.iaload, 1, 0, 0) else none) else (bif Nat.beq pc 11 then some (.ireturn, 1, 0, 0) else none)))) else none
theorem oxn_27 : ∀ pc, 12 ≤ pc → oxi_27 pc = none := fun pc h => by unfold oxi_27; rw [show Nat.blt pc 12 = false from ox_blt h]; rfl
theorem oxd_27 : ∀ pc e, oxi_27 pc = some e → decode prog_5_method_5_code pc = .ok (e.1, e.2.1) := ox_tab 12 oxn_27 (by decide +kernel)
theorem oxc_27 : ∀ pc e, oxi_27 pc = some e → ox_chk 3 pc e = true := ox_tab2 12 oxn_27 (by decide +kernel)
/-- OrderAxioms$Program.countExecutions()I -/
def oxi_28 (pc : Nat) : Option (Instr × Nat × Nat × Nat) := bif Nat.blt pc 84 then (bif Nat.blt pc 41 then (bif Nat.blt pc 20 then (bif Nat.blt pc 6 then (bif Nat.blt pc 3 then (bif Nat.blt pc 1 then (bif Nat.beq pc 0 then some (.iconst 1, 1, 0, 0) else none) else (bif Nat.blt pc 2 then (bif Nat.beq pc 1 then some (.istore_n 1, 1, 0, 0) else none) else (bif Nat.beq pc 2 then some (.iconst 0, 1, 0, 0) else none))) else (bif Nat.blt pc 4 then (bif Nat.beq pc 3 then some (.istore_n 2, 1, 0, 0) else none) else (bif Nat.blt pc 5 then (bif Nat.beq pc 4 then some (.iload_n 2, 1, 0, 0) else none) else (bif Nat.beq pc 5 then some (.aload_n 0, 1, 0, 0) else none)))) else (bif Nat.blt pc 13 then (bif Nat.blt pc 9 then (bif Nat.beq pc 6 then some (.getfield 48, 3, 3, 2) else none) else (bif Nat.blt pc 12 then (bif Nat.beq pc 9 then some (.if_icmp .ge (31), 3, 40, 0) else none) else (bif Nat.beq pc 12 then some (.iload_n 1, 1, 0, 0) else none))) else (bif Nat.blt pc 16 then (bif Nat.beq pc 13 then some (.sipush 5000, 3, 0, 0) else none) else (bif Nat.blt pc 19 then (bif Nat.beq pc 16 then some (.if_icmp .gt (24), 3, 40, 0) else none) else (bif Nat.beq pc 19 then some (.iload_n 1, 1, 0, 0) else none))))) else (bif Nat.blt pc 30 then (bif Nat.blt pc 25 then (bif Nat.blt pc 21 then (bif Nat.beq pc 20 then some (.iconst 1, 1, 0, 0) else none) else (bif Nat.blt pc 22 then (bif Nat.beq pc 21 then some (.aload_n 0, 1, 0, 0) else none) else (bif Nat.beq pc 22 then some (.getfield 30, 3, 3, 9) else none))) else (bif Nat.blt pc 26 then (bif Nat.beq pc 25 then some (.aload_n 0, 1, 0, 0) else none) else (bif Nat.blt pc 27 then (bif Nat.beq pc 26 then some (.iload_n 2, 1, 0, 0) else none) else (bif Nat.beq pc 27 then some (.invokevirtual 51, 3, 27, 2) else none)))) else (bif Nat.blt pc 33 then (bif Nat.blt pc 31 then (bif Nat.beq pc 30 then some (.iaload, 1, 0, 0) else none) else (bif Nat.blt pc 32 then (bif Nat.beq pc 31 then some (.iadd, 1, 0, 0) else none) else (bif Nat.beq pc 32 then some (.imul, 1, 0, 0) else none))) else (bif Nat.blt pc 37 then (bif Nat.blt pc 34 then (bif Nat.beq pc 33 then some (.istore_n 1, 1, 0, 0) else none) else (bif Nat.beq pc 34 then some (.iinc 2 1, 3, 0, 0) else none)) else (bif Nat.blt pc 40 then (bif Nat.beq pc 37 then some (.goto (-33), 3, 4, 0) else none) else (bif Nat.beq pc 40 then some (.iconst 0, 1, 0, 0) else none)))))) else (bif Nat.blt pc 59 then (bif Nat.blt pc 49 then (bif Nat.blt pc 44 then (bif Nat.blt pc 42 then (bif Nat.beq pc 41 then some (.istore_n 2, 1, 0, 0) else none) else (bif Nat.blt pc 43 then (bif Nat.beq pc 42 then some (.iload_n 2, 1, 0, 0) else none) else (bif Nat.beq pc 43 then some (.iconst 4, 1, 0, 0) else none))) else (bif Nat.blt pc 47 then (bif Nat.beq pc 44 then some (.if_icmp .ge (38), 3, 82, 0) else none) else (bif Nat.blt pc 48 then (bif Nat.beq pc 47 then some (.iconst 2, 1, 0, 0) else none) else (bif Nat.beq pc 48 then some (.istore_n 3, 1, 0, 0) else none)))) else (bif Nat.blt pc 54 then (bif Nat.blt pc 50 then (bif Nat.beq pc 49 then some (.iload_n 3, 1, 0, 0) else none) else (bif Nat.blt pc 51 then (bif Nat.beq pc 50 then some (.aload_n 0, 1, 0, 0) else none) else (bif Nat.beq pc 51 then some (.getfield 30, 3, 3, 9) else none))) else (bif Nat.blt pc 55 then (bif Nat.beq pc 54 then some (.iload_n 2, 1, 0, 0) else none) else (bif Nat.blt pc 56 then (bif Nat.beq pc 55 then some (.iaload, 1, 0, 0) else none) else (bif Nat.beq pc 56 then some (.if_icmp .gt (20), 3, 76, 0) else none))))) else (bif Nat.blt pc 69 then (bif Nat.blt pc 66 then (bif Nat.blt pc 60 then (bif Nat.beq pc 59 then some (.iload_n 1, 1, 0, 0) else none) else (bif Nat.blt pc 63 then (bif Nat.beq pc 60 then some (.sipush 5000, 3, 0, 0) else none) else (bif Nat.beq pc 63 then some (.if_icmp .gt (13), 3, 76, 0) else none))) else (bif Nat.blt pc 67 then (bif Nat.beq pc 66 then some (.iload_n 1, 1, 0, 0) else none) else (bif Nat.blt pc 68 then (bif Nat.beq pc 67 then some (.iload_n 3, 1, 0, 0) else none) else (bif Nat.beq pc 68 then some (.imul, 1, 0, 0) else none)))) else (bif Nat.blt pc 76 then (bif Nat.blt pc 70 then (bif Nat.beq pc 69 then some (.istore_n 1, 1, 0, 0) else none) else (bif Nat.blt pc 73 then (bif Nat.beq pc 70 then some (.iinc 3 1, 3, 0, 0) else none) else (bif Nat.beq pc 73 then some (.goto (-24), 3, 49, 0) else none))) else (bif Nat.blt pc 82 then (bif Nat.blt pc 79 then (bif Nat.beq pc 76 then some (.iinc 2 1, 3, 0, 0) else none) else (bif Nat.beq pc 79 then some (.goto (-37), 3, 42, 0) else none)) else (bif Nat.blt pc 83 then (bif Nat.beq pc 82 then some (.iload_n 1, 1, 0, 0) else none) else (bif Nat.beq pc 83 then some (.ireturn, 1, 0, 0) else none))))))) else none
theorem oxn_28 : ∀ pc, 84 ≤ pc → oxi_28 pc = none := fun pc h => by unfold oxi_28; rw [show Nat.blt pc 84 = false from ox_blt h]; rfl
theorem oxd_28 : ∀ pc e, oxi_28 pc = some e → decode prog_5_method_6_code pc = .ok (e.1, e.2.1) := ox_tab 84 oxn_28 (by decide +kernel)
theorem oxc_28 : ∀ pc e, oxi_28 pc = some e → ox_chk 3 pc e = true := ox_tab2 84 oxn_28 (by decide +kernel)
/-- OrderAxioms$Ring.find([II)V -/
def oxi_29 (pc : Nat) : Option (Instr × Nat × Nat × Nat) := bif Nat.blt pc 76 then (bif Nat.blt pc 36 then (bif Nat.blt pc 14 then (bif Nat.blt pc 7 then (bif Nat.blt pc 2 then (bif Nat.blt pc 1 then (bif Nat.beq pc 0 then some (.aload_n 0, 1, 0, 0) else none) else (bif Nat.beq pc 1 then some (.iconst 0, 1, 0, 0) else none)) else (bif Nat.blt pc 5 then (bif Nat.beq pc 2 then some (.putfield 18, 3, 4, 0) else none) else (bif Nat.blt pc 6 then (bif Nat.beq pc 5 then some (.iconst 0, 1, 0, 0) else none) else (bif Nat.beq pc 6 then some (.istore_n 3, 1, 0, 0) else none)))) else (bif Nat.blt pc 9 then (bif Nat.blt pc 8 then (bif Nat.beq pc 7 then some (.iload_n 3, 1, 0, 0) else none) else (bif Nat.beq pc 8 then some (.iload_n 2, 1, 0, 0) else none)) else (bif Nat.blt pc 12 then (bif Nat.beq pc 9 then some (.if_icmp .ge (52), 3, 61, 0) else none) else (bif Nat.blt pc 13 then (bif Nat.beq pc 12 then some (.aload_n 0, 1, 0, 0) else none) else (bif Nat.beq pc 13 then some (.aload_n 1, 1, 0, 0) else none))))) else (bif Nat.blt pc 23 then (bif Nat.blt pc 16 then (bif Nat.blt pc 15 then (bif Nat.beq pc 14 then some (.iload_n 3, 1, 0, 0) else none) else (bif Nat.beq pc 15 then some (.iload_n 2, 1, 0, 0) else none)) else (bif Nat.blt pc 19 then (bif Nat.beq pc 16 then some (.invokevirtual 22, 3, 30, 4) else none) else (bif Nat.blt pc 21 then (bif Nat.beq pc 19 then some (.istore 4, 2, 0, 0) else none) else (bif Nat.beq pc 21 then some (.iload 4, 2, 0, 0) else none)))) else (bif Nat.blt pc 30 then (bif Nat.blt pc 26 then (bif Nat.beq pc 23 then some (.ifCond .eq (32), 3, 55, 0) else none) else (bif Nat.blt pc 27 then (bif Nat.beq pc 26 then some (.aload_n 0, 1, 0, 0) else none) else (bif Nat.beq pc 27 then some (.getfield 18, 3, 4, 0) else none))) else (bif Nat.blt pc 33 then (bif Nat.beq pc 30 then some (.ifCond .eq (12), 3, 42, 0) else none) else (bif Nat.blt pc 35 then (bif Nat.beq pc 33 then some (.iload 4, 2, 0, 0) else none) else (bif Nat.beq pc 35 then some (.aload_n 0, 1, 0, 0) else none)))))) else (bif Nat.blt pc 55 then (bif Nat.blt pc 48 then (bif Nat.blt pc 42 then (bif Nat.blt pc 39 then (bif Nat.beq pc 36 then some (.getfield 18, 3, 4, 0) else none) else (bif Nat.beq pc 39 then some (.if_icmp .ge (16), 3, 55, 0) else none)) else (bif Nat.blt pc 43 then (bif Nat.beq pc 42 then some (.aload_n 0, 1, 0, 0) else none) else (bif Nat.blt pc 45 then (bif Nat.beq pc 43 then some (.iload 4, 2, 0, 0) else none) else (bif Nat.beq pc 45 then some (.putfield 18, 3, 4, 0) else none)))) else (bif Nat.blt pc 52 then (bif Nat.blt pc 49 then (bif Nat.beq pc 48 then some (.aload_n 0, 1, 0, 0) else none) else (bif Nat.beq pc 49 then some (.getfield 9, 3, 4, 1) else none)) else (bif Nat.blt pc 53 then (bif Nat.beq pc 52 then some (.iconst 0, 1, 0, 0) else none) else (bif Nat.blt pc 54 then (bif Nat.beq pc 53 then some (.iload_n 3, 1, 0, 0) else none) else (bif Nat.beq pc 54 then some (.iastore, 1, 0, 0) else none))))) else (bif Nat.blt pc 66 then (bif Nat.blt pc 61 then (bif Nat.blt pc 58 then (bif Nat.beq pc 55 then some (.iinc 3 1, 3, 0, 0) else none) else (bif Nat.beq pc 58 then some (.goto (-51), 3, 7, 0) else none)) else (bif Nat.blt pc 62 then (bif Nat.beq pc 61 then some (.aload_n 0, 1, 0, 0) else none) else (bif Nat.blt pc 65 then (bif Nat.beq pc 62 then some (.getfield 18, 3, 4, 0) else none) else (bif Nat.beq pc 65 then some (.iconst 1, 1, 0, 0) else none)))) else (bif Nat.blt pc 71 then (bif Nat.blt pc 69 then (bif Nat.beq pc 66 then some (.if_icmp .le (9), 3, 75, 0) else none) else (bif Nat.blt pc 70 then (bif Nat.beq pc 69 then some (.aload_n 0, 1, 0, 0) else none) else (bif Nat.beq pc 70 then some (.aload_n 1, 1, 0, 0) else none))) else (bif Nat.blt pc 72 then (bif Nat.beq pc 71 then some (.iload_n 2, 1, 0, 0) else none) else (bif Nat.blt pc 75 then (bif Nat.beq pc 72 then some (.invokevirtual 26, 3, 31, 3) else none) else (bif Nat.beq pc 75 then some (.return_, 1, 0, 0) else none))))))) else none
theorem oxn_29 : ∀ pc, 76 ≤ pc → oxi_29 pc = none := fun pc h => by unfold oxi_29; rw [show Nat.blt pc 76 = false from ox_blt h]; rfl
theorem oxd_29 : ∀ pc e, oxi_29 pc = some e → decode prog_6_method_2_code pc = .ok (e.1, e.2.1) := ox_tab 76 oxn_29 (by decide +kernel)
theorem oxc_29 : ∀ pc e, oxi_29 pc = some e → ox_chk 4 pc e = true := ox_tab2 76 oxn_29 (by decide +kernel)
/-- OrderAxioms$Ring.stepsAround([III)I -/
def oxi_30 (pc : Nat) : Option (Instr × Nat × Nat × Nat) := bif Nat.blt pc 64 then (bif Nat.blt pc 32 then (bif Nat.blt pc 14 then (bif Nat.blt pc 7 then (bif Nat.blt pc 4 then (bif Nat.blt pc 1 then (bif Nat.beq pc 0 then some (.aload_n 0, 1, 0, 0) else none) else (bif Nat.beq pc 1 then some (.getfield 15, 3, 4, 2) else none)) else (bif Nat.blt pc 5 then (bif Nat.beq pc 4 then some (.iconst 0, 1, 0, 0) else none) else (bif Nat.blt pc 6 then (bif Nat.beq pc 5 then some (.iconst 1, 1, 0, 0) else none) else (bif Nat.beq pc 6 then some (.iload_n 2, 1, 0, 0) else none)))) else (bif Nat.blt pc 9 then (bif Nat.blt pc 8 then (bif Nat.beq pc 7 then some (.ishl, 1, 0, 0) else none) else (bif Nat.beq pc 8 then some (.iastore, 1, 0, 0) else none)) else (bif Nat.blt pc 10 then (bif Nat.beq pc 9 then some (.iconst 1, 1, 0, 0) else none) else (bif Nat.blt pc 12 then (bif Nat.beq pc 10 then some (.istore 4, 2, 0, 0) else none) else (bif Nat.beq pc 12 then some (.iload 4, 2, 0, 0) else none))))) else (bif Nat.blt pc 24 then (bif Nat.blt pc 18 then (bif Nat.blt pc 15 then (bif Nat.beq pc 14 then some (.iload_n 3, 1, 0, 0) else none) else (bif Nat.beq pc 15 then some (.if_icmp .gt (47), 3, 62, 0) else none)) else (bif Nat.blt pc 19 then (bif Nat.beq pc 18 then some (.aload_n 0, 1, 0, 0) else none) else (bif Nat.blt pc 22 then (bif Nat.beq pc 19 then some (.getfield 15, 3, 4, 2) else none) else (bif Nat.beq pc 22 then some (.iload 4, 2, 0, 0) else none)))) else (bif Nat.blt pc 26 then (bif Nat.blt pc 25 then (bif Nat.beq pc 24 then some (.aload_n 1, 1, 0, 0) else none) else (bif Nat.beq pc 25 then some (.aload_n 0, 1, 0, 0) else none)) else (bif Nat.blt pc 29 then (bif Nat.beq pc 26 then some (.getfield 15, 3, 4, 2) else none) else (bif Nat.blt pc 31 then (bif Nat.beq pc 29 then some (.iload 4, 2, 0, 0) else none) else (bif Nat.beq pc 31 then some (.iconst 1, 1, 0, 0) else none)))))) else (bif Nat.blt pc 47 then (bif Nat.blt pc 39 then (bif Nat.blt pc 34 then (bif Nat.blt pc 33 then (bif Nat.beq pc 32 then some (.isub, 1, 0, 0) else none) else (bif Nat.beq pc 33 then some (.iaload, 1, 0, 0) else none)) else (bif Nat.blt pc 35 then (bif Nat.beq pc 34 then some (.iload_n 3, 1, 0, 0) else none) else (bif Nat.blt pc 38 then (bif Nat.beq pc 35 then some (.invokestatic 30, 3, 98, 3) else none) else (bif Nat.beq pc 38 then some (.iastore, 1, 0, 0) else none)))) else (bif Nat.blt pc 43 then (bif Nat.blt pc 40 then (bif Nat.beq pc 39 then some (.aload_n 0, 1, 0, 0) else none) else (bif Nat.beq pc 40 then some (.getfield 15, 3, 4, 2) else none)) else (bif Nat.blt pc 45 then (bif Nat.beq pc 43 then some (.iload 4, 2, 0, 0) else none) else (bif Nat.blt pc 46 then (bif Nat.beq pc 45 then some (.iaload, 1, 0, 0) else none) else (bif Nat.beq pc 46 then some (.iconst 1, 1, 0, 0) else none))))) else (bif Nat.blt pc 55 then (bif Nat.blt pc 49 then (bif Nat.blt pc 48 then (bif Nat.beq pc 47 then some (.iload_n 2, 1, 0, 0) else none) else (bif Nat.beq pc 48 then some (.ishl, 1, 0, 0) else none)) else (bif Nat.blt pc 50 then (bif Nat.beq pc 49 then some (.iand, 1, 0, 0) else none) else (bif Nat.blt pc 53 then (bif Nat.beq pc 50 then some (.ifCond .eq (6), 3, 56, 0) else none) else (bif Nat.beq pc 53 then some (.iload 4, 2, 0, 0) else none)))) else (bif Nat.blt pc 59 then (bif Nat.blt pc 56 then (bif Nat.beq pc 55 then some (.ireturn, 1, 0, 0) else none) else (bif Nat.beq pc 56 then some (.iinc 4 1, 3, 0, 0) else none)) else (bif Nat.blt pc 62 then (bif Nat.beq pc 59 then some (.goto (-47), 3, 12, 0) else none) else (bif Nat.blt pc 63 then (bif Nat.beq pc 62 then some (.iconst 0, 1, 0, 0) else none) else (bif Nat.beq pc 63 then some (.ireturn, 1, 0, 0) else none))))))) else none
theorem oxn_30 : ∀ pc, 64 ≤ pc → oxi_30 pc = none := fun pc h => by unfold oxi_30; rw [show Nat.blt pc 64 = false from ox_blt h]; rfl
theorem oxd_30 : ∀ pc e, oxi_30 pc = some e → decode prog_6_method_3_code pc = .ok (e.1, e.2.1) := ox_tab 64 oxn_30 (by decide +kernel)
theorem oxc_30 : ∀ pc e, oxi_30 pc = some e → ox_chk 4 pc e = true := ox_tab2 64 oxn_30 (by decide +kernel)
/-- OrderAxioms$Ring.follow([II)V -/
def oxi_31 (pc : Nat) : Option (Instr × Nat × Nat × Nat) := bif Nat.blt pc 62 then (bif Nat.blt pc 30 then (bif Nat.blt pc 14 then (bif Nat.blt pc 7 then (bif Nat.blt pc 2 then (bif Nat.blt pc 1 then (bif Nat.beq pc 0 then some (.aload_n 0, 1, 0, 0) else none) else (bif Nat.beq pc 1 then some (.aload_n 1, 1, 0, 0) else none)) else (bif Nat.blt pc 3 then (bif Nat.beq pc 2 then some (.aload_n 0, 1, 0, 0) else none) else (bif Nat.blt pc 6 then (bif Nat.beq pc 3 then some (.getfield 9, 3, 4, 1) else none) else (bif Nat.beq pc 6 then some (.iconst 0, 1, 0, 0) else none)))) else (bif Nat.blt pc 9 then (bif Nat.blt pc 8 then (bif Nat.beq pc 7 then some (.iaload, 1, 0, 0) else none) else (bif Nat.beq pc 8 then some (.iload_n 2, 1, 0, 0) else none)) else (bif Nat.blt pc 12 then (bif Nat.beq pc 9 then some (.invokevirtual 22, 3, 30, 4) else none) else (bif Nat.blt pc 13 then (bif Nat.beq pc 12 then some (.pop, 1, 0, 0) else none) else (bif Nat.beq pc 13 then some (.iconst 1, 1, 0, 0) else none))))) else (bif Nat.blt pc 23 then (bif Nat.blt pc 16 then (bif Nat.blt pc 15 then (bif Nat.beq pc 14 then some (.istore_n 3, 1, 0, 0) else none) else (bif Nat.beq pc 15 then some (.iload_n 3, 1, 0, 0) else none)) else (bif Nat.blt pc 17 then (bif Nat.beq pc 16 then some (.aload_n 0, 1, 0, 0) else none) else (bif Nat.blt pc 20 then (bif Nat.beq pc 17 then some (.getfield 18, 3, 4, 0) else none) else (bif Nat.beq pc 20 then some (.if_icmp .ge (41), 3, 61, 0) else none)))) else (bif Nat.blt pc 27 then (bif Nat.blt pc 24 then (bif Nat.beq pc 23 then some (.aload_n 0, 1, 0, 0) else none) else (bif Nat.beq pc 24 then some (.getfield 9, 3, 4, 1) else none)) else (bif Nat.blt pc 28 then (bif Nat.beq pc 27 then some (.iload_n 3, 1, 0, 0) else none) else (bif Nat.blt pc 29 then (bif Nat.beq pc 28 then some (.aload_n 1, 1, 0, 0) else none) else (bif Nat.beq pc 29 then some (.aload_n 0, 1, 0, 0) else none)))))) else (bif Nat.blt pc 46 then (bif Nat.blt pc 37 then (bif Nat.blt pc 34 then (bif Nat.blt pc 33 then (bif Nat.beq pc 30 then some (.getfield 9, 3, 4, 1) else none) else (bif Nat.beq pc 33 then some (.iload_n 3, 1, 0, 0) else none)) else (bif Nat.blt pc 35 then (bif Nat.beq pc 34 then some (.iconst 1, 1, 0, 0) else none) else (bif Nat.blt pc 36 then (bif Nat.beq pc 35 then some (.isub, 1, 0, 0) else none) else (bif Nat.beq pc 36 then some (.iaload, 1, 0, 0) else none)))) else (bif Nat.blt pc 39 then (bif Nat.blt pc 38 then (bif Nat.beq pc 37 then some (.iaload, 1, 0, 0) else none) else (bif Nat.beq pc 38 then some (.aload_n 0, 1, 0, 0) else none)) else (bif Nat.blt pc 42 then (bif Nat.beq pc 39 then some (.getfield 15, 3, 4, 2) else none) else (bif Nat.blt pc 43 then (bif Nat.beq pc 42 then some (.aload_n 0, 1, 0, 0) else none) else (bif Nat.beq pc 43 then some (.getfield 18, 3, 4, 0) else none))))) else (bif Nat.blt pc 51 then (bif Nat.blt pc 48 then (bif Nat.blt pc 47 then (bif Nat.beq pc 46 then some (.iload_n 3, 1, 0, 0) else none) else (bif Nat.beq pc 47 then some (.isub, 1, 0, 0) else none)) else (bif Nat.blt pc 49 then (bif Nat.beq pc 48 then some (.iaload, 1, 0, 0) else none) else (bif Nat.blt pc 50 then (bif Nat.beq pc 49 then some (.iand, 1, 0, 0) else none) else (bif Nat.beq pc 50 then some (.iconst 0, 1, 0, 0) else none)))) else (bif Nat.blt pc 55 then (bif Nat.blt pc 54 then (bif Nat.beq pc 51 then some (.invokestatic 35, 3, 99, 2) else none) else (bif Nat.beq pc 54 then some (.iastore, 1, 0, 0) else none)) else (bif Nat.blt pc 58 then (bif Nat.beq pc 55 then some (.iinc 3 1, 3, 0, 0) else none) else (bif Nat.blt pc 61 then (bif Nat.beq pc 58 then some (.goto (-43), 3, 15, 0) else none) else (bif Nat.beq pc 61 then some (.return_, 1, 0, 0) else none))))))) else none
theorem oxn_31 : ∀ pc, 62 ≤ pc → oxi_31 pc = none := fun pc h => by unfold oxi_31; rw [show Nat.blt pc 62 = false from ox_blt h]; rfl
theorem oxd_31 : ∀ pc e, oxi_31 pc = some e → decode prog_6_method_4_code pc = .ok (e.1, e.2.1) := ox_tab 62 oxn_31 (by decide +kernel)
theorem oxc_31 : ∀ pc e, oxi_31 pc = some e → ox_chk 4 pc e = true := ox_tab2 62 oxn_31 (by decide +kernel)
/-- OrderAxioms.thread()I -/
def oxi_32 (pc : Nat) : Option (Instr × Nat × Nat × Nat) := bif Nat.blt pc 44 then (bif Nat.blt pc 22 then (bif Nat.blt pc 11 then (bif Nat.blt pc 4 then (bif Nat.blt pc 1 then (bif Nat.beq pc 0 then some (.aload_n 0, 1, 0, 0) else none) else (bif Nat.beq pc 1 then some (.getfield 10, 3, 5, 0) else none)) else (bif Nat.blt pc 7 then (bif Nat.beq pc 4 then some (.getfield 47, 3, 3, 0) else none) else (bif Nat.blt pc 8 then (bif Nat.beq pc 7 then some (.iconst 4, 1, 0, 0) else none) else (bif Nat.beq pc 8 then some (.if_icmp .lt (13), 3, 21, 0) else none)))) else (bif Nat.blt pc 17 then (bif Nat.blt pc 14 then (bif Nat.beq pc 11 then some (.new 51, 3, 0, 0) else none) else (bif Nat.blt pc 15 then (bif Nat.beq pc 14 then some (.dup, 1, 0, 0) else none) else (bif Nat.beq pc 15 then some (.ldc 53, 2, 0, 0) else none))) else (bif Nat.blt pc 20 then (bif Nat.beq pc 17 then some (.invokespecial 55, 3, 900, 0) else none) else (bif Nat.blt pc 21 then (bif Nat.beq pc 20 then some (.athrow, 1, 0, 0) else none) else (bif Nat.beq pc 21 then some (.aload_n 0, 1, 0, 0) else none))))) else (bif Nat.blt pc 34 then (bif Nat.blt pc 29 then (bif Nat.blt pc 25 then (bif Nat.beq pc 22 then some (.getfield 10, 3, 5, 0) else none) else (bif Nat.blt pc 26 then (bif Nat.beq pc 25 then some (.dup, 1, 0, 0) else none) else (bif Nat.beq pc 26 then some (.getfield 47, 3, 3, 0) else none))) else (bif Nat.blt pc 30 then (bif Nat.beq pc 29 then some (.iconst 1, 1, 0, 0) else none) else (bif Nat.blt pc 31 then (bif Nat.beq pc 30 then some (.iadd, 1, 0, 0) else none) else (bif Nat.beq pc 31 then some (.putfield 47, 3, 3, 0) else none)))) else (bif Nat.blt pc 41 then (bif Nat.blt pc 35 then (bif Nat.beq pc 34 then some (.aload_n 0, 1, 0, 0) else none) else (bif Nat.blt pc 38 then (bif Nat.beq pc 35 then some (.getfield 10, 3, 5, 0) else none) else (bif Nat.beq pc 38 then some (.getfield 47, 3, 3, 0) else none))) else (bif Nat.blt pc 42 then (bif Nat.beq pc 41 then some (.iconst 1, 1, 0, 0) else none) else (bif Nat.blt pc 43 then (bif Nat.beq pc 42 then some (.isub, 1, 0, 0) else none) else (bif Nat.beq pc 43 then some (.ireturn, 1, 0, 0) else none)))))) else none
theorem oxn_32 : ∀ pc, 44 ≤ pc → oxi_32 pc = none := fun pc h => by unfold oxi_32; rw [show Nat.blt pc 44 = false from ox_blt h]; rfl
theorem oxd_32 : ∀ pc e, oxi_32 pc = some e → decode prog_1_method_2_code pc = .ok (e.1, e.2.1) := ox_tab 44 oxn_32 (by decide +kernel)
theorem oxc_32 : ∀ pc e, oxi_32 pc = some e → ox_chk 5 pc e = true := ox_tab2 44 oxn_32 (by decide +kernel)
/-- OrderAxioms.event(IIII)I -/
def oxi_33 (pc : Nat) : Option (Instr × Nat × Nat × Nat) := bif Nat.blt pc 106 then (bif Nat.blt pc 53 then (bif Nat.blt pc 28 then (bif Nat.blt pc 14 then (bif Nat.blt pc 5 then (bif Nat.blt pc 1 then (bif Nat.beq pc 0 then some (.iload_n 1, 1, 0, 0) else none) else (bif Nat.blt pc 2 then (bif Nat.beq pc 1 then some (.aload_n 0, 1, 0, 0) else none) else (bif Nat.beq pc 2 then some (.getfield 10, 3, 5, 0) else none))) else (bif Nat.blt pc 8 then (bif Nat.beq pc 5 then some (.getfield 47, 3, 3, 0) else none) else (bif Nat.blt pc 11 then (bif Nat.beq pc 8 then some (.invokestatic 58, 3, 49, 2) else none) else (bif Nat.beq pc 11 then some (.ifCond .ne (13), 3, 24, 0) else none)))) else (bif Nat.blt pc 20 then (bif Nat.blt pc 17 then (bif Nat.beq pc 14 then some (.new 62, 3, 1, 0) else none) else (bif Nat.blt pc 18 then (bif Nat.beq pc 17 then some (.dup, 1, 0, 0) else none) else (bif Nat.beq pc 18 then some (.ldc 64, 2, 0, 0) else none))) else (bif Nat.blt pc 24 then (bif Nat.blt pc 23 then (bif Nat.beq pc 20 then some (.invokespecial 66, 3, 900, 0) else none) else (bif Nat.beq pc 23 then some (.athrow, 1, 0, 0) else none)) else (bif Nat.blt pc 25 then (bif Nat.beq pc 24 then some (.iload_n 2, 1, 0, 0) else none) else (bif Nat.beq pc 25 then some (.ifCond .eq (23), 3, 48, 0) else none))))) else (bif Nat.blt pc 41 then (bif Nat.blt pc 33 then (bif Nat.blt pc 29 then (bif Nat.beq pc 28 then some (.iload_n 2, 1, 0, 0) else none) else (bif Nat.blt pc 30 then (bif Nat.beq pc 29 then some (.iconst 1, 1, 0, 0) else none) else (bif Nat.beq pc 30 then some (.if_icmp .eq (18), 3, 48, 0) else none))) else (bif Nat.blt pc 35 then (bif Nat.blt pc 34 then (bif Nat.beq pc 33 then some (.iload_n 2, 1, 0, 0) else none) else (bif Nat.beq pc 34 then some (.iconst 2, 1, 0, 0) else none)) else (bif Nat.blt pc 38 then (bif Nat.beq pc 35 then some (.if_icmp .eq (13), 3, 48, 0) else none) else (bif Nat.beq pc 38 then some (.new 62, 3, 1, 0) else none)))) else (bif Nat.blt pc 47 then (bif Nat.blt pc 42 then (bif Nat.beq pc 41 then some (.dup, 1, 0, 0) else none) else (bif Nat.blt pc 44 then (bif Nat.beq pc 42 then some (.ldc 67, 2, 0, 0) else none) else (bif Nat.beq pc 44 then some (.invokespecial 66, 3, 900, 0) else none))) else (bif Nat.blt pc 49 then (bif Nat.blt pc 48 then (bif Nat.beq pc 47 then some (.athrow, 1, 0, 0) else none) else (bif Nat.beq pc 48 then some (.iload_n 2, 1, 0, 0) else none)) else (bif Nat.blt pc 50 then (bif Nat.beq pc 49 then some (.iconst 2, 1, 0, 0) else none) else (bif Nat.beq pc 50 then some (.if_icmp .eq (21), 3, 71, 0) else none)))))) else (bif Nat.blt pc 80 then (bif Nat.blt pc 65 then (bif Nat.blt pc 58 then (bif Nat.blt pc 54 then (bif Nat.beq pc 53 then some (.iload_n 3, 1, 0, 0) else none) else (bif Nat.blt pc 55 then (bif Nat.beq pc 54 then some (.iconst 4, 1, 0, 0) else none) else (bif Nat.beq pc 55 then some (.invokestatic 58, 3, 49, 2) else none))) else (bif Nat.blt pc 61 then (bif Nat.beq pc 58 then some (.ifCond .ne (13), 3, 71, 0) else none) else (bif Nat.blt pc 64 then (bif Nat.beq pc 61 then some (.new 62, 3, 1, 0) else none) else (bif Nat.beq pc 64 then some (.dup, 1, 0, 0) else none)))) else (bif Nat.blt pc 71 then (bif Nat.blt pc 67 then (bif Nat.beq pc 65 then some (.ldc 69, 2, 0, 0) else none) else (bif Nat.blt pc 70 then (bif Nat.beq pc 67 then some (.invokespecial 66, 3, 900, 0) else none) else (bif Nat.beq pc 70 then some (.athrow, 1, 0, 0) else none))) else (bif Nat.blt pc 75 then (bif Nat.blt pc 72 then (bif Nat.beq pc 71 then some (.aload_n 0, 1, 0, 0) else none) else (bif Nat.beq pc 72 then some (.getfield 10, 3, 5, 0) else none)) else (bif Nat.blt pc 78 then (bif Nat.beq pc 75 then some (.getfield 71, 3, 3, 1) else none) else (bif Nat.beq pc 78 then some (.bipush 12, 2, 0, 0) else none))))) else (bif Nat.blt pc 94 then (bif Nat.blt pc 87 then (bif Nat.blt pc 83 then (bif Nat.beq pc 80 then some (.if_icmp .lt (13), 3, 93, 0) else none) else (bif Nat.blt pc 86 then (bif Nat.beq pc 83 then some (.new 51, 3, 0, 0) else none) else (bif Nat.beq pc 86 then some (.dup, 1, 0, 0) else none))) else (bif Nat.blt pc 92 then (bif Nat.blt pc 89 then (bif Nat.beq pc 87 then some (.ldc 74, 2, 0, 0) else none) else (bif Nat.beq pc 89 then some (.invokespecial 55, 3, 900, 0) else none)) else (bif Nat.blt pc 93 then (bif Nat.beq pc 92 then some (.athrow, 1, 0, 0) else none) else (bif Nat.beq pc 93 then some (.aload_n 0, 1, 0, 0) else none)))) else (bif Nat.blt pc 99 then (bif Nat.blt pc 97 then (bif Nat.beq pc 94 then some (.getfield 10, 3, 5, 0) else none) else (bif Nat.blt pc 98 then (bif Nat.beq pc 97 then some (.iload_n 1, 1, 0, 0) else none) else (bif Nat.beq pc 98 then some (.iload_n 2, 1, 0, 0) else none))) else (bif Nat.blt pc 102 then (bif Nat.blt pc 100 then (bif Nat.beq pc 99 then some (.iload_n 3, 1, 0, 0) else none) else (bif Nat.beq pc 100 then some (.iload 4, 2, 0, 0) else none)) else (bif Nat.blt pc 105 then (bif Nat.beq pc 102 then some (.invokevirtual 76, 3, 25, 5) else none) else (bif Nat.beq pc 105 then some (.ireturn, 1, 0, 0) else none))))))) else none
theorem oxn_33 : ∀ pc, 106 ≤ pc → oxi_33 pc = none := fun pc h => by unfold oxi_33; rw [show Nat.blt pc 106 = false from ox_blt h]; rfl
theorem oxd_33 : ∀ pc e, oxi_33 pc = some e → decode prog_1_method_3_code pc = .ok (e.1, e.2.1) := ox_tab 106 oxn_33 (by decide +kernel)
theorem oxc_33 : ∀ pc e, oxi_33 pc = some e → ox_chk 5 pc e = true := ox_tab2 106 oxn_33 (by decide +kernel)
/-- OrderAxioms.depends(II)Z -/
def oxi_34 (pc : Nat) : Option (Instr × Nat × Nat × Nat) := bif Nat.blt pc 124 then (bif Nat.blt pc 69 then (bif Nat.blt pc 38 then (bif Nat.blt pc 16 then (bif Nat.blt pc 8 then (bif Nat.blt pc 2 then (bif Nat.blt pc 1 then (bif Nat.beq pc 0 then some (.iload_n 1, 1, 0, 0) else none) else (bif Nat.beq pc 1 then some (.aload_n 0, 1, 0, 0) else none)) else (bif Nat.blt pc 5 then (bif Nat.beq pc 2 then some (.getfield 10, 3, 5, 0) else none) else (bif Nat.beq pc 5 then some (.getfield 71, 3, 3, 1) else none))) else (bif Nat.blt pc 14 then (bif Nat.blt pc 11 then (bif Nat.beq pc 8 then some (.invokestatic 58, 3, 49, 2) else none) else (bif Nat.beq pc 11 then some (.ifCond .eq (17), 3, 28, 0) else none)) else (bif Nat.blt pc 15 then (bif Nat.beq pc 14 then some (.iload_n 2, 1, 0, 0) else none) else (bif Nat.beq pc 15 then some (.aload_n 0, 1, 0, 0) else none)))) else (bif Nat.blt pc 28 then (bif Nat.blt pc 22 then (bif Nat.blt pc 19 then (bif Nat.beq pc 16 then some (.getfield 10, 3, 5, 0) else none) else (bif Nat.beq pc 19 then some (.getfield 71, 3, 3, 1) else none)) else (bif Nat.blt pc 25 then (bif Nat.beq pc 22 then some (.invokestatic 58, 3, 49, 2) else none) else (bif Nat.beq pc 25 then some (.ifCond .ne (13), 3, 38, 0) else none))) else (bif Nat.blt pc 32 then (bif Nat.blt pc 31 then (bif Nat.beq pc 28 then some (.new 62, 3, 1, 0) else none) else (bif Nat.beq pc 31 then some (.dup, 1, 0, 0) else none)) else (bif Nat.blt pc 34 then (bif Nat.beq pc 32 then some (.ldc 80, 2, 0, 0) else none) else (bif Nat.blt pc 37 then (bif Nat.beq pc 34 then some (.invokespecial 66, 3, 900, 0) else none) else (bif Nat.beq pc 37 then some (.athrow, 1, 0, 0) else none)))))) else (bif Nat.blt pc 54 then (bif Nat.blt pc 46 then (bif Nat.blt pc 42 then (bif Nat.blt pc 39 then (bif Nat.beq pc 38 then some (.aload_n 0, 1, 0, 0) else none) else (bif Nat.beq pc 39 then some (.getfield 10, 3, 5, 0) else none)) else (bif Nat.blt pc 45 then (bif Nat.beq pc 42 then some (.getfield 82, 3, 3, 4) else none) else (bif Nat.beq pc 45 then some (.iload_n 1, 1, 0, 0) else none))) else (bif Nat.blt pc 50 then (bif Nat.blt pc 47 then (bif Nat.beq pc 46 then some (.iaload, 1, 0, 0) else none) else (bif Nat.beq pc 47 then some (.ifCond .ne (28), 3, 75, 0) else none)) else (bif Nat.blt pc 51 then (bif Nat.beq pc 50 then some (.aload_n 0, 1, 0, 0) else none) else (bif Nat.beq pc 51 then some (.getfield 10, 3, 5, 0) else none)))) else (bif Nat.blt pc 60 then (bif Nat.blt pc 58 then (bif Nat.blt pc 57 then (bif Nat.beq pc 54 then some (.getfield 82, 3, 3, 4) else none) else (bif Nat.beq pc 57 then some (.iload_n 2, 1, 0, 0) else none)) else (bif Nat.blt pc 59 then (bif Nat.beq pc 58 then some (.iaload, 1, 0, 0) else none) else (bif Nat.beq pc 59 then some (.iconst 2, 1, 0, 0) else none))) else (bif Nat.blt pc 64 then (bif Nat.blt pc 63 then (bif Nat.beq pc 60 then some (.if_icmp .eq (15), 3, 75, 0) else none) else (bif Nat.beq pc 63 then some (.aload_n 0, 1, 0, 0) else none)) else (bif Nat.blt pc 67 then (bif Nat.beq pc 64 then some (.getfield 10, 3, 5, 0) else none) else (bif Nat.blt pc 68 then (bif Nat.beq pc 67 then some (.iload_n 1, 1, 0, 0) else none) else (bif Nat.beq pc 68 then some (.iload_n 2, 1, 0, 0) else none))))))) else (bif Nat.blt pc 101 then (bif Nat.blt pc 86 then (bif Nat.blt pc 79 then (bif Nat.blt pc 75 then (bif Nat.blt pc 72 then (bif Nat.beq pc 69 then some (.invokevirtual 86, 3, 26, 3) else none) else (bif Nat.beq pc 72 then some (.ifCond .ne (13), 3, 85, 0) else none)) else (bif Nat.blt pc 78 then (bif Nat.beq pc 75 then some (.new 62, 3, 1, 0) else none) else (bif Nat.beq pc 78 then some (.dup, 1, 0, 0) else none))) else (bif Nat.blt pc 84 then (bif Nat.blt pc 81 then (bif Nat.beq pc 79 then some (.ldc 89, 2, 0, 0) else none) else (bif Nat.beq pc 81 then some (.invokespecial 66, 3, 900, 0) else none)) else (bif Nat.blt pc 85 then (bif Nat.beq pc 84 then some (.athrow, 1, 0, 0) else none) else (bif Nat.beq pc 85 then some (.aload_n 0, 1, 0, 0) else none)))) else (bif Nat.blt pc 94 then (bif Nat.blt pc 92 then (bif Nat.blt pc 89 then (bif Nat.beq pc 86 then some (.getfield 10, 3, 5, 0) else none) else (bif Nat.beq pc 89 then some (.getfield 91, 3, 3, 7) else none)) else (bif Nat.blt pc 93 then (bif Nat.beq pc 92 then some (.iload_n 1, 1, 0, 0) else none) else (bif Nat.beq pc 93 then some (.iaload, 1, 0, 0) else none))) else (bif Nat.blt pc 96 then (bif Nat.blt pc 95 then (bif Nat.beq pc 94 then some (.iconst 1, 1, 0, 0) else none) else (bif Nat.beq pc 95 then some (.iload_n 2, 1, 0, 0) else none)) else (bif Nat.blt pc 97 then (bif Nat.beq pc 96 then some (.ishl, 1, 0, 0) else none) else (bif Nat.blt pc 98 then (bif Nat.beq pc 97 then some (.iand, 1, 0, 0) else none) else (bif Nat.beq pc 98 then some (.ifCond .ne (7), 3, 105, 0) else none)))))) else (bif Nat.blt pc 115 then (bif Nat.blt pc 107 then (bif Nat.blt pc 105 then (bif Nat.blt pc 102 then (bif Nat.beq pc 101 then some (.iconst 1, 1, 0, 0) else none) else (bif Nat.beq pc 102 then some (.goto (4), 3, 106, 0) else none)) else (bif Nat.blt pc 106 then (bif Nat.beq pc 105 then some (.iconst 0, 1, 0, 0) else none) else (bif Nat.beq pc 106 then some (.istore_n 3, 1, 0, 0) else none))) else (bif Nat.blt pc 111 then (bif Nat.blt pc 108 then (bif Nat.beq pc 107 then some (.aload_n 0, 1, 0, 0) else none) else (bif Nat.beq pc 108 then some (.getfield 10, 3, 5, 0) else none)) else (bif Nat.blt pc 114 then (bif Nat.beq pc 111 then some (.getfield 91, 3, 3, 7) else none) else (bif Nat.beq pc 114 then some (.iload_n 1, 1, 0, 0) else none)))) else (bif Nat.blt pc 119 then (bif Nat.blt pc 117 then (bif Nat.blt pc 116 then (bif Nat.beq pc 115 then some (.dup2, 1, 0, 0) else none) else (bif Nat.beq pc 116 then some (.iaload, 1, 0, 0) else none)) else (bif Nat.blt pc 118 then (bif Nat.beq pc 117 then some (.iconst 1, 1, 0, 0) else none) else (bif Nat.beq pc 118 then some (.iload_n 2, 1, 0, 0) else none))) else (bif Nat.blt pc 121 then (bif Nat.blt pc 120 then (bif Nat.beq pc 119 then some (.ishl, 1, 0, 0) else none) else (bif Nat.beq pc 120 then some (.ior, 1, 0, 0) else none)) else (bif Nat.blt pc 122 then (bif Nat.beq pc 121 then some (.iastore, 1, 0, 0) else none) else (bif Nat.blt pc 123 then (bif Nat.beq pc 122 then some (.iload_n 3, 1, 0, 0) else none) else (bif Nat.beq pc 123 then some (.ireturn, 1, 0, 0) else none)))))))) else none
theorem oxn_34 : ∀ pc, 124 ≤ pc → oxi_34 pc = none := fun pc h => by unfold oxi_34; rw [show Nat.blt pc 124 = false from ox_blt h]; rfl
theorem oxd_34 : ∀ pc e, oxi_34 pc = some e → decode prog_1_method_4_code pc = .ok (e.1, e.2.1) := ox_tab 124 oxn_34 (by decide +kernel)
theorem oxc_34 : ∀ pc e, oxi_34 pc = some e → ox_chk 5 pc e = true := ox_tab2 124 oxn_34 (by decide +kernel)
/-- OrderAxioms.make(III)I -/
def oxi_35 (pc : Nat) : Option (Instr × Nat × Nat × Nat) := bif Nat.blt pc 97 then (bif Nat.blt pc 48 then (bif Nat.blt pc 20 then (bif Nat.blt pc 9 then (bif Nat.blt pc 4 then (bif Nat.blt pc 1 then (bif Nat.beq pc 0 then some (.iload_n 1, 1, 0, 0) else none) else (bif Nat.beq pc 1 then some (.ifCond .lt (8), 3, 9, 0) else none)) else (bif Nat.blt pc 5 then (bif Nat.beq pc 4 then some (.iload_n 1, 1, 0, 0) else none) else (bif Nat.blt pc 6 then (bif Nat.beq pc 5 then some (.iconst 5, 1, 0, 0) else none) else (bif Nat.beq pc 6 then some (.if_icmp .le (13), 3, 19, 0) else none)))) else (bif Nat.blt pc 15 then (bif Nat.blt pc 12 then (bif Nat.beq pc 9 then some (.new 62, 3, 1, 0) else none) else (bif Nat.blt pc 13 then (bif Nat.beq pc 12 then some (.dup, 1, 0, 0) else none) else (bif Nat.beq pc 13 then some (.ldc 94, 2, 0, 0) else none))) else (bif Nat.blt pc 18 then (bif Nat.beq pc 15 then some (.invokespecial 66, 3, 900, 0) else none) else (bif Nat.blt pc 19 then (bif Nat.beq pc 18 then some (.athrow, 1, 0, 0) else none) else (bif Nat.beq pc 19 then some (.iload_n 2, 1, 0, 0) else none))))) else (bif Nat.blt pc 34 then (bif Nat.blt pc 27 then (bif Nat.blt pc 21 then (bif Nat.beq pc 20 then some (.aload_n 0, 1, 0, 0) else none) else (bif Nat.blt pc 24 then (bif Nat.beq pc 21 then some (.getfield 19, 3, 5, 1) else none) else (bif Nat.beq pc 24 then some (.getfield 96, 3, 2, 0) else none))) else (bif Nat.blt pc 30 then (bif Nat.beq pc 27 then some (.invokestatic 58, 3, 49, 2) else none) else (bif Nat.blt pc 33 then (bif Nat.beq pc 30 then some (.ifCond .eq (24), 3, 54, 0) else none) else (bif Nat.beq pc 33 then some (.iload_n 1, 1, 0, 0) else none)))) else (bif Nat.blt pc 41 then (bif Nat.blt pc 37 then (bif Nat.beq pc 34 then some (.invokestatic 99, 3, 50, 1) else none) else (bif Nat.blt pc 40 then (bif Nat.beq pc 37 then some (.ifCond .eq (27), 3, 64, 0) else none) else (bif Nat.beq pc 40 then some (.iload_n 3, 1, 0, 0) else none))) else (bif Nat.blt pc 42 then (bif Nat.beq pc 41 then some (.aload_n 0, 1, 0, 0) else none) else (bif Nat.blt pc 45 then (bif Nat.beq pc 42 then some (.getfield 19, 3, 5, 1) else none) else (bif Nat.beq pc 45 then some (.getfield 96, 3, 2, 0) else none)))))) else (bif Nat.blt pc 76 then (bif Nat.blt pc 63 then (bif Nat.blt pc 57 then (bif Nat.blt pc 51 then (bif Nat.beq pc 48 then some (.invokestatic 58, 3, 49, 2) else none) else (bif Nat.blt pc 54 then (bif Nat.beq pc 51 then some (.ifCond .ne (13), 3, 64, 0) else none) else (bif Nat.beq pc 54 then some (.new 62, 3, 1, 0) else none))) else (bif Nat.blt pc 58 then (bif Nat.beq pc 57 then some (.dup, 1, 0, 0) else none) else (bif Nat.blt pc 60 then (bif Nat.beq pc 58 then some (.ldc 103, 2, 0, 0) else none) else (bif Nat.beq pc 60 then some (.invokespecial 66, 3, 900, 0) else none)))) else (bif Nat.blt pc 68 then (bif Nat.blt pc 64 then (bif Nat.beq pc 63 then some (.athrow, 1, 0, 0) else none) else (bif Nat.blt pc 65 then (bif Nat.beq pc 64 then some (.aload_n 0, 1, 0, 0) else none) else (bif Nat.beq pc 65 then some (.getfield 19, 3, 5, 1) else none))) else (bif Nat.blt pc 71 then (bif Nat.beq pc 68 then some (.getfield 96, 3, 2, 0) else none) else (bif Nat.blt pc 73 then (bif Nat.beq pc 71 then some (.bipush 40, 2, 0, 0) else none) else (bif Nat.beq pc 73 then some (.if_icmp .lt (13), 3, 86, 0) else none))))) else (bif Nat.blt pc 87 then (bif Nat.blt pc 82 then (bif Nat.blt pc 79 then (bif Nat.beq pc 76 then some (.new 51, 3, 0, 0) else none) else (bif Nat.blt pc 80 then (bif Nat.beq pc 79 then some (.dup, 1, 0, 0) else none) else (bif Nat.beq pc 80 then some (.ldc 105, 2, 0, 0) else none))) else (bif Nat.blt pc 85 then (bif Nat.beq pc 82 then some (.invokespecial 55, 3, 900, 0) else none) else (bif Nat.blt pc 86 then (bif Nat.beq pc 85 then some (.athrow, 1, 0, 0) else none) else (bif Nat.beq pc 86 then some (.aload_n 0, 1, 0, 0) else none)))) else (bif Nat.blt pc 92 then (bif Nat.blt pc 90 then (bif Nat.beq pc 87 then some (.getfield 19, 3, 5, 1) else none) else (bif Nat.blt pc 91 then (bif Nat.beq pc 90 then some (.iload_n 1, 1, 0, 0) else none) else (bif Nat.beq pc 91 then some (.iload_n 2, 1, 0, 0) else none))) else (bif Nat.blt pc 93 then (bif Nat.beq pc 92 then some (.iload_n 3, 1, 0, 0) else none) else (bif Nat.blt pc 96 then (bif Nat.beq pc 93 then some (.invokevirtual 107, 3, 20, 4) else none) else (bif Nat.beq pc 96 then some (.ireturn, 1, 0, 0) else none))))))) else none
theorem oxn_35 : ∀ pc, 97 ≤ pc → oxi_35 pc = none := fun pc h => by unfold oxi_35; rw [show Nat.blt pc 97 = false from ox_blt h]; rfl
theorem oxd_35 : ∀ pc e, oxi_35 pc = some e → decode prog_1_method_5_code pc = .ok (e.1, e.2.1) := ox_tab 97 oxn_35 (by decide +kernel)
theorem oxc_35 : ∀ pc e, oxi_35 pc = some e → ox_chk 5 pc e = true := ox_tab2 97 oxn_35 (by decide +kernel)
/-- OrderAxioms.rule(I)I -/
def oxi_36 (pc : Nat) : Option (Instr × Nat × Nat × Nat) := bif Nat.blt pc 62 then (bif Nat.blt pc 31 then (bif Nat.blt pc 17 then (bif Nat.blt pc 5 then (bif Nat.blt pc 1 then (bif Nat.beq pc 0 then some (.iload_n 1, 1, 0, 0) else none) else (bif Nat.blt pc 2 then (bif Nat.beq pc 1 then some (.aload_n 0, 1, 0, 0) else none) else (bif Nat.beq pc 2 then some (.getfield 19, 3, 5, 1) else none))) else (bif Nat.blt pc 11 then (bif Nat.blt pc 8 then (bif Nat.beq pc 5 then some (.getfield 96, 3, 2, 0) else none) else (bif Nat.beq pc 8 then some (.invokestatic 58, 3, 49, 2) else none)) else (bif Nat.blt pc 14 then (bif Nat.beq pc 11 then some (.ifCond .ne (13), 3, 24, 0) else none) else (bif Nat.beq pc 14 then some (.new 62, 3, 1, 0) else none)))) else (bif Nat.blt pc 23 then (bif Nat.blt pc 18 then (bif Nat.beq pc 17 then some (.dup, 1, 0, 0) else none) else (bif Nat.blt pc 20 then (bif Nat.beq pc 18 then some (.ldc 103, 2, 0, 0) else none) else (bif Nat.beq pc 20 then some (.invokespecial 66, 3, 900, 0) else none))) else (bif Nat.blt pc 25 then (bif Nat.blt pc 24 then (bif Nat.beq pc 23 then some (.athrow, 1, 0, 0) else none) else (bif Nat.beq pc 24 then some (.aload_n 0, 1, 0, 0) else none)) else (bif Nat.blt pc 28 then (bif Nat.beq pc 25 then some (.getfield 19, 3, 5, 1) else none) else (bif Nat.beq pc 28 then some (.getfield 111, 3, 2, 1) else none))))) else (bif Nat.blt pc 46 then (bif Nat.blt pc 39 then (bif Nat.blt pc 33 then (bif Nat.beq pc 31 then some (.bipush 8, 2, 0, 0) else none) else (bif Nat.blt pc 36 then (bif Nat.beq pc 33 then some (.if_icmp .lt (13), 3, 46, 0) else none) else (bif Nat.beq pc 36 then some (.new 51, 3, 0, 0) else none))) else (bif Nat.blt pc 42 then (bif Nat.blt pc 40 then (bif Nat.beq pc 39 then some (.dup, 1, 0, 0) else none) else (bif Nat.beq pc 40 then some (.ldc 114, 2, 0, 0) else none)) else (bif Nat.blt pc 45 then (bif Nat.beq pc 42 then some (.invokespecial 55, 3, 900, 0) else none) else (bif Nat.beq pc 45 then some (.athrow, 1, 0, 0) else none)))) else (bif Nat.blt pc 54 then (bif Nat.blt pc 50 then (bif Nat.blt pc 47 then (bif Nat.beq pc 46 then some (.aload_n 0, 1, 0, 0) else none) else (bif Nat.beq pc 47 then some (.getfield 19, 3, 5, 1) else none)) else (bif Nat.blt pc 51 then (bif Nat.beq pc 50 then some (.iload_n 1, 1, 0, 0) else none) else (bif Nat.beq pc 51 then some (.invokevirtual 116, 3, 21, 2) else none))) else (bif Nat.blt pc 58 then (bif Nat.blt pc 55 then (bif Nat.beq pc 54 then some (.aload_n 0, 1, 0, 0) else none) else (bif Nat.beq pc 55 then some (.getfield 19, 3, 5, 1) else none)) else (bif Nat.blt pc 61 then (bif Nat.beq pc 58 then some (.getfield 111, 3, 2, 1) else none) else (bif Nat.beq pc 61 then some (.ireturn, 1, 0, 0) else none)))))) else none
theorem oxn_36 : ∀ pc, 62 ≤ pc → oxi_36 pc = none := fun pc h => by unfold oxi_36; rw [show Nat.blt pc 62 = false from ox_blt h]; rfl
theorem oxd_36 : ∀ pc e, oxi_36 pc = some e → decode prog_1_method_6_code pc = .ok (e.1, e.2.1) := ox_tab 62 oxn_36 (by decide +kernel)
theorem oxc_36 : ∀ pc e, oxi_36 pc = some e → ox_chk 5 pc e = true := ox_tab2 62 oxn_36 (by decide +kernel)
/-- OrderAxioms.given(I)I -/
def oxi_37 (pc : Nat) : Option (Instr × Nat × Nat × Nat) := bif Nat.blt pc 85 then (bif Nat.blt pc 43 then (bif Nat.blt pc 20 then (bif Nat.blt pc 9 then (bif Nat.blt pc 4 then (bif Nat.blt pc 1 then (bif Nat.beq pc 0 then some (.iload_n 1, 1, 0, 0) else none) else (bif Nat.beq pc 1 then some (.ifCond .lt (8), 3, 9, 0) else none)) else (bif Nat.blt pc 5 then (bif Nat.beq pc 4 then some (.iload_n 1, 1, 0, 0) else none) else (bif Nat.blt pc 6 then (bif Nat.beq pc 5 then some (.iconst 5, 1, 0, 0) else none) else (bif Nat.beq pc 6 then some (.if_icmp .le (13), 3, 19, 0) else none)))) else (bif Nat.blt pc 15 then (bif Nat.blt pc 12 then (bif Nat.beq pc 9 then some (.new 62, 3, 1, 0) else none) else (bif Nat.blt pc 13 then (bif Nat.beq pc 12 then some (.dup, 1, 0, 0) else none) else (bif Nat.beq pc 13 then some (.ldc 67, 2, 0, 0) else none))) else (bif Nat.blt pc 18 then (bif Nat.beq pc 15 then some (.invokespecial 66, 3, 900, 0) else none) else (bif Nat.blt pc 19 then (bif Nat.beq pc 18 then some (.athrow, 1, 0, 0) else none) else (bif Nat.beq pc 19 then some (.aload_n 0, 1, 0, 0) else none))))) else (bif Nat.blt pc 31 then (bif Nat.blt pc 26 then (bif Nat.blt pc 23 then (bif Nat.beq pc 20 then some (.getfield 19, 3, 5, 1) else none) else (bif Nat.beq pc 23 then some (.invokevirtual 120, 3, 19, 1) else none)) else (bif Nat.blt pc 27 then (bif Nat.beq pc 26 then some (.iload_n 1, 1, 0, 0) else none) else (bif Nat.blt pc 28 then (bif Nat.beq pc 27 then some (.iconst 2, 1, 0, 0) else none) else (bif Nat.beq pc 28 then some (.if_icmp .ne (15), 3, 43, 0) else none)))) else (bif Nat.blt pc 36 then (bif Nat.blt pc 32 then (bif Nat.beq pc 31 then some (.aload_n 0, 1, 0, 0) else none) else (bif Nat.blt pc 35 then (bif Nat.beq pc 32 then some (.getfield 19, 3, 5, 1) else none) else (bif Nat.beq pc 35 then some (.iconst 0, 1, 0, 0) else none))) else (bif Nat.blt pc 37 then (bif Nat.beq pc 36 then some (.iconst 1, 1, 0, 0) else none) else (bif Nat.blt pc 40 then (bif Nat.beq pc 37 then some (.invokevirtual 123, 3, 22, 3) else none) else (bif Nat.beq pc 40 then some (.goto (16), 3, 56, 0) else none)))))) else (bif Nat.blt pc 62 then (bif Nat.blt pc 52 then (bif Nat.blt pc 47 then (bif Nat.blt pc 44 then (bif Nat.beq pc 43 then some (.iload_n 1, 1, 0, 0) else none) else (bif Nat.beq pc 44 then some (.ifCond .eq (12), 3, 56, 0) else none)) else (bif Nat.blt pc 48 then (bif Nat.beq pc 47 then some (.aload_n 0, 1, 0, 0) else none) else (bif Nat.blt pc 51 then (bif Nat.beq pc 48 then some (.getfield 19, 3, 5, 1) else none) else (bif Nat.beq pc 51 then some (.iconst 5, 1, 0, 0) else none)))) else (bif Nat.blt pc 57 then (bif Nat.blt pc 53 then (bif Nat.beq pc 52 then some (.iconst 1, 1, 0, 0) else none) else (bif Nat.blt pc 56 then (bif Nat.beq pc 53 then some (.invokevirtual 123, 3, 22, 3) else none) else (bif Nat.beq pc 56 then some (.iload_n 1, 1, 0, 0) else none))) else (bif Nat.blt pc 58 then (bif Nat.beq pc 57 then some (.iconst 3, 1, 0, 0) else none) else (bif Nat.blt pc 61 then (bif Nat.beq pc 58 then some (.if_icmp .lt (19), 3, 77, 0) else none) else (bif Nat.beq pc 61 then some (.aload_n 0, 1, 0, 0) else none))))) else (bif Nat.blt pc 73 then (bif Nat.blt pc 66 then (bif Nat.blt pc 65 then (bif Nat.beq pc 62 then some (.getfield 19, 3, 5, 1) else none) else (bif Nat.beq pc 65 then some (.aload_n 0, 1, 0, 0) else none)) else (bif Nat.blt pc 69 then (bif Nat.beq pc 66 then some (.getfield 19, 3, 5, 1) else none) else (bif Nat.blt pc 70 then (bif Nat.beq pc 69 then some (.iload_n 1, 1, 0, 0) else none) else (bif Nat.beq pc 70 then some (.invokevirtual 127, 3, 23, 2) else none)))) else (bif Nat.blt pc 78 then (bif Nat.blt pc 74 then (bif Nat.beq pc 73 then some (.iconst 4, 1, 0, 0) else none) else (bif Nat.blt pc 77 then (bif Nat.beq pc 74 then some (.invokevirtual 123, 3, 22, 3) else none) else (bif Nat.beq pc 77 then some (.aload_n 0, 1, 0, 0) else none))) else (bif Nat.blt pc 81 then (bif Nat.beq pc 78 then some (.getfield 19, 3, 5, 1) else none) else (bif Nat.blt pc 84 then (bif Nat.beq pc 81 then some (.getfield 96, 3, 2, 0) else none) else (bif Nat.beq pc 84 then some (.ireturn, 1, 0, 0) else none))))))) else none
theorem oxn_37 : ∀ pc, 85 ≤ pc → oxi_37 pc = none := fun pc h => by unfold oxi_37; rw [show Nat.blt pc 85 = false from ox_blt h]; rfl
theorem oxd_37 : ∀ pc e, oxi_37 pc = some e → decode prog_1_method_7_code pc = .ok (e.1, e.2.1) := ox_tab 85 oxn_37 (by decide +kernel)
theorem oxc_37 : ∀ pc e, oxi_37 pc = some e → ox_chk 5 pc e = true := ox_tab2 85 oxn_37 (by decide +kernel)
/-- OrderAxioms.run()I -/
def oxi_38 (pc : Nat) : Option (Instr × Nat × Nat × Nat) := bif Nat.blt pc 127 then (bif Nat.blt pc 60 then (bif Nat.blt pc 30 then (bif Nat.blt pc 15 then (bif Nat.blt pc 7 then (bif Nat.blt pc 1 then (bif Nat.beq pc 0 then some (.aload_n 0, 1, 0, 0) else none) else (bif Nat.blt pc 4 then (bif Nat.beq pc 1 then some (.getfield 10, 3, 5, 0) else none) else (bif Nat.beq pc 4 then some (.invokevirtual 131, 3, 28, 1) else none))) else (bif Nat.blt pc 9 then (bif Nat.blt pc 8 then (bif Nat.beq pc 7 then some (.istore_n 1, 1, 0, 0) else none) else (bif Nat.beq pc 8 then some (.iload_n 1, 1, 0, 0) else none)) else (bif Nat.blt pc 12 then (bif Nat.beq pc 9 then some (.sipush 5000, 3, 0, 0) else none) else (bif Nat.beq pc 12 then some (.if_icmp .le (13), 3, 25, 0) else none)))) else (bif Nat.blt pc 24 then (bif Nat.blt pc 19 then (bif Nat.blt pc 18 then (bif Nat.beq pc 15 then some (.new 51, 3, 0, 0) else none) else (bif Nat.beq pc 18 then some (.dup, 1, 0, 0) else none)) else (bif Nat.blt pc 21 then (bif Nat.beq pc 19 then some (.ldc 135, 2, 0, 0) else none) else (bif Nat.beq pc 21 then some (.invokespecial 55, 3, 900, 0) else none))) else (bif Nat.blt pc 26 then (bif Nat.blt pc 25 then (bif Nat.beq pc 24 then some (.athrow, 1, 0, 0) else none) else (bif Nat.beq pc 25 then some (.aload_n 0, 1, 0, 0) else none)) else (bif Nat.blt pc 29 then (bif Nat.beq pc 26 then some (.getfield 26, 3, 5, 2) else none) else (bif Nat.beq pc 29 then some (.aload_n 0, 1, 0, 0) else none))))) else (bif Nat.blt pc 46 then (bif Nat.blt pc 38 then (bif Nat.blt pc 34 then (bif Nat.blt pc 33 then (bif Nat.beq pc 30 then some (.getfield 10, 3, 5, 0) else none) else (bif Nat.beq pc 33 then some (.iload_n 1, 1, 0, 0) else none)) else (bif Nat.blt pc 37 then (bif Nat.beq pc 34 then some (.invokevirtual 137, 3, 11, 3) else none) else (bif Nat.beq pc 37 then some (.aload_n 0, 1, 0, 0) else none))) else (bif Nat.blt pc 42 then (bif Nat.blt pc 41 then (bif Nat.beq pc 38 then some (.getfield 33, 3, 5, 3) else none) else (bif Nat.beq pc 41 then some (.aload_n 0, 1, 0, 0) else none)) else (bif Nat.blt pc 45 then (bif Nat.beq pc 42 then some (.getfield 10, 3, 5, 0) else none) else (bif Nat.beq pc 45 then some (.aload_n 0, 1, 0, 0) else none)))) else (bif Nat.blt pc 54 then (bif Nat.blt pc 50 then (bif Nat.blt pc 49 then (bif Nat.beq pc 46 then some (.getfield 19, 3, 5, 1) else none) else (bif Nat.beq pc 49 then some (.iconst 0, 1, 0, 0) else none)) else (bif Nat.blt pc 53 then (bif Nat.beq pc 50 then some (.invokevirtual 141, 3, 0, 4) else none) else (bif Nat.beq pc 53 then some (.iconst 0, 1, 0, 0) else none))) else (bif Nat.blt pc 56 then (bif Nat.blt pc 55 then (bif Nat.beq pc 54 then some (.istore_n 2, 1, 0, 0) else none) else (bif Nat.beq pc 55 then some (.iload_n 2, 1, 0, 0) else none)) else (bif Nat.blt pc 57 then (bif Nat.beq pc 56 then some (.iload_n 1, 1, 0, 0) else none) else (bif Nat.beq pc 57 then some (.if_icmp .ge (55), 3, 112, 0) else none)))))) else (bif Nat.blt pc 91 then (bif Nat.blt pc 73 then (bif Nat.blt pc 65 then (bif Nat.blt pc 61 then (bif Nat.beq pc 60 then some (.aload_n 0, 1, 0, 0) else none) else (bif Nat.blt pc 64 then (bif Nat.beq pc 61 then some (.getfield 33, 3, 5, 3) else none) else (bif Nat.beq pc 64 then some (.aload_n 0, 1, 0, 0) else none))) else (bif Nat.blt pc 69 then (bif Nat.blt pc 68 then (bif Nat.beq pc 65 then some (.getfield 10, 3, 5, 0) else none) else (bif Nat.beq pc 68 then some (.aload_n 0, 1, 0, 0) else none)) else (bif Nat.blt pc 72 then (bif Nat.beq pc 69 then some (.getfield 19, 3, 5, 1) else none) else (bif Nat.beq pc 72 then some (.iload_n 2, 1, 0, 0) else none)))) else (bif Nat.blt pc 81 then (bif Nat.blt pc 77 then (bif Nat.blt pc 76 then (bif Nat.beq pc 73 then some (.invokevirtual 145, 3, 1, 4) else none) else (bif Nat.beq pc 76 then some (.aload_n 0, 1, 0, 0) else none)) else (bif Nat.blt pc 80 then (bif Nat.beq pc 77 then some (.getfield 33, 3, 5, 3) else none) else (bif Nat.beq pc 80 then some (.aload_n 0, 1, 0, 0) else none))) else (bif Nat.blt pc 87 then (bif Nat.blt pc 84 then (bif Nat.beq pc 81 then some (.getfield 19, 3, 5, 1) else none) else (bif Nat.beq pc 84 then some (.invokevirtual 149, 3, 2, 2) else none)) else (bif Nat.blt pc 88 then (bif Nat.beq pc 87 then some (.iconst (-1), 1, 0, 0) else none) else (bif Nat.beq pc 88 then some (.if_icmp .ne (18), 3, 106, 0) else none))))) else (bif Nat.blt pc 109 then (bif Nat.blt pc 97 then (bif Nat.blt pc 95 then (bif Nat.blt pc 92 then (bif Nat.beq pc 91 then some (.aload_n 0, 1, 0, 0) else none) else (bif Nat.beq pc 92 then some (.getfield 26, 3, 5, 2) else none)) else (bif Nat.blt pc 96 then (bif Nat.beq pc 95 then some (.iload_n 2, 1, 0, 0) else none) else (bif Nat.beq pc 96 then some (.aload_n 0, 1, 0, 0) else none))) else (bif Nat.blt pc 103 then (bif Nat.blt pc 100 then (bif Nat.beq pc 97 then some (.getfield 33, 3, 5, 3) else none) else (bif Nat.beq pc 100 then some (.getfield 153, 3, 0, 3) else none)) else (bif Nat.blt pc 106 then (bif Nat.beq pc 103 then some (.invokevirtual 156, 3, 12, 3) else none) else (bif Nat.beq pc 106 then some (.iinc 2 1, 3, 0, 0) else none)))) else (bif Nat.blt pc 119 then (bif Nat.blt pc 113 then (bif Nat.blt pc 112 then (bif Nat.beq pc 109 then some (.goto (-54), 3, 55, 0) else none) else (bif Nat.beq pc 112 then some (.aload_n 0, 1, 0, 0) else none)) else (bif Nat.blt pc 116 then (bif Nat.beq pc 113 then some (.getfield 26, 3, 5, 2) else none) else (bif Nat.beq pc 116 then some (.invokevirtual 160, 3, 13, 1) else none))) else (bif Nat.blt pc 123 then (bif Nat.blt pc 120 then (bif Nat.beq pc 119 then some (.aload_n 0, 1, 0, 0) else none) else (bif Nat.beq pc 120 then some (.getfield 26, 3, 5, 2) else none)) else (bif Nat.blt pc 126 then (bif Nat.beq pc 123 then some (.getfield 163, 3, 1, 2) else none) else (bif Nat.beq pc 126 then some (.ireturn, 1, 0, 0) else none))))))) else none
theorem oxn_38 : ∀ pc, 127 ≤ pc → oxi_38 pc = none := fun pc h => by unfold oxi_38; rw [show Nat.blt pc 127 = false from ox_blt h]; rfl
theorem oxd_38 : ∀ pc e, oxi_38 pc = some e → decode prog_1_method_8_code pc = .ok (e.1, e.2.1) := ox_tab 127 oxn_38 (by decide +kernel)
theorem oxc_38 : ∀ pc e, oxi_38 pc = some e → ox_chk 5 pc e = true := ox_tab2 127 oxn_38 (by decide +kernel)
/-- OrderAxioms.outcome(II)I -/
def oxi_39 (pc : Nat) : Option (Instr × Nat × Nat × Nat) := bif Nat.blt pc 48 then (bif Nat.blt pc 25 then (bif Nat.blt pc 11 then (bif Nat.blt pc 2 then (bif Nat.blt pc 1 then (bif Nat.beq pc 0 then some (.iload_n 1, 1, 0, 0) else none) else (bif Nat.beq pc 1 then some (.aload_n 0, 1, 0, 0) else none)) else (bif Nat.blt pc 5 then (bif Nat.beq pc 2 then some (.getfield 26, 3, 5, 2) else none) else (bif Nat.blt pc 8 then (bif Nat.beq pc 5 then some (.getfield 163, 3, 1, 2) else none) else (bif Nat.beq pc 8 then some (.invokestatic 58, 3, 49, 2) else none)))) else (bif Nat.blt pc 16 then (bif Nat.blt pc 14 then (bif Nat.beq pc 11 then some (.ifCond .eq (17), 3, 28, 0) else none) else (bif Nat.blt pc 15 then (bif Nat.beq pc 14 then some (.iload_n 2, 1, 0, 0) else none) else (bif Nat.beq pc 15 then some (.aload_n 0, 1, 0, 0) else none))) else (bif Nat.blt pc 19 then (bif Nat.beq pc 16 then some (.getfield 26, 3, 5, 2) else none) else (bif Nat.blt pc 22 then (bif Nat.beq pc 19 then some (.getfield 166, 3, 1, 3) else none) else (bif Nat.beq pc 22 then some (.invokestatic 58, 3, 49, 2) else none))))) else (bif Nat.blt pc 38 then (bif Nat.blt pc 32 then (bif Nat.blt pc 28 then (bif Nat.beq pc 25 then some (.ifCond .ne (13), 3, 38, 0) else none) else (bif Nat.blt pc 31 then (bif Nat.beq pc 28 then some (.new 169, 3, 2, 0) else none) else (bif Nat.beq pc 31 then some (.dup, 1, 0, 0) else none))) else (bif Nat.blt pc 34 then (bif Nat.beq pc 32 then some (.ldc 171, 2, 0, 0) else none) else (bif Nat.blt pc 37 then (bif Nat.beq pc 34 then some (.invokespecial 173, 3, 900, 0) else none) else (bif Nat.beq pc 37 then some (.athrow, 1, 0, 0) else none)))) else (bif Nat.blt pc 43 then (bif Nat.blt pc 39 then (bif Nat.beq pc 38 then some (.aload_n 0, 1, 0, 0) else none) else (bif Nat.blt pc 42 then (bif Nat.beq pc 39 then some (.getfield 26, 3, 5, 2) else none) else (bif Nat.beq pc 42 then some (.iload_n 1, 1, 0, 0) else none))) else (bif Nat.blt pc 44 then (bif Nat.beq pc 43 then some (.iload_n 2, 1, 0, 0) else none) else (bif Nat.blt pc 47 then (bif Nat.beq pc 44 then some (.invokevirtual 174, 3, 14, 3) else none) else (bif Nat.beq pc 47 then some (.ireturn, 1, 0, 0) else none)))))) else none
theorem oxn_39 : ∀ pc, 48 ≤ pc → oxi_39 pc = none := fun pc h => by unfold oxi_39; rw [show Nat.blt pc 48 = false from ox_blt h]; rfl
theorem oxd_39 : ∀ pc e, oxi_39 pc = some e → decode prog_1_method_9_code pc = .ok (e.1, e.2.1) := ox_tab 48 oxn_39 (by decide +kernel)
theorem oxc_39 : ∀ pc e, oxi_39 pc = some e → ox_chk 5 pc e = true := ox_tab2 48 oxn_39 (by decide +kernel)
/-- OrderAxioms.witness(II)I -/
def oxi_40 (pc : Nat) : Option (Instr × Nat × Nat × Nat) := bif Nat.blt pc 58 then (bif Nat.blt pc 31 then (bif Nat.blt pc 15 then (bif Nat.blt pc 5 then (bif Nat.blt pc 1 then (bif Nat.beq pc 0 then some (.iload_n 1, 1, 0, 0) else none) else (bif Nat.blt pc 2 then (bif Nat.beq pc 1 then some (.aload_n 0, 1, 0, 0) else none) else (bif Nat.beq pc 2 then some (.getfield 26, 3, 5, 2) else none))) else (bif Nat.blt pc 11 then (bif Nat.blt pc 8 then (bif Nat.beq pc 5 then some (.getfield 163, 3, 1, 2) else none) else (bif Nat.beq pc 8 then some (.invokestatic 58, 3, 49, 2) else none)) else (bif Nat.blt pc 14 then (bif Nat.beq pc 11 then some (.ifCond .eq (11), 3, 22, 0) else none) else (bif Nat.beq pc 14 then some (.iload_n 2, 1, 0, 0) else none)))) else (bif Nat.blt pc 22 then (bif Nat.blt pc 16 then (bif Nat.beq pc 15 then some (.iconst 2, 1, 0, 0) else none) else (bif Nat.blt pc 19 then (bif Nat.beq pc 16 then some (.invokestatic 58, 3, 49, 2) else none) else (bif Nat.beq pc 19 then some (.ifCond .ne (13), 3, 32, 0) else none))) else (bif Nat.blt pc 26 then (bif Nat.blt pc 25 then (bif Nat.beq pc 22 then some (.new 169, 3, 2, 0) else none) else (bif Nat.beq pc 25 then some (.dup, 1, 0, 0) else none)) else (bif Nat.blt pc 28 then (bif Nat.beq pc 26 then some (.ldc 178, 2, 0, 0) else none) else (bif Nat.beq pc 28 then some (.invokespecial 173, 3, 900, 0) else none))))) else (bif Nat.blt pc 44 then (bif Nat.blt pc 36 then (bif Nat.blt pc 32 then (bif Nat.beq pc 31 then some (.athrow, 1, 0, 0) else none) else (bif Nat.blt pc 33 then (bif Nat.beq pc 32 then some (.iload_n 2, 1, 0, 0) else none) else (bif Nat.beq pc 33 then some (.ifCond .ne (15), 3, 48, 0) else none))) else (bif Nat.blt pc 40 then (bif Nat.blt pc 37 then (bif Nat.beq pc 36 then some (.aload_n 0, 1, 0, 0) else none) else (bif Nat.beq pc 37 then some (.getfield 26, 3, 5, 2) else none)) else (bif Nat.blt pc 43 then (bif Nat.beq pc 40 then some (.getfield 180, 3, 1, 4) else none) else (bif Nat.beq pc 43 then some (.iload_n 1, 1, 0, 0) else none)))) else (bif Nat.blt pc 52 then (bif Nat.blt pc 48 then (bif Nat.blt pc 45 then (bif Nat.beq pc 44 then some (.iaload, 1, 0, 0) else none) else (bif Nat.beq pc 45 then some (.goto (12), 3, 57, 0) else none)) else (bif Nat.blt pc 49 then (bif Nat.beq pc 48 then some (.aload_n 0, 1, 0, 0) else none) else (bif Nat.beq pc 49 then some (.getfield 26, 3, 5, 2) else none))) else (bif Nat.blt pc 56 then (bif Nat.blt pc 55 then (bif Nat.beq pc 52 then some (.getfield 183, 3, 1, 5) else none) else (bif Nat.beq pc 55 then some (.iload_n 1, 1, 0, 0) else none)) else (bif Nat.blt pc 57 then (bif Nat.beq pc 56 then some (.iaload, 1, 0, 0) else none) else (bif Nat.beq pc 57 then some (.ireturn, 1, 0, 0) else none)))))) else none
theorem oxn_40 : ∀ pc, 58 ≤ pc → oxi_40 pc = none := fun pc h => by unfold oxi_40; rw [show Nat.blt pc 58 = false from ox_blt h]; rfl
theorem oxd_40 : ∀ pc e, oxi_40 pc = some e → decode prog_1_method_10_code pc = .ok (e.1, e.2.1) := ox_tab 58 oxn_40 (by decide +kernel)
theorem oxc_40 : ∀ pc e, oxi_40 pc = some e → ox_chk 5 pc e = true := ox_tab2 58 oxn_40 (by decide +kernel)
/-- OrderAxioms.look(I)I -/
def oxi_41 (pc : Nat) : Option (Instr × Nat × Nat × Nat) := bif Nat.blt pc 136 then (bif Nat.blt pc 68 then (bif Nat.blt pc 36 then (bif Nat.blt pc 18 then (bif Nat.blt pc 8 then (bif Nat.blt pc 4 then (bif Nat.blt pc 1 then (bif Nat.beq pc 0 then some (.aload_n 0, 1, 0, 0) else none) else (bif Nat.beq pc 1 then some (.getfield 10, 3, 5, 0) else none)) else (bif Nat.blt pc 7 then (bif Nat.beq pc 4 then some (.invokevirtual 131, 3, 28, 1) else none) else (bif Nat.beq pc 7 then some (.istore_n 2, 1, 0, 0) else none))) else (bif Nat.blt pc 12 then (bif Nat.blt pc 9 then (bif Nat.beq pc 8 then some (.iload_n 2, 1, 0, 0) else none) else (bif Nat.beq pc 9 then some (.sipush 5000, 3, 0, 0) else none)) else (bif Nat.blt pc 15 then (bif Nat.beq pc 12 then some (.if_icmp .le (13), 3, 25, 0) else none) else (bif Nat.beq pc 15 then some (.new 51, 3, 0, 0) else none)))) else (bif Nat.blt pc 25 then (bif Nat.blt pc 21 then (bif Nat.blt pc 19 then (bif Nat.beq pc 18 then some (.dup, 1, 0, 0) else none) else (bif Nat.beq pc 19 then some (.ldc 135, 2, 0, 0) else none)) else (bif Nat.blt pc 24 then (bif Nat.beq pc 21 then some (.invokespecial 55, 3, 900, 0) else none) else (bif Nat.beq pc 24 then some (.athrow, 1, 0, 0) else none))) else (bif Nat.blt pc 27 then (bif Nat.blt pc 26 then (bif Nat.beq pc 25 then some (.iload_n 1, 1, 0, 0) else none) else (bif Nat.beq pc 26 then some (.iload_n 2, 1, 0, 0) else none)) else (bif Nat.blt pc 30 then (bif Nat.beq pc 27 then some (.invokestatic 58, 3, 49, 2) else none) else (bif Nat.blt pc 33 then (bif Nat.beq pc 30 then some (.ifCond .ne (13), 3, 43, 0) else none) else (bif Nat.beq pc 33 then some (.new 169, 3, 2, 0) else none)))))) else (bif Nat.blt pc 51 then (bif Nat.blt pc 43 then (bif Nat.blt pc 39 then (bif Nat.blt pc 37 then (bif Nat.beq pc 36 then some (.dup, 1, 0, 0) else none) else (bif Nat.beq pc 37 then some (.ldc 186, 2, 0, 0) else none)) else (bif Nat.blt pc 42 then (bif Nat.beq pc 39 then some (.invokespecial 173, 3, 900, 0) else none) else (bif Nat.beq pc 42 then some (.athrow, 1, 0, 0) else none))) else (bif Nat.blt pc 47 then (bif Nat.blt pc 44 then (bif Nat.beq pc 43 then some (.aload_n 0, 1, 0, 0) else none) else (bif Nat.beq pc 44 then some (.getfield 37, 3, 5, 4) else none)) else (bif Nat.blt pc 48 then (bif Nat.beq pc 47 then some (.aload_n 0, 1, 0, 0) else none) else (bif Nat.beq pc 48 then some (.getfield 10, 3, 5, 0) else none)))) else (bif Nat.blt pc 59 then (bif Nat.blt pc 55 then (bif Nat.blt pc 52 then (bif Nat.beq pc 51 then some (.aload_n 0, 1, 0, 0) else none) else (bif Nat.beq pc 52 then some (.getfield 19, 3, 5, 1) else none)) else (bif Nat.blt pc 56 then (bif Nat.beq pc 55 then some (.iconst 1, 1, 0, 0) else none) else (bif Nat.beq pc 56 then some (.invokevirtual 141, 3, 0, 4) else none))) else (bif Nat.blt pc 63 then (bif Nat.blt pc 60 then (bif Nat.beq pc 59 then some (.aload_n 0, 1, 0, 0) else none) else (bif Nat.beq pc 60 then some (.getfield 37, 3, 5, 4) else none)) else (bif Nat.blt pc 64 then (bif Nat.beq pc 63 then some (.aload_n 0, 1, 0, 0) else none) else (bif Nat.blt pc 67 then (bif Nat.beq pc 64 then some (.getfield 10, 3, 5, 0) else none) else (bif Nat.beq pc 67 then some (.aload_n 0, 1, 0, 0) else none))))))) else (bif Nat.blt pc 103 then (bif Nat.blt pc 86 then (bif Nat.blt pc 76 then (bif Nat.blt pc 72 then (bif Nat.blt pc 71 then (bif Nat.beq pc 68 then some (.getfield 19, 3, 5, 1) else none) else (bif Nat.beq pc 71 then some (.iload_n 1, 1, 0, 0) else none)) else (bif Nat.blt pc 75 then (bif Nat.beq pc 72 then some (.invokevirtual 145, 3, 1, 4) else none) else (bif Nat.beq pc 75 then some (.aload_n 0, 1, 0, 0) else none))) else (bif Nat.blt pc 80 then (bif Nat.blt pc 79 then (bif Nat.beq pc 76 then some (.getfield 37, 3, 5, 4) else none) else (bif Nat.beq pc 79 then some (.aload_n 0, 1, 0, 0) else none)) else (bif Nat.blt pc 83 then (bif Nat.beq pc 80 then some (.getfield 19, 3, 5, 1) else none) else (bif Nat.beq pc 83 then some (.invokevirtual 149, 3, 2, 2) else none)))) else (bif Nat.blt pc 92 then (bif Nat.blt pc 88 then (bif Nat.blt pc 87 then (bif Nat.beq pc 86 then some (.istore_n 3, 1, 0, 0) else none) else (bif Nat.beq pc 87 then some (.iload_n 3, 1, 0, 0) else none)) else (bif Nat.blt pc 89 then (bif Nat.beq pc 88 then some (.iconst (-1), 1, 0, 0) else none) else (bif Nat.beq pc 89 then some (.if_icmp .ne (14), 3, 103, 0) else none))) else (bif Nat.blt pc 96 then (bif Nat.blt pc 93 then (bif Nat.beq pc 92 then some (.aload_n 0, 1, 0, 0) else none) else (bif Nat.beq pc 93 then some (.getfield 43, 3, 5, 5) else none)) else (bif Nat.blt pc 97 then (bif Nat.beq pc 96 then some (.iconst 0, 1, 0, 0) else none) else (bif Nat.blt pc 100 then (bif Nat.beq pc 97 then some (.putfield 188, 3, 4, 0) else none) else (bif Nat.beq pc 100 then some (.goto (34), 3, 134, 0) else none)))))) else (bif Nat.blt pc 121 then (bif Nat.blt pc 111 then (bif Nat.blt pc 107 then (bif Nat.blt pc 104 then (bif Nat.beq pc 103 then some (.aload_n 0, 1, 0, 0) else none) else (bif Nat.beq pc 104 then some (.getfield 43, 3, 5, 5) else none)) else (bif Nat.blt pc 108 then (bif Nat.beq pc 107 then some (.aload_n 0, 1, 0, 0) else none) else (bif Nat.beq pc 108 then some (.getfield 37, 3, 5, 4) else none))) else (bif Nat.blt pc 115 then (bif Nat.blt pc 114 then (bif Nat.beq pc 111 then some (.getfield 191, 3, 0, 7) else none) else (bif Nat.beq pc 114 then some (.aload_n 0, 1, 0, 0) else none)) else (bif Nat.blt pc 118 then (bif Nat.beq pc 115 then some (.getfield 19, 3, 5, 1) else none) else (bif Nat.beq pc 118 then some (.getfield 195, 3, 2, 5) else none)))) else (bif Nat.blt pc 125 then (bif Nat.blt pc 123 then (bif Nat.blt pc 122 then (bif Nat.beq pc 121 then some (.iload_n 3, 1, 0, 0) else none) else (bif Nat.beq pc 122 then some (.iaload, 1, 0, 0) else none)) else (bif Nat.blt pc 124 then (bif Nat.beq pc 123 then some (.aaload, 1, 0, 0) else none) else (bif Nat.beq pc 124 then some (.aload_n 0, 1, 0, 0) else none))) else (bif Nat.blt pc 131 then (bif Nat.blt pc 128 then (bif Nat.beq pc 125 then some (.getfield 37, 3, 5, 4) else none) else (bif Nat.beq pc 128 then some (.getfield 198, 3, 0, 0) else none)) else (bif Nat.blt pc 134 then (bif Nat.beq pc 131 then some (.invokevirtual 199, 3, 29, 3) else none) else (bif Nat.blt pc 135 then (bif Nat.beq pc 134 then some (.iload_n 3, 1, 0, 0) else none) else (bif Nat.beq pc 135 then some (.ireturn, 1, 0, 0) else none)))))))) else none
theorem oxn_41 : ∀ pc, 136 ≤ pc → oxi_41 pc = none := fun pc h => by unfold oxi_41; rw [show Nat.blt pc 136 = false from ox_blt h]; rfl
theorem oxd_41 : ∀ pc e, oxi_41 pc = some e → decode prog_1_method_11_code pc = .ok (e.1, e.2.1) := ox_tab 136 oxn_41 (by decide +kernel)
theorem oxc_41 : ∀ pc e, oxi_41 pc = some e → ox_chk 5 pc e = true := ox_tab2 136 oxn_41 (by decide +kernel)
/-- OrderAxioms.source(I)I -/
def oxi_42 (pc : Nat) : Option (Instr × Nat × Nat × Nat) := bif Nat.blt pc 34 then (bif Nat.blt pc 18 then (bif Nat.blt pc 8 then (bif Nat.blt pc 2 then (bif Nat.blt pc 1 then (bif Nat.beq pc 0 then some (.iload_n 1, 1, 0, 0) else none) else (bif Nat.beq pc 1 then some (.aload_n 0, 1, 0, 0) else none)) else (bif Nat.blt pc 5 then (bif Nat.beq pc 2 then some (.getfield 37, 3, 5, 4) else none) else (bif Nat.beq pc 5 then some (.getfield 203, 3, 0, 2) else none))) else (bif Nat.blt pc 14 then (bif Nat.blt pc 11 then (bif Nat.beq pc 8 then some (.invokestatic 58, 3, 49, 2) else none) else (bif Nat.beq pc 11 then some (.ifCond .ne (13), 3, 24, 0) else none)) else (bif Nat.blt pc 17 then (bif Nat.beq pc 14 then some (.new 169, 3, 2, 0) else none) else (bif Nat.beq pc 17 then some (.dup, 1, 0, 0) else none)))) else (bif Nat.blt pc 25 then (bif Nat.blt pc 23 then (bif Nat.blt pc 20 then (bif Nat.beq pc 18 then some (.ldc 204, 2, 0, 0) else none) else (bif Nat.beq pc 20 then some (.invokespecial 173, 3, 900, 0) else none)) else (bif Nat.blt pc 24 then (bif Nat.beq pc 23 then some (.athrow, 1, 0, 0) else none) else (bif Nat.beq pc 24 then some (.aload_n 0, 1, 0, 0) else none))) else (bif Nat.blt pc 31 then (bif Nat.blt pc 28 then (bif Nat.beq pc 25 then some (.getfield 37, 3, 5, 4) else none) else (bif Nat.beq pc 28 then some (.getfield 206, 3, 0, 4) else none)) else (bif Nat.blt pc 32 then (bif Nat.beq pc 31 then some (.iload_n 1, 1, 0, 0) else none) else (bif Nat.blt pc 33 then (bif Nat.beq pc 32 then some (.iaload, 1, 0, 0) else none) else (bif Nat.beq pc 33 then some (.ireturn, 1, 0, 0) else none)))))) else none
theorem oxn_42 : ∀ pc, 34 ≤ pc → oxi_42 pc = none := fun pc h => by unfold oxi_42; rw [show Nat.blt pc 34 = false from ox_blt h]; rfl
theorem oxd_42 : ∀ pc e, oxi_42 pc = some e → decode prog_1_method_12_code pc = .ok (e.1, e.2.1) := ox_tab 34 oxn_42 (by decide +kernel)
theorem oxc_42 : ∀ pc e, oxi_42 pc = some e → ox_chk 5 pc e = true := ox_tab2 34 oxn_42 (by decide +kernel)
/-- OrderAxioms.order(II)I -/
def oxi_43 (pc : Nat) : Option (Instr × Nat × Nat × Nat) := bif Nat.blt pc 46 then (bif Nat.blt pc 24 then (bif Nat.blt pc 10 then (bif Nat.blt pc 5 then (bif Nat.blt pc 1 then (bif Nat.beq pc 0 then some (.iload_n 1, 1, 0, 0) else none) else (bif Nat.blt pc 2 then (bif Nat.beq pc 1 then some (.iconst 4, 1, 0, 0) else none) else (bif Nat.beq pc 2 then some (.invokestatic 58, 3, 49, 2) else none))) else (bif Nat.blt pc 8 then (bif Nat.beq pc 5 then some (.ifCond .eq (19), 3, 24, 0) else none) else (bif Nat.blt pc 9 then (bif Nat.beq pc 8 then some (.iload_n 2, 1, 0, 0) else none) else (bif Nat.beq pc 9 then some (.aload_n 0, 1, 0, 0) else none)))) else (bif Nat.blt pc 17 then (bif Nat.blt pc 13 then (bif Nat.beq pc 10 then some (.getfield 37, 3, 5, 4) else none) else (bif Nat.blt pc 16 then (bif Nat.beq pc 13 then some (.getfield 209, 3, 0, 5) else none) else (bif Nat.beq pc 16 then some (.iload_n 1, 1, 0, 0) else none))) else (bif Nat.blt pc 18 then (bif Nat.beq pc 17 then some (.iaload, 1, 0, 0) else none) else (bif Nat.blt pc 21 then (bif Nat.beq pc 18 then some (.invokestatic 58, 3, 49, 2) else none) else (bif Nat.beq pc 21 then some (.ifCond .ne (13), 3, 34, 0) else none))))) else (bif Nat.blt pc 35 then (bif Nat.blt pc 30 then (bif Nat.blt pc 27 then (bif Nat.beq pc 24 then some (.new 169, 3, 2, 0) else none) else (bif Nat.blt pc 28 then (bif Nat.beq pc 27 then some (.dup, 1, 0, 0) else none) else (bif Nat.beq pc 28 then some (.ldc 212, 2, 0, 0) else none))) else (bif Nat.blt pc 33 then (bif Nat.beq pc 30 then some (.invokespecial 173, 3, 900, 0) else none) else (bif Nat.blt pc 34 then (bif Nat.beq pc 33 then some (.athrow, 1, 0, 0) else none) else (bif Nat.beq pc 34 then some (.aload_n 0, 1, 0, 0) else none)))) else (bif Nat.blt pc 42 then (bif Nat.blt pc 38 then (bif Nat.beq pc 35 then some (.getfield 37, 3, 5, 4) else none) else (bif Nat.blt pc 41 then (bif Nat.beq pc 38 then some (.getfield 214, 3, 0, 6) else none) else (bif Nat.beq pc 41 then some (.iload_n 1, 1, 0, 0) else none))) else (bif Nat.blt pc 44 then (bif Nat.blt pc 43 then (bif Nat.beq pc 42 then some (.aaload, 1, 0, 0) else none) else (bif Nat.beq pc 43 then some (.iload_n 2, 1, 0, 0) else none)) else (bif Nat.blt pc 45 then (bif Nat.beq pc 44 then some (.iaload, 1, 0, 0) else none) else (bif Nat.beq pc 45 then some (.ireturn, 1, 0, 0) else none)))))) else none
theorem oxn_43 : ∀ pc, 46 ≤ pc → oxi_43 pc = none := fun pc h => by unfold oxi_43; rw [show Nat.blt pc 46 = false from ox_blt h]; rfl
theorem oxd_43 : ∀ pc e, oxi_43 pc = some e → decode prog_1_method_13_code pc = .ok (e.1, e.2.1) := ox_tab 46 oxn_43 (by decide +kernel)
theorem oxc_43 : ∀ pc e, oxi_43 pc = some e → ox_chk 5 pc e = true := ox_tab2 46 oxn_43 (by decide +kernel)
/-- OrderAxioms.related(III)Z -/
def oxi_44 (pc : Nat) : Option (Instr × Nat × Nat × Nat) := bif Nat.blt pc 76 then (bif Nat.blt pc 45 then (bif Nat.blt pc 19 then (bif Nat.blt pc 8 then (bif Nat.blt pc 2 then (bif Nat.blt pc 1 then (bif Nat.beq pc 0 then some (.iload_n 1, 1, 0, 0) else none) else (bif Nat.beq pc 1 then some (.aload_n 0, 1, 0, 0) else none)) else (bif Nat.blt pc 5 then (bif Nat.beq pc 2 then some (.getfield 37, 3, 5, 4) else none) else (bif Nat.beq pc 5 then some (.getfield 217, 3, 0, 1) else none))) else (bif Nat.blt pc 14 then (bif Nat.blt pc 11 then (bif Nat.beq pc 8 then some (.invokestatic 58, 3, 49, 2) else none) else (bif Nat.beq pc 11 then some (.ifCond .eq (31), 3, 42, 0) else none)) else (bif Nat.blt pc 15 then (bif Nat.beq pc 14 then some (.iload_n 2, 1, 0, 0) else none) else (bif Nat.blt pc 16 then (bif Nat.beq pc 15 then some (.aload_n 0, 1, 0, 0) else none) else (bif Nat.beq pc 16 then some (.getfield 37, 3, 5, 4) else none))))) else (bif Nat.blt pc 30 then (bif Nat.blt pc 25 then (bif Nat.blt pc 22 then (bif Nat.beq pc 19 then some (.getfield 198, 3, 0, 0) else none) else (bif Nat.beq pc 22 then some (.invokestatic 58, 3, 49, 2) else none)) else (bif Nat.blt pc 28 then (bif Nat.beq pc 25 then some (.ifCond .eq (17), 3, 42, 0) else none) else (bif Nat.blt pc 29 then (bif Nat.beq pc 28 then some (.iload_n 3, 1, 0, 0) else none) else (bif Nat.beq pc 29 then some (.aload_n 0, 1, 0, 0) else none)))) else (bif Nat.blt pc 36 then (bif Nat.blt pc 33 then (bif Nat.beq pc 30 then some (.getfield 37, 3, 5, 4) else none) else (bif Nat.beq pc 33 then some (.getfield 198, 3, 0, 0) else none)) else (bif Nat.blt pc 39 then (bif Nat.beq pc 36 then some (.invokestatic 58, 3, 49, 2) else none) else (bif Nat.blt pc 42 then (bif Nat.beq pc 39 then some (.ifCond .ne (13), 3, 52, 0) else none) else (bif Nat.beq pc 42 then some (.new 169, 3, 2, 0) else none)))))) else (bif Nat.blt pc 62 then (bif Nat.blt pc 53 then (bif Nat.blt pc 48 then (bif Nat.blt pc 46 then (bif Nat.beq pc 45 then some (.dup, 1, 0, 0) else none) else (bif Nat.beq pc 46 then some (.ldc 218, 2, 0, 0) else none)) else (bif Nat.blt pc 51 then (bif Nat.beq pc 48 then some (.invokespecial 173, 3, 900, 0) else none) else (bif Nat.blt pc 52 then (bif Nat.beq pc 51 then some (.athrow, 1, 0, 0) else none) else (bif Nat.beq pc 52 then some (.aload_n 0, 1, 0, 0) else none)))) else (bif Nat.blt pc 59 then (bif Nat.blt pc 56 then (bif Nat.beq pc 53 then some (.getfield 37, 3, 5, 4) else none) else (bif Nat.beq pc 56 then some (.getfield 191, 3, 0, 7) else none)) else (bif Nat.blt pc 60 then (bif Nat.beq pc 59 then some (.iload_n 1, 1, 0, 0) else none) else (bif Nat.blt pc 61 then (bif Nat.beq pc 60 then some (.aaload, 1, 0, 0) else none) else (bif Nat.beq pc 61 then some (.iload_n 2, 1, 0, 0) else none))))) else (bif Nat.blt pc 67 then (bif Nat.blt pc 64 then (bif Nat.blt pc 63 then (bif Nat.beq pc 62 then some (.iaload, 1, 0, 0) else none) else (bif Nat.beq pc 63 then some (.iconst 1, 1, 0, 0) else none)) else (bif Nat.blt pc 65 then (bif Nat.beq pc 64 then some (.iload_n 3, 1, 0, 0) else none) else (bif Nat.blt pc 66 then (bif Nat.beq pc 65 then some (.ishl, 1, 0, 0) else none) else (bif Nat.beq pc 66 then some (.iand, 1, 0, 0) else none)))) else (bif Nat.blt pc 71 then (bif Nat.blt pc 70 then (bif Nat.beq pc 67 then some (.ifCond .eq (7), 3, 74, 0) else none) else (bif Nat.beq pc 70 then some (.iconst 1, 1, 0, 0) else none)) else (bif Nat.blt pc 74 then (bif Nat.beq pc 71 then some (.goto (4), 3, 75, 0) else none) else (bif Nat.blt pc 75 then (bif Nat.beq pc 74 then some (.iconst 0, 1, 0, 0) else none) else (bif Nat.beq pc 75 then some (.ireturn, 1, 0, 0) else none))))))) else none
theorem oxn_44 : ∀ pc, 76 ≤ pc → oxi_44 pc = none := fun pc h => by unfold oxi_44; rw [show Nat.blt pc 76 = false from ox_blt h]; rfl
theorem oxd_44 : ∀ pc e, oxi_44 pc = some e → decode prog_1_method_14_code pc = .ok (e.1, e.2.1) := ox_tab 76 oxn_44 (by decide +kernel)
theorem oxc_44 : ∀ pc e, oxi_44 pc = some e → ox_chk 5 pc e = true := ox_tab2 76 oxn_44 (by decide +kernel)
/-- OrderAxioms.ring()I -/
def oxi_45 (pc : Nat) : Option (Instr × Nat × Nat × Nat) := bif Nat.blt pc 8 then (bif Nat.blt pc 4 then (bif Nat.blt pc 1 then (bif Nat.beq pc 0 then some (.aload_n 0, 1, 0, 0) else none) else (bif Nat.beq pc 1 then some (.getfield 43, 3, 5, 5) else none)) else (bif Nat.blt pc 7 then (bif Nat.beq pc 4 then some (.getfield 188, 3, 4, 0) else none) else (bif Nat.beq pc 7 then some (.ireturn, 1, 0, 0) else none))) else none
theorem oxn_45 : ∀ pc, 8 ≤ pc → oxi_45 pc = none := fun pc h => by unfold oxi_45; rw [show Nat.blt pc 8 = false from ox_blt h]; rfl
theorem oxd_45 : ∀ pc e, oxi_45 pc = some e → decode prog_1_method_15_code pc = .ok (e.1, e.2.1) := ox_tab 8 oxn_45 (by decide +kernel)
theorem oxc_45 : ∀ pc e, oxi_45 pc = some e → ox_chk 5 pc e = true := ox_tab2 8 oxn_45 (by decide +kernel)
/-- OrderAxioms.ringAt(I)I -/
def oxi_46 (pc : Nat) : Option (Instr × Nat × Nat × Nat) := bif Nat.blt pc 34 then (bif Nat.blt pc 18 then (bif Nat.blt pc 8 then (bif Nat.blt pc 2 then (bif Nat.blt pc 1 then (bif Nat.beq pc 0 then some (.iload_n 1, 1, 0, 0) else none) else (bif Nat.beq pc 1 then some (.aload_n 0, 1, 0, 0) else none)) else (bif Nat.blt pc 5 then (bif Nat.beq pc 2 then some (.getfield 43, 3, 5, 5) else none) else (bif Nat.beq pc 5 then some (.getfield 188, 3, 4, 0) else none))) else (bif Nat.blt pc 14 then (bif Nat.blt pc 11 then (bif Nat.beq pc 8 then some (.invokestatic 58, 3, 49, 2) else none) else (bif Nat.beq pc 11 then some (.ifCond .ne (13), 3, 24, 0) else none)) else (bif Nat.blt pc 17 then (bif Nat.beq pc 14 then some (.new 169, 3, 2, 0) else none) else (bif Nat.beq pc 17 then some (.dup, 1, 0, 0) else none)))) else (bif Nat.blt pc 25 then (bif Nat.blt pc 23 then (bif Nat.blt pc 20 then (bif Nat.beq pc 18 then some (.ldc 220, 2, 0, 0) else none) else (bif Nat.beq pc 20 then some (.invokespecial 173, 3, 900, 0) else none)) else (bif Nat.blt pc 24 then (bif Nat.beq pc 23 then some (.athrow, 1, 0, 0) else none) else (bif Nat.beq pc 24 then some (.aload_n 0, 1, 0, 0) else none))) else (bif Nat.blt pc 31 then (bif Nat.blt pc 28 then (bif Nat.beq pc 25 then some (.getfield 43, 3, 5, 5) else none) else (bif Nat.beq pc 28 then some (.getfield 222, 3, 4, 1) else none)) else (bif Nat.blt pc 32 then (bif Nat.beq pc 31 then some (.iload_n 1, 1, 0, 0) else none) else (bif Nat.blt pc 33 then (bif Nat.beq pc 32 then some (.iaload, 1, 0, 0) else none) else (bif Nat.beq pc 33 then some (.ireturn, 1, 0, 0) else none)))))) else none
theorem oxn_46 : ∀ pc, 34 ≤ pc → oxi_46 pc = none := fun pc h => by unfold oxi_46; rw [show Nat.blt pc 34 = false from ox_blt h]; rfl
theorem oxd_46 : ∀ pc e, oxi_46 pc = some e → decode prog_1_method_16_code pc = .ok (e.1, e.2.1) := ox_tab 34 oxn_46 (by decide +kernel)
theorem oxc_46 : ∀ pc e, oxi_46 pc = some e → ox_chk 5 pc e = true := ox_tab2 34 oxn_46 (by decide +kernel)
/-- OrderAxioms.count(I)I -/
def oxi_47 (pc : Nat) : Option (Instr × Nat × Nat × Nat) := bif Nat.blt pc 114 then (bif Nat.blt pc 80 then (bif Nat.blt pc 63 then (bif Nat.blt pc 52 then (bif Nat.blt pc 48 then (bif Nat.blt pc 1 then (bif Nat.beq pc 0 then some (.iload_n 1, 1, 0, 0) else none) else (bif Nat.beq pc 1 then some (.tableswitch (111) (0) (7) #[47, 55, 63, 71, 79, 87, 95, 103], 47, 0, 0) else none)) else (bif Nat.blt pc 49 then (bif Nat.beq pc 48 then some (.aload_n 0, 1, 0, 0) else none) else (bif Nat.beq pc 49 then some (.getfield 10, 3, 5, 0) else none))) else (bif Nat.blt pc 56 then (bif Nat.blt pc 55 then (bif Nat.beq pc 52 then some (.getfield 47, 3, 3, 0) else none) else (bif Nat.beq pc 55 then some (.ireturn, 1, 0, 0) else none)) else (bif Nat.blt pc 57 then (bif Nat.beq pc 56 then some (.aload_n 0, 1, 0, 0) else none) else (bif Nat.blt pc 60 then (bif Nat.beq pc 57 then some (.getfield 10, 3, 5, 0) else none) else (bif Nat.beq pc 60 then some (.getfield 71, 3, 3, 1) else none))))) else (bif Nat.blt pc 71 then (bif Nat.blt pc 65 then (bif Nat.blt pc 64 then (bif Nat.beq pc 63 then some (.ireturn, 1, 0, 0) else none) else (bif Nat.beq pc 64 then some (.aload_n 0, 1, 0, 0) else none)) else (bif Nat.blt pc 68 then (bif Nat.beq pc 65 then some (.getfield 10, 3, 5, 0) else none) else (bif Nat.beq pc 68 then some (.getfield 225, 3, 3, 2) else none))) else (bif Nat.blt pc 73 then (bif Nat.blt pc 72 then (bif Nat.beq pc 71 then some (.ireturn, 1, 0, 0) else none) else (bif Nat.beq pc 72 then some (.aload_n 0, 1, 0, 0) else none)) else (bif Nat.blt pc 76 then (bif Nat.beq pc 73 then some (.getfield 19, 3, 5, 1) else none) else (bif Nat.blt pc 79 then (bif Nat.beq pc 76 then some (.getfield 96, 3, 2, 0) else none) else (bif Nat.beq pc 79 then some (.ireturn, 1, 0, 0) else none)))))) else (bif Nat.blt pc 97 then (bif Nat.blt pc 88 then (bif Nat.blt pc 84 then (bif Nat.blt pc 81 then (bif Nat.beq pc 80 then some (.aload_n 0, 1, 0, 0) else none) else (bif Nat.beq pc 81 then some (.getfield 19, 3, 5, 1) else none)) else (bif Nat.blt pc 87 then (bif Nat.beq pc 84 then some (.getfield 111, 3, 2, 1) else none) else (bif Nat.beq pc 87 then some (.ireturn, 1, 0, 0) else none))) else (bif Nat.blt pc 92 then (bif Nat.blt pc 89 then (bif Nat.beq pc 88 then some (.aload_n 0, 1, 0, 0) else none) else (bif Nat.beq pc 89 then some (.getfield 26, 3, 5, 2) else none)) else (bif Nat.blt pc 95 then (bif Nat.beq pc 92 then some (.getfield 163, 3, 1, 2) else none) else (bif Nat.blt pc 96 then (bif Nat.beq pc 95 then some (.ireturn, 1, 0, 0) else none) else (bif Nat.beq pc 96 then some (.aload_n 0, 1, 0, 0) else none))))) else (bif Nat.blt pc 105 then (bif Nat.blt pc 103 then (bif Nat.blt pc 100 then (bif Nat.beq pc 97 then some (.getfield 26, 3, 5, 2) else none) else (bif Nat.beq pc 100 then some (.getfield 226, 3, 1, 0) else none)) else (bif Nat.blt pc 104 then (bif Nat.beq pc 103 then some (.ireturn, 1, 0, 0) else none) else (bif Nat.beq pc 104 then some (.aload_n 0, 1, 0, 0) else none))) else (bif Nat.blt pc 111 then (bif Nat.blt pc 108 then (bif Nat.beq pc 105 then some (.getfield 26, 3, 5, 2) else none) else (bif Nat.beq pc 108 then some (.getfield 229, 3, 1, 1) else none)) else (bif Nat.blt pc 112 then (bif Nat.beq pc 111 then some (.ireturn, 1, 0, 0) else none) else (bif Nat.blt pc 113 then (bif Nat.beq pc 112 then some (.iconst (-1), 1, 0, 0) else none) else (bif Nat.beq pc 113 then some (.ireturn, 1, 0, 0) else none))))))) else none
theorem oxn_47 : ∀ pc, 114 ≤ pc → oxi_47 pc = none := fun pc h => by unfold oxi_47; rw [show Nat.blt pc 114 = false from ox_blt h]; rfl
theorem oxd_47 : ∀ pc e, oxi_47 pc = some e → decode prog_1_method_17_code pc = .ok (e.1, e.2.1) := ox_tab 114 oxn_47 (by decide +kernel)
theorem oxc_47 : ∀ pc e, oxi_47 pc = some e → ox_chk 5 pc e = true := ox_tab2 114 oxn_47 (by decide +kernel)
/-- OrderAxioms.clear()I -/
def oxi_48 (pc : Nat) : Option (Instr × Nat × Nat × Nat) := bif Nat.blt pc 17 then (bif Nat.blt pc 8 then (bif Nat.blt pc 4 then (bif Nat.blt pc 1 then (bif Nat.beq pc 0 then some (.aload_n 0, 1, 0, 0) else none) else (bif Nat.beq pc 1 then some (.getfield 10, 3, 5, 0) else none)) else (bif Nat.blt pc 7 then (bif Nat.beq pc 4 then some (.getfield 71, 3, 3, 1) else none) else (bif Nat.beq pc 7 then some (.istore_n 1, 1, 0, 0) else none))) else (bif Nat.blt pc 12 then (bif Nat.blt pc 9 then (bif Nat.beq pc 8 then some (.aload_n 0, 1, 0, 0) else none) else (bif Nat.beq pc 9 then some (.getfield 10, 3, 5, 0) else none)) else (bif Nat.blt pc 15 then (bif Nat.beq pc 12 then some (.invokevirtual 232, 3, 24, 1) else none) else (bif Nat.blt pc 16 then (bif Nat.beq pc 15 then some (.iload_n 1, 1, 0, 0) else none) else (bif Nat.beq pc 16 then some (.ireturn, 1, 0, 0) else none))))) else none
theorem oxn_48 : ∀ pc, 17 ≤ pc → oxi_48 pc = none := fun pc h => by unfold oxi_48; rw [show Nat.blt pc 17 = false from ox_blt h]; rfl
theorem oxd_48 : ∀ pc e, oxi_48 pc = some e → decode prog_1_method_18_code pc = .ok (e.1, e.2.1) := ox_tab 17 oxn_48 (by decide +kernel)
theorem oxc_48 : ∀ pc e, oxi_48 pc = some e → ox_chk 5 pc e = true := ox_tab2 17 oxn_48 (by decide +kernel)
/-- OrderAxioms.isBelow(II)Z -/
def oxi_49 (pc : Nat) : Option (Instr × Nat × Nat × Nat) := bif Nat.blt pc 15 then (bif Nat.blt pc 6 then (bif Nat.blt pc 4 then (bif Nat.blt pc 1 then (bif Nat.beq pc 0 then some (.iload_n 0, 1, 0, 0) else none) else (bif Nat.beq pc 1 then some (.ifCond .lt (12), 3, 13, 0) else none)) else (bif Nat.blt pc 5 then (bif Nat.beq pc 4 then some (.iload_n 0, 1, 0, 0) else none) else (bif Nat.beq pc 5 then some (.iload_n 1, 1, 0, 0) else none))) else (bif Nat.blt pc 10 then (bif Nat.blt pc 9 then (bif Nat.beq pc 6 then some (.if_icmp .ge (7), 3, 13, 0) else none) else (bif Nat.beq pc 9 then some (.iconst 1, 1, 0, 0) else none)) else (bif Nat.blt pc 13 then (bif Nat.beq pc 10 then some (.goto (4), 3, 14, 0) else none) else (bif Nat.blt pc 14 then (bif Nat.beq pc 13 then some (.iconst 0, 1, 0, 0) else none) else (bif Nat.beq pc 14 then some (.ireturn, 1, 0, 0) else none))))) else none
theorem oxn_49 : ∀ pc, 15 ≤ pc → oxi_49 pc = none := fun pc h => by unfold oxi_49; rw [show Nat.blt pc 15 = false from ox_blt h]; rfl
theorem oxd_49 : ∀ pc e, oxi_49 pc = some e → decode prog_1_method_19_code pc = .ok (e.1, e.2.1) := ox_tab 15 oxn_49 (by decide +kernel)
theorem oxc_49 : ∀ pc e, oxi_49 pc = some e → ox_chk 5 pc e = true := ox_tab2 15 oxn_49 (by decide +kernel)
/-- OrderAxioms.takesTwo(I)Z -/
def oxi_50 (pc : Nat) : Option (Instr × Nat × Nat × Nat) := bif Nat.blt pc 16 then (bif Nat.blt pc 7 then (bif Nat.blt pc 2 then (bif Nat.blt pc 1 then (bif Nat.beq pc 0 then some (.iload_n 0, 1, 0, 0) else none) else (bif Nat.beq pc 1 then some (.iconst 4, 1, 0, 0) else none)) else (bif Nat.blt pc 5 then (bif Nat.beq pc 2 then some (.if_icmp .eq (12), 3, 14, 0) else none) else (bif Nat.blt pc 6 then (bif Nat.beq pc 5 then some (.iload_n 0, 1, 0, 0) else none) else (bif Nat.beq pc 6 then some (.iconst 5, 1, 0, 0) else none)))) else (bif Nat.blt pc 11 then (bif Nat.blt pc 10 then (bif Nat.beq pc 7 then some (.if_icmp .eq (7), 3, 14, 0) else none) else (bif Nat.beq pc 10 then some (.iconst 1, 1, 0, 0) else none)) else (bif Nat.blt pc 14 then (bif Nat.beq pc 11 then some (.goto (4), 3, 15, 0) else none) else (bif Nat.blt pc 15 then (bif Nat.beq pc 14 then some (.iconst 0, 1, 0, 0) else none) else (bif Nat.beq pc 15 then some (.ireturn, 1, 0, 0) else none))))) else none
theorem oxn_50 : ∀ pc, 16 ≤ pc → oxi_50 pc = none := fun pc h => by unfold oxi_50; rw [show Nat.blt pc 16 = false from ox_blt h]; rfl
theorem oxd_50 : ∀ pc e, oxi_50 pc = some e → decode prog_1_method_20_code pc = .ok (e.1, e.2.1) := ox_tab 16 oxn_50 (by decide +kernel)
theorem oxc_50 : ∀ pc e, oxi_50 pc = some e → ox_chk 5 pc e = true := ox_tab2 16 oxn_50 (by decide +kernel)
end
section
/-- OrderAxiomsModel.thrown()I -/
def oxi_51 (pc : Nat) : Option (Instr × Nat × Nat × Nat) := bif Nat.blt pc 5 then (bif Nat.blt pc 1 then (bif Nat.beq pc 0 then some (.aload_n 0, 1, 0, 0) else none) else (bif Nat.blt pc 4 then (bif Nat.beq pc 1 then some (.getfield 91, 3, 6, 0) else none) else (bif Nat.beq pc 4 then some (.ireturn, 1, 0, 0) else none))) else none
theorem oxn_51 : ∀ pc, 5 ≤ pc → oxi_51 pc = none := fun pc h => by unfold oxi_51; rw [show Nat.blt pc 5 = false from ox_blt h]; rfl
theorem oxd_51 : ∀ pc e, oxi_51 pc = some e → decode prog_9_method_2_code pc = .ok (e.1, e.2.1) := ox_tab 5 oxn_51 (by decide +kernel)
theorem oxc_51 : ∀ pc e, oxi_51 pc = some e → ox_chk 6 pc e = true := ox_tab2 5 oxn_51 (by decide +kernel)
/-- OrderAxiomsModel.throwing(ZZ)Z -/
def oxi_52 (pc : Nat) : Option (Instr × Nat × Nat × Nat) := bif Nat.blt pc 34 then (bif Nat.blt pc 17 then (bif Nat.blt pc 6 then (bif Nat.blt pc 2 then (bif Nat.blt pc 1 then (bif Nat.beq pc 0 then some (.aload_n 0, 1, 0, 0) else none) else (bif Nat.beq pc 1 then some (.iload_n 1, 1, 0, 0) else none)) else (bif Nat.blt pc 5 then (bif Nat.beq pc 2 then some (.ifCond .eq (7), 3, 9, 0) else none) else (bif Nat.beq pc 5 then some (.iconst 1, 1, 0, 0) else none))) else (bif Nat.blt pc 10 then (bif Nat.blt pc 9 then (bif Nat.beq pc 6 then some (.goto (12), 3, 18, 0) else none) else (bif Nat.beq pc 9 then some (.iload_n 2, 1, 0, 0) else none)) else (bif Nat.blt pc 13 then (bif Nat.beq pc 10 then some (.ifCond .eq (7), 3, 17, 0) else none) else (bif Nat.blt pc 14 then (bif Nat.beq pc 13 then some (.iconst 2, 1, 0, 0) else none) else (bif Nat.beq pc 14 then some (.goto (4), 3, 18, 0) else none))))) else (bif Nat.blt pc 25 then (bif Nat.blt pc 21 then (bif Nat.blt pc 18 then (bif Nat.beq pc 17 then some (.iconst 0, 1, 0, 0) else none) else (bif Nat.beq pc 18 then some (.putfield 91, 3, 6, 0) else none)) else (bif Nat.blt pc 22 then (bif Nat.beq pc 21 then some (.aload_n 0, 1, 0, 0) else none) else (bif Nat.beq pc 22 then some (.getfield 91, 3, 6, 0) else none))) else (bif Nat.blt pc 29 then (bif Nat.blt pc 28 then (bif Nat.beq pc 25 then some (.ifCond .le (7), 3, 32, 0) else none) else (bif Nat.beq pc 28 then some (.iconst 1, 1, 0, 0) else none)) else (bif Nat.blt pc 32 then (bif Nat.beq pc 29 then some (.goto (4), 3, 33, 0) else none) else (bif Nat.blt pc 33 then (bif Nat.beq pc 32 then some (.iconst 0, 1, 0, 0) else none) else (bif Nat.beq pc 33 then some (.ireturn, 1, 0, 0) else none)))))) else none
theorem oxn_52 : ∀ pc, 34 ≤ pc → oxi_52 pc = none := fun pc h => by unfold oxi_52; rw [show Nat.blt pc 34 = false from ox_blt h]; rfl
theorem oxd_52 : ∀ pc e, oxi_52 pc = some e → decode prog_9_method_3_code pc = .ok (e.1, e.2.1) := ox_tab 34 oxn_52 (by decide +kernel)
theorem oxc_52 : ∀ pc e, oxi_52 pc = some e → ox_chk 6 pc e = true := ox_tab2 34 oxn_52 (by decide +kernel)
/-- OrderAxiomsModel.thread()I -/
def oxi_53 (pc : Nat) : Option (Instr × Nat × Nat × Nat) := bif Nat.blt pc 40 then (bif Nat.blt pc 22 then (bif Nat.blt pc 10 then (bif Nat.blt pc 5 then (bif Nat.blt pc 1 then (bif Nat.beq pc 0 then some (.aload_n 0, 1, 0, 0) else none) else (bif Nat.blt pc 2 then (bif Nat.beq pc 1 then some (.aload_n 0, 1, 0, 0) else none) else (bif Nat.beq pc 2 then some (.getfield 94, 3, 6, 1) else none))) else (bif Nat.blt pc 6 then (bif Nat.beq pc 5 then some (.iconst 4, 1, 0, 0) else none) else (bif Nat.blt pc 9 then (bif Nat.beq pc 6 then some (.if_icmp .ne (7), 3, 13, 0) else none) else (bif Nat.beq pc 9 then some (.iconst 1, 1, 0, 0) else none)))) else (bif Nat.blt pc 15 then (bif Nat.blt pc 13 then (bif Nat.beq pc 10 then some (.goto (4), 3, 14, 0) else none) else (bif Nat.blt pc 14 then (bif Nat.beq pc 13 then some (.iconst 0, 1, 0, 0) else none) else (bif Nat.beq pc 14 then some (.iconst 0, 1, 0, 0) else none))) else (bif Nat.blt pc 18 then (bif Nat.beq pc 15 then some (.invokevirtual 97, 3, 52, 3) else none) else (bif Nat.blt pc 21 then (bif Nat.beq pc 18 then some (.ifCond .eq (5), 3, 23, 0) else none) else (bif Nat.beq pc 21 then some (.iconst 0, 1, 0, 0) else none))))) else (bif Nat.blt pc 30 then (bif Nat.blt pc 25 then (bif Nat.blt pc 23 then (bif Nat.beq pc 22 then some (.ireturn, 1, 0, 0) else none) else (bif Nat.blt pc 24 then (bif Nat.beq pc 23 then some (.aload_n 0, 1, 0, 0) else none) else (bif Nat.beq pc 24 then some (.dup, 1, 0, 0) else none))) else (bif Nat.blt pc 28 then (bif Nat.beq pc 25 then some (.getfield 94, 3, 6, 1) else none) else (bif Nat.blt pc 29 then (bif Nat.beq pc 28 then some (.iconst 1, 1, 0, 0) else none) else (bif Nat.beq pc 29 then some (.iadd, 1, 0, 0) else none)))) else (bif Nat.blt pc 37 then (bif Nat.blt pc 33 then (bif Nat.beq pc 30 then some (.putfield 94, 3, 6, 1) else none) else (bif Nat.blt pc 34 then (bif Nat.beq pc 33 then some (.aload_n 0, 1, 0, 0) else none) else (bif Nat.beq pc 34 then some (.getfield 94, 3, 6, 1) else none))) else (bif Nat.blt pc 38 then (bif Nat.beq pc 37 then some (.iconst 1, 1, 0, 0) else none) else (bif Nat.blt pc 39 then (bif Nat.beq pc 38 then some (.isub, 1, 0, 0) else none) else (bif Nat.beq pc 39 then some (.ireturn, 1, 0, 0) else none)))))) else none
theorem oxn_53 : ∀ pc, 40 ≤ pc → oxi_53 pc = none := fun pc h => by unfold oxi_53; rw [show Nat.blt pc 40 = false from ox_blt h]; rfl
theorem oxd_53 : ∀ pc e, oxi_53 pc = some e → decode prog_9_method_4_code pc = .ok (e.1, e.2.1) := ox_tab 40 oxn_53 (by decide +kernel)
theorem oxc_53 : ∀ pc e, oxi_53 pc = some e → ox_chk 6 pc e = true := ox_tab2 40 oxn_53 (by decide +kernel)
/-- OrderAxiomsModel.event(IIII)I -/
def oxi_54 (pc : Nat) : Option (Instr × Nat × Nat × Nat) := bif Nat.blt pc 182 then (bif Nat.blt pc 92 then (bif Nat.blt pc 45 then (bif Nat.blt pc 22 then (bif Nat.blt pc 12 then (bif Nat.blt pc 5 then (bif Nat.blt pc 1 then (bif Nat.beq pc 0 then some (.iload_n 1, 1, 0, 0) else none) else (bif Nat.blt pc 4 then (bif Nat.beq pc 1 then some (.ifCond .lt (34), 3, 35, 0) else none) else (bif Nat.beq pc 4 then some (.iload_n 1, 1, 0, 0) else none))) else (bif Nat.blt pc 6 then (bif Nat.beq pc 5 then some (.aload_n 0, 1, 0, 0) else none) else (bif Nat.blt pc 9 then (bif Nat.beq pc 6 then some (.getfield 94, 3, 6, 1) else none) else (bif Nat.beq pc 9 then some (.if_icmp .ge (26), 3, 35, 0) else none)))) else (bif Nat.blt pc 17 then (bif Nat.blt pc 13 then (bif Nat.beq pc 12 then some (.iload_n 2, 1, 0, 0) else none) else (bif Nat.blt pc 16 then (bif Nat.beq pc 13 then some (.ifCond .lt (22), 3, 35, 0) else none) else (bif Nat.beq pc 16 then some (.iload_n 2, 1, 0, 0) else none))) else (bif Nat.blt pc 18 then (bif Nat.beq pc 17 then some (.iconst 2, 1, 0, 0) else none) else (bif Nat.blt pc 21 then (bif Nat.beq pc 18 then some (.if_icmp .gt (17), 3, 35, 0) else none) else (bif Nat.beq pc 21 then some (.iload_n 2, 1, 0, 0) else none))))) else (bif Nat.blt pc 32 then (bif Nat.blt pc 27 then (bif Nat.blt pc 23 then (bif Nat.beq pc 22 then some (.iconst 2, 1, 0, 0) else none) else (bif Nat.blt pc 26 then (bif Nat.beq pc 23 then some (.if_icmp .ge (16), 3, 39, 0) else none) else (bif Nat.beq pc 26 then some (.iload_n 3, 1, 0, 0) else none))) else (bif Nat.blt pc 30 then (bif Nat.beq pc 27 then some (.ifCond .lt (8), 3, 35, 0) else none) else (bif Nat.blt pc 31 then (bif Nat.beq pc 30 then some (.iload_n 3, 1, 0, 0) else none) else (bif Nat.beq pc 31 then some (.iconst 4, 1, 0, 0) else none)))) else (bif Nat.blt pc 39 then (bif Nat.blt pc 35 then (bif Nat.beq pc 32 then some (.if_icmp .lt (7), 3, 39, 0) else none) else (bif Nat.blt pc 36 then (bif Nat.beq pc 35 then some (.iconst 1, 1, 0, 0) else none) else (bif Nat.beq pc 36 then some (.goto (4), 3, 40, 0) else none))) else (bif Nat.blt pc 42 then (bif Nat.blt pc 40 then (bif Nat.beq pc 39 then some (.iconst 0, 1, 0, 0) else none) else (bif Nat.beq pc 40 then some (.istore 5, 2, 0, 0) else none)) else (bif Nat.blt pc 43 then (bif Nat.beq pc 42 then some (.aload_n 0, 1, 0, 0) else none) else (bif Nat.beq pc 43 then some (.iload 5, 2, 0, 0) else none)))))) else (bif Nat.blt pc 71 then (bif Nat.blt pc 58 then (bif Nat.blt pc 51 then (bif Nat.blt pc 46 then (bif Nat.beq pc 45 then some (.aload_n 0, 1, 0, 0) else none) else (bif Nat.blt pc 49 then (bif Nat.beq pc 46 then some (.getfield 101, 3, 6, 2) else none) else (bif Nat.beq pc 49 then some (.bipush 12, 2, 0, 0) else none))) else (bif Nat.blt pc 54 then (bif Nat.beq pc 51 then some (.if_icmp .ne (7), 3, 58, 0) else none) else (bif Nat.blt pc 55 then (bif Nat.beq pc 54 then some (.iconst 1, 1, 0, 0) else none) else (bif Nat.beq pc 55 then some (.goto (4), 3, 59, 0) else none)))) else (bif Nat.blt pc 65 then (bif Nat.blt pc 59 then (bif Nat.beq pc 58 then some (.iconst 0, 1, 0, 0) else none) else (bif Nat.blt pc 62 then (bif Nat.beq pc 59 then some (.invokevirtual 97, 3, 52, 3) else none) else (bif Nat.beq pc 62 then some (.ifCond .eq (5), 3, 67, 0) else none))) else (bif Nat.blt pc 67 then (bif Nat.blt pc 66 then (bif Nat.beq pc 65 then some (.iconst 0, 1, 0, 0) else none) else (bif Nat.beq pc 66 then some (.ireturn, 1, 0, 0) else none)) else (bif Nat.blt pc 68 then (bif Nat.beq pc 67 then some (.aload_n 0, 1, 0, 0) else none) else (bif Nat.beq pc 68 then some (.getfield 7, 3, 6, 3) else none))))) else (bif Nat.blt pc 81 then (bif Nat.blt pc 76 then (bif Nat.blt pc 72 then (bif Nat.beq pc 71 then some (.aload_n 0, 1, 0, 0) else none) else (bif Nat.blt pc 75 then (bif Nat.beq pc 72 then some (.getfield 101, 3, 6, 2) else none) else (bif Nat.beq pc 75 then some (.iload_n 1, 1, 0, 0) else none))) else (bif Nat.blt pc 77 then (bif Nat.beq pc 76 then some (.iastore, 1, 0, 0) else none) else (bif Nat.blt pc 78 then (bif Nat.beq pc 77 then some (.aload_n 0, 1, 0, 0) else none) else (bif Nat.beq pc 78 then some (.getfield 13, 3, 6, 4) else none)))) else (bif Nat.blt pc 86 then (bif Nat.blt pc 82 then (bif Nat.beq pc 81 then some (.aload_n 0, 1, 0, 0) else none) else (bif Nat.blt pc 85 then (bif Nat.beq pc 82 then some (.getfield 101, 3, 6, 2) else none) else (bif Nat.beq pc 85 then some (.iload_n 2, 1, 0, 0) else none))) else (bif Nat.blt pc 88 then (bif Nat.blt pc 87 then (bif Nat.beq pc 86 then some (.iastore, 1, 0, 0) else none) else (bif Nat.beq pc 87 then some (.aload_n 0, 1, 0, 0) else none)) else (bif Nat.blt pc 91 then (bif Nat.beq pc 88 then some (.getfield 16, 3, 6, 5) else none) else (bif Nat.beq pc 91 then some (.aload_n 0, 1, 0, 0) else none))))))) else (bif Nat.blt pc 140 then (bif Nat.blt pc 116 then (bif Nat.blt pc 104 then (bif Nat.blt pc 97 then (bif Nat.blt pc 95 then (bif Nat.beq pc 92 then some (.getfield 101, 3, 6, 2) else none) else (bif Nat.blt pc 96 then (bif Nat.beq pc 95 then some (.iload_n 2, 1, 0, 0) else none) else (bif Nat.beq pc 96 then some (.iconst 2, 1, 0, 0) else none))) else (bif Nat.blt pc 100 then (bif Nat.beq pc 97 then some (.if_icmp .ge (7), 3, 104, 0) else none) else (bif Nat.blt pc 101 then (bif Nat.beq pc 100 then some (.iload_n 3, 1, 0, 0) else none) else (bif Nat.beq pc 101 then some (.goto (4), 3, 105, 0) else none)))) else (bif Nat.blt pc 107 then (bif Nat.blt pc 105 then (bif Nat.beq pc 104 then some (.iconst (-1), 1, 0, 0) else none) else (bif Nat.blt pc 106 then (bif Nat.beq pc 105 then some (.iastore, 1, 0, 0) else none) else (bif Nat.beq pc 106 then some (.aload_n 0, 1, 0, 0) else none))) else (bif Nat.blt pc 111 then (bif Nat.blt pc 110 then (bif Nat.beq pc 107 then some (.getfield 19, 3, 6, 6) else none) else (bif Nat.beq pc 110 then some (.aload_n 0, 1, 0, 0) else none)) else (bif Nat.blt pc 114 then (bif Nat.beq pc 111 then some (.getfield 101, 3, 6, 2) else none) else (bif Nat.beq pc 114 then some (.iload 4, 2, 0, 0) else none))))) else (bif Nat.blt pc 127 then (bif Nat.blt pc 120 then (bif Nat.blt pc 117 then (bif Nat.beq pc 116 then some (.iastore, 1, 0, 0) else none) else (bif Nat.blt pc 118 then (bif Nat.beq pc 117 then some (.iconst 0, 1, 0, 0) else none) else (bif Nat.beq pc 118 then some (.istore 6, 2, 0, 0) else none))) else (bif Nat.blt pc 122 then (bif Nat.beq pc 120 then some (.iload 6, 2, 0, 0) else none) else (bif Nat.blt pc 124 then (bif Nat.beq pc 122 then some (.bipush 12, 2, 0, 0) else none) else (bif Nat.beq pc 124 then some (.if_icmp .ge (41), 3, 165, 0) else none)))) else (bif Nat.blt pc 133 then (bif Nat.blt pc 128 then (bif Nat.beq pc 127 then some (.aload_n 0, 1, 0, 0) else none) else (bif Nat.blt pc 131 then (bif Nat.beq pc 128 then some (.getfield 22, 3, 6, 7) else none) else (bif Nat.beq pc 131 then some (.bipush 12, 2, 0, 0) else none))) else (bif Nat.blt pc 137 then (bif Nat.blt pc 134 then (bif Nat.beq pc 133 then some (.aload_n 0, 1, 0, 0) else none) else (bif Nat.beq pc 134 then some (.getfield 101, 3, 6, 2) else none)) else (bif Nat.blt pc 138 then (bif Nat.beq pc 137 then some (.imul, 1, 0, 0) else none) else (bif Nat.beq pc 138 then some (.iload 6, 2, 0, 0) else none)))))) else (bif Nat.blt pc 159 then (bif Nat.blt pc 149 then (bif Nat.blt pc 143 then (bif Nat.blt pc 141 then (bif Nat.beq pc 140 then some (.iadd, 1, 0, 0) else none) else (bif Nat.blt pc 142 then (bif Nat.beq pc 141 then some (.iconst 0, 1, 0, 0) else none) else (bif Nat.beq pc 142 then some (.bastore, 1, 0, 0) else none))) else (bif Nat.blt pc 144 then (bif Nat.beq pc 143 then some (.aload_n 0, 1, 0, 0) else none) else (bif Nat.blt pc 147 then (bif Nat.beq pc 144 then some (.getfield 22, 3, 6, 7) else none) else (bif Nat.beq pc 147 then some (.bipush 12, 2, 0, 0) else none)))) else (bif Nat.blt pc 153 then (bif Nat.blt pc 151 then (bif Nat.beq pc 149 then some (.iload 6, 2, 0, 0) else none) else (bif Nat.blt pc 152 then (bif Nat.beq pc 151 then some (.imul, 1, 0, 0) else none) else (bif Nat.beq pc 152 then some (.aload_n 0, 1, 0, 0) else none))) else (bif Nat.blt pc 157 then (bif Nat.blt pc 156 then (bif Nat.beq pc 153 then some (.getfield 101, 3, 6, 2) else none) else (bif Nat.beq pc 156 then some (.iadd, 1, 0, 0) else none)) else (bif Nat.blt pc 158 then (bif Nat.beq pc 157 then some (.iconst 0, 1, 0, 0) else none) else (bif Nat.beq pc 158 then some (.bastore, 1, 0, 0) else none))))) else (bif Nat.blt pc 171 then (bif Nat.blt pc 166 then (bif Nat.blt pc 162 then (bif Nat.beq pc 159 then some (.iinc 6 1, 3, 0, 0) else none) else (bif Nat.blt pc 165 then (bif Nat.beq pc 162 then some (.goto (-42), 3, 120, 0) else none) else (bif Nat.beq pc 165 then some (.aload_n 0, 1, 0, 0) else none))) else (bif Nat.blt pc 167 then (bif Nat.beq pc 166 then some (.dup, 1, 0, 0) else none) else (bif Nat.blt pc 170 then (bif Nat.beq pc 167 then some (.getfield 101, 3, 6, 2) else none) else (bif Nat.beq pc 170 then some (.iconst 1, 1, 0, 0) else none)))) else (bif Nat.blt pc 176 then (bif Nat.blt pc 172 then (bif Nat.beq pc 171 then some (.iadd, 1, 0, 0) else none) else (bif Nat.blt pc 175 then (bif Nat.beq pc 172 then some (.putfield 101, 3, 6, 2) else none) else (bif Nat.beq pc 175 then some (.aload_n 0, 1, 0, 0) else none))) else (bif Nat.blt pc 180 then (bif Nat.blt pc 179 then (bif Nat.beq pc 176 then some (.getfield 101, 3, 6, 2) else none) else (bif Nat.beq pc 179 then some (.iconst 1, 1, 0, 0) else none)) else (bif Nat.blt pc 181 then (bif Nat.beq pc 180 then some (.isub, 1, 0, 0) else none) else (bif Nat.beq pc 181 then some (.ireturn, 1, 0, 0) else none)))))))) else none
theorem oxn_54 : ∀ pc, 182 ≤ pc → oxi_54 pc = none := fun pc h => by unfold oxi_54; rw [show Nat.blt pc 182 = false from ox_blt h]; rfl
theorem oxd_54 : ∀ pc e, oxi_54 pc = some e → decode prog_9_method_5_code pc = .ok (e.1, e.2.1) := ox_tab 182 oxn_54 (by decide +kernel)
theorem oxc_54 : ∀ pc e, oxi_54 pc = some e → ox_chk 6 pc e = true := ox_tab2 182 oxn_54 (by decide +kernel)
/-- OrderAxiomsModel.isEvent(I)Z -/
def oxi_55 (pc : Nat) : Option (Instr × Nat × Nat × Nat) := bif Nat.blt pc 18 then (bif Nat.blt pc 9 then (bif Nat.blt pc 4 then (bif Nat.blt pc 1 then (bif Nat.beq pc 0 then some (.iload_n 1, 1, 0, 0) else none) else (bif Nat.beq pc 1 then some (.ifCond .lt (15), 3, 16, 0) else none)) else (bif Nat.blt pc 5 then (bif Nat.beq pc 4 then some (.iload_n 1, 1, 0, 0) else none) else (bif Nat.blt pc 6 then (bif Nat.beq pc 5 then some (.aload_n 0, 1, 0, 0) else none) else (bif Nat.beq pc 6 then some (.getfield 101, 3, 6, 2) else none)))) else (bif Nat.blt pc 13 then (bif Nat.blt pc 12 then (bif Nat.beq pc 9 then some (.if_icmp .ge (7), 3, 16, 0) else none) else (bif Nat.beq pc 12 then some (.iconst 1, 1, 0, 0) else none)) else (bif Nat.blt pc 16 then (bif Nat.beq pc 13 then some (.goto (4), 3, 17, 0) else none) else (bif Nat.blt pc 17 then (bif Nat.beq pc 16 then some (.iconst 0, 1, 0, 0) else none) else (bif Nat.beq pc 17 then some (.ireturn, 1, 0, 0) else none))))) else none
theorem oxn_55 : ∀ pc, 18 ≤ pc → oxi_55 pc = none := fun pc h => by unfold oxi_55; rw [show Nat.blt pc 18 = false from ox_blt h]; rfl
theorem oxd_55 : ∀ pc e, oxi_55 pc = some e → decode prog_9_method_6_code pc = .ok (e.1, e.2.1) := ox_tab 18 oxn_55 (by decide +kernel)
theorem oxc_55 : ∀ pc e, oxi_55 pc = some e → ox_chk 6 pc e = true := ox_tab2 18 oxn_55 (by decide +kernel)
/-- OrderAxiomsModel.depends(II)Z -/
def oxi_56 (pc : Nat) : Option (Instr × Nat × Nat × Nat) := bif Nat.blt pc 116 then (bif Nat.blt pc 61 then (bif Nat.blt pc 31 then (bif Nat.blt pc 16 then (bif Nat.blt pc 8 then (bif Nat.blt pc 2 then (bif Nat.blt pc 1 then (bif Nat.beq pc 0 then some (.aload_n 0, 1, 0, 0) else none) else (bif Nat.beq pc 1 then some (.iload_n 1, 1, 0, 0) else none)) else (bif Nat.blt pc 5 then (bif Nat.beq pc 2 then some (.invokevirtual 104, 3, 55, 2) else none) else (bif Nat.beq pc 5 then some (.ifCond .eq (54), 3, 59, 0) else none))) else (bif Nat.blt pc 10 then (bif Nat.blt pc 9 then (bif Nat.beq pc 8 then some (.aload_n 0, 1, 0, 0) else none) else (bif Nat.beq pc 9 then some (.iload_n 2, 1, 0, 0) else none)) else (bif Nat.blt pc 13 then (bif Nat.beq pc 10 then some (.invokevirtual 104, 3, 55, 2) else none) else (bif Nat.beq pc 13 then some (.ifCond .eq (46), 3, 59, 0) else none)))) else (bif Nat.blt pc 22 then (bif Nat.blt pc 20 then (bif Nat.blt pc 17 then (bif Nat.beq pc 16 then some (.aload_n 0, 1, 0, 0) else none) else (bif Nat.beq pc 17 then some (.getfield 13, 3, 6, 4) else none)) else (bif Nat.blt pc 21 then (bif Nat.beq pc 20 then some (.iload_n 1, 1, 0, 0) else none) else (bif Nat.beq pc 21 then some (.iaload, 1, 0, 0) else none))) else (bif Nat.blt pc 26 then (bif Nat.blt pc 25 then (bif Nat.beq pc 22 then some (.ifCond .ne (37), 3, 59, 0) else none) else (bif Nat.beq pc 25 then some (.aload_n 0, 1, 0, 0) else none)) else (bif Nat.blt pc 29 then (bif Nat.beq pc 26 then some (.getfield 7, 3, 6, 3) else none) else (bif Nat.blt pc 30 then (bif Nat.beq pc 29 then some (.iload_n 1, 1, 0, 0) else none) else (bif Nat.beq pc 30 then some (.iaload, 1, 0, 0) else none)))))) else (bif Nat.blt pc 46 then (bif Nat.blt pc 37 then (bif Nat.blt pc 35 then (bif Nat.blt pc 32 then (bif Nat.beq pc 31 then some (.aload_n 0, 1, 0, 0) else none) else (bif Nat.beq pc 32 then some (.getfield 7, 3, 6, 3) else none)) else (bif Nat.blt pc 36 then (bif Nat.beq pc 35 then some (.iload_n 2, 1, 0, 0) else none) else (bif Nat.beq pc 36 then some (.iaload, 1, 0, 0) else none))) else (bif Nat.blt pc 41 then (bif Nat.blt pc 40 then (bif Nat.beq pc 37 then some (.if_icmp .ne (22), 3, 59, 0) else none) else (bif Nat.beq pc 40 then some (.iload_n 1, 1, 0, 0) else none)) else (bif Nat.blt pc 42 then (bif Nat.beq pc 41 then some (.iload_n 2, 1, 0, 0) else none) else (bif Nat.blt pc 45 then (bif Nat.beq pc 42 then some (.if_icmp .ge (17), 3, 59, 0) else none) else (bif Nat.beq pc 45 then some (.aload_n 0, 1, 0, 0) else none))))) else (bif Nat.blt pc 52 then (bif Nat.blt pc 50 then (bif Nat.blt pc 49 then (bif Nat.beq pc 46 then some (.getfield 13, 3, 6, 4) else none) else (bif Nat.beq pc 49 then some (.iload_n 2, 1, 0, 0) else none)) else (bif Nat.blt pc 51 then (bif Nat.beq pc 50 then some (.iaload, 1, 0, 0) else none) else (bif Nat.beq pc 51 then some (.iconst 2, 1, 0, 0) else none))) else (bif Nat.blt pc 56 then (bif Nat.blt pc 55 then (bif Nat.beq pc 52 then some (.if_icmp .eq (7), 3, 59, 0) else none) else (bif Nat.beq pc 55 then some (.iconst 1, 1, 0, 0) else none)) else (bif Nat.blt pc 59 then (bif Nat.beq pc 56 then some (.goto (4), 3, 60, 0) else none) else (bif Nat.blt pc 60 then (bif Nat.beq pc 59 then some (.iconst 0, 1, 0, 0) else none) else (bif Nat.beq pc 60 then some (.istore_n 3, 1, 0, 0) else none))))))) else (bif Nat.blt pc 89 then (bif Nat.blt pc 75 then (bif Nat.blt pc 67 then (bif Nat.blt pc 63 then (bif Nat.blt pc 62 then (bif Nat.beq pc 61 then some (.aload_n 0, 1, 0, 0) else none) else (bif Nat.beq pc 62 then some (.iload_n 3, 1, 0, 0) else none)) else (bif Nat.blt pc 66 then (bif Nat.beq pc 63 then some (.ifCond .ne (7), 3, 70, 0) else none) else (bif Nat.beq pc 66 then some (.iconst 1, 1, 0, 0) else none))) else (bif Nat.blt pc 71 then (bif Nat.blt pc 70 then (bif Nat.beq pc 67 then some (.goto (4), 3, 71, 0) else none) else (bif Nat.beq pc 70 then some (.iconst 0, 1, 0, 0) else none)) else (bif Nat.blt pc 72 then (bif Nat.beq pc 71 then some (.iconst 0, 1, 0, 0) else none) else (bif Nat.beq pc 72 then some (.invokevirtual 97, 3, 52, 3) else none)))) else (bif Nat.blt pc 81 then (bif Nat.blt pc 79 then (bif Nat.blt pc 78 then (bif Nat.beq pc 75 then some (.ifCond .eq (5), 3, 80, 0) else none) else (bif Nat.beq pc 78 then some (.iconst 0, 1, 0, 0) else none)) else (bif Nat.blt pc 80 then (bif Nat.beq pc 79 then some (.ireturn, 1, 0, 0) else none) else (bif Nat.beq pc 80 then some (.aload_n 0, 1, 0, 0) else none))) else (bif Nat.blt pc 86 then (bif Nat.blt pc 84 then (bif Nat.beq pc 81 then some (.getfield 22, 3, 6, 7) else none) else (bif Nat.beq pc 84 then some (.bipush 12, 2, 0, 0) else none)) else (bif Nat.blt pc 87 then (bif Nat.beq pc 86 then some (.iload_n 1, 1, 0, 0) else none) else (bif Nat.blt pc 88 then (bif Nat.beq pc 87 then some (.imul, 1, 0, 0) else none) else (bif Nat.beq pc 88 then some (.iload_n 2, 1, 0, 0) else none)))))) else (bif Nat.blt pc 102 then (bif Nat.blt pc 94 then (bif Nat.blt pc 91 then (bif Nat.blt pc 90 then (bif Nat.beq pc 89 then some (.iadd, 1, 0, 0) else none) else (bif Nat.beq pc 90 then some (.baload, 1, 0, 0) else none)) else (bif Nat.blt pc 93 then (bif Nat.beq pc 91 then some (.istore 4, 2, 0, 0) else none) else (bif Nat.beq pc 93 then some (.aload_n 0, 1, 0, 0) else none))) else (bif Nat.blt pc 99 then (bif Nat.blt pc 97 then (bif Nat.beq pc 94 then some (.getfield 22, 3, 6, 7) else none) else (bif Nat.beq pc 97 then some (.bipush 12, 2, 0, 0) else none)) else (bif Nat.blt pc 100 then (bif Nat.beq pc 99 then some (.iload_n 1, 1, 0, 0) else none) else (bif Nat.blt pc 101 then (bif Nat.beq pc 100 then some (.imul, 1, 0, 0) else none) else (bif Nat.beq pc 101 then some (.iload_n 2, 1, 0, 0) else none))))) else (bif Nat.blt pc 107 then (bif Nat.blt pc 104 then (bif Nat.blt pc 103 then (bif Nat.beq pc 102 then some (.iadd, 1, 0, 0) else none) else (bif Nat.beq pc 103 then some (.iconst 1, 1, 0, 0) else none)) else (bif Nat.blt pc 105 then (bif Nat.beq pc 104 then some (.bastore, 1, 0, 0) else none) else (bif Nat.beq pc 105 then some (.iload 4, 2, 0, 0) else none))) else (bif Nat.blt pc 111 then (bif Nat.blt pc 110 then (bif Nat.beq pc 107 then some (.ifCond .ne (7), 3, 114, 0) else none) else (bif Nat.beq pc 110 then some (.iconst 1, 1, 0, 0) else none)) else (bif Nat.blt pc 114 then (bif Nat.beq pc 111 then some (.goto (4), 3, 115, 0) else none) else (bif Nat.blt pc 115 then (bif Nat.beq pc 114 then some (.iconst 0, 1, 0, 0) else none) else (bif Nat.beq pc 115 then some (.ireturn, 1, 0, 0) else none)))))))) else none
theorem oxn_56 : ∀ pc, 116 ≤ pc → oxi_56 pc = none := fun pc h => by unfold oxi_56; rw [show Nat.blt pc 116 = false from ox_blt h]; rfl
theorem oxd_56 : ∀ pc e, oxi_56 pc = some e → decode prog_9_method_7_code pc = .ok (e.1, e.2.1) := ox_tab 116 oxn_56 (by decide +kernel)
theorem oxc_56 : ∀ pc e, oxi_56 pc = some e → ox_chk 6 pc e = true := ox_tab2 116 oxn_56 (by decide +kernel)
/-- OrderAxiomsModel.isOf(II)Z -/
def oxi_57 (pc : Nat) : Option (Instr × Nat × Nat × Nat) := bif Nat.blt pc 15 then (bif Nat.blt pc 6 then (bif Nat.blt pc 4 then (bif Nat.blt pc 1 then (bif Nat.beq pc 0 then some (.iload_n 0, 1, 0, 0) else none) else (bif Nat.beq pc 1 then some (.ifCond .lt (12), 3, 13, 0) else none)) else (bif Nat.blt pc 5 then (bif Nat.beq pc 4 then some (.iload_n 0, 1, 0, 0) else none) else (bif Nat.beq pc 5 then some (.iload_n 1, 1, 0, 0) else none))) else (bif Nat.blt pc 10 then (bif Nat.blt pc 9 then (bif Nat.beq pc 6 then some (.if_icmp .ge (7), 3, 13, 0) else none) else (bif Nat.beq pc 9 then some (.iconst 1, 1, 0, 0) else none)) else (bif Nat.blt pc 13 then (bif Nat.beq pc 10 then some (.goto (4), 3, 14, 0) else none) else (bif Nat.blt pc 14 then (bif Nat.beq pc 13 then some (.iconst 0, 1, 0, 0) else none) else (bif Nat.beq pc 14 then some (.ireturn, 1, 0, 0) else none))))) else none
theorem oxn_57 : ∀ pc, 15 ≤ pc → oxi_57 pc = none := fun pc h => by unfold oxi_57; rw [show Nat.blt pc 15 = false from ox_blt h]; rfl
theorem oxd_57 : ∀ pc e, oxi_57 pc = some e → decode prog_9_method_8_code pc = .ok (e.1, e.2.1) := ox_tab 15 oxn_57 (by decide +kernel)
theorem oxc_57 : ∀ pc e, oxi_57 pc = some e → ox_chk 6 pc e = true := ox_tab2 15 oxn_57 (by decide +kernel)
/-- OrderAxiomsModel.add(III)I -/
def oxi_58 (pc : Nat) : Option (Instr × Nat × Nat × Nat) := bif Nat.blt pc 47 then (bif Nat.blt pc 24 then (bif Nat.blt pc 11 then (bif Nat.blt pc 5 then (bif Nat.blt pc 1 then (bif Nat.beq pc 0 then some (.aload_n 0, 1, 0, 0) else none) else (bif Nat.blt pc 4 then (bif Nat.beq pc 1 then some (.getfield 30, 3, 6, 9) else none) else (bif Nat.beq pc 4 then some (.aload_n 0, 1, 0, 0) else none))) else (bif Nat.blt pc 9 then (bif Nat.blt pc 8 then (bif Nat.beq pc 5 then some (.getfield 26, 3, 6, 8) else none) else (bif Nat.beq pc 8 then some (.iload_n 1, 1, 0, 0) else none)) else (bif Nat.blt pc 10 then (bif Nat.beq pc 9 then some (.iastore, 1, 0, 0) else none) else (bif Nat.beq pc 10 then some (.aload_n 0, 1, 0, 0) else none)))) else (bif Nat.blt pc 18 then (bif Nat.blt pc 14 then (bif Nat.beq pc 11 then some (.getfield 33, 3, 6, 10) else none) else (bif Nat.blt pc 15 then (bif Nat.beq pc 14 then some (.aload_n 0, 1, 0, 0) else none) else (bif Nat.beq pc 15 then some (.getfield 26, 3, 6, 8) else none))) else (bif Nat.blt pc 20 then (bif Nat.blt pc 19 then (bif Nat.beq pc 18 then some (.iload_n 2, 1, 0, 0) else none) else (bif Nat.beq pc 19 then some (.iastore, 1, 0, 0) else none)) else (bif Nat.blt pc 21 then (bif Nat.beq pc 20 then some (.aload_n 0, 1, 0, 0) else none) else (bif Nat.beq pc 21 then some (.getfield 36, 3, 6, 11) else none))))) else (bif Nat.blt pc 35 then (bif Nat.blt pc 29 then (bif Nat.blt pc 25 then (bif Nat.beq pc 24 then some (.aload_n 0, 1, 0, 0) else none) else (bif Nat.blt pc 28 then (bif Nat.beq pc 25 then some (.getfield 26, 3, 6, 8) else none) else (bif Nat.beq pc 28 then some (.iload_n 3, 1, 0, 0) else none))) else (bif Nat.blt pc 31 then (bif Nat.blt pc 30 then (bif Nat.beq pc 29 then some (.iastore, 1, 0, 0) else none) else (bif Nat.beq pc 30 then some (.aload_n 0, 1, 0, 0) else none)) else (bif Nat.blt pc 32 then (bif Nat.beq pc 31 then some (.dup, 1, 0, 0) else none) else (bif Nat.beq pc 32 then some (.getfield 26, 3, 6, 8) else none)))) else (bif Nat.blt pc 41 then (bif Nat.blt pc 37 then (bif Nat.blt pc 36 then (bif Nat.beq pc 35 then some (.iconst 1, 1, 0, 0) else none) else (bif Nat.beq pc 36 then some (.iadd, 1, 0, 0) else none)) else (bif Nat.blt pc 40 then (bif Nat.beq pc 37 then some (.putfield 26, 3, 6, 8) else none) else (bif Nat.beq pc 40 then some (.aload_n 0, 1, 0, 0) else none))) else (bif Nat.blt pc 45 then (bif Nat.blt pc 44 then (bif Nat.beq pc 41 then some (.getfield 26, 3, 6, 8) else none) else (bif Nat.beq pc 44 then some (.iconst 1, 1, 0, 0) else none)) else (bif Nat.blt pc 46 then (bif Nat.beq pc 45 then some (.isub, 1, 0, 0) else none) else (bif Nat.beq pc 46 then some (.ireturn, 1, 0, 0) else none)))))) else none
theorem oxn_58 : ∀ pc, 47 ≤ pc → oxi_58 pc = none := fun pc h => by unfold oxi_58; rw [show Nat.blt pc 47 = false from ox_blt h]; rfl
theorem oxd_58 : ∀ pc e, oxi_58 pc = some e → decode prog_9_method_9_code pc = .ok (e.1, e.2.1) := ox_tab 47 oxn_58 (by decide +kernel)
theorem oxc_58 : ∀ pc e, oxi_58 pc = some e → ox_chk 6 pc e = true := ox_tab2 47 oxn_58 (by decide +kernel)
/-- OrderAxiomsModel.make(III)I -/
def oxi_59 (pc : Nat) : Option (Instr × Nat × Nat × Nat) := bif Nat.blt pc 85 then (bif Nat.blt pc 44 then (bif Nat.blt pc 21 then (bif Nat.blt pc 9 then (bif Nat.blt pc 4 then (bif Nat.blt pc 1 then (bif Nat.beq pc 0 then some (.iload_n 1, 1, 0, 0) else none) else (bif Nat.beq pc 1 then some (.ifCond .lt (35), 3, 36, 0) else none)) else (bif Nat.blt pc 5 then (bif Nat.beq pc 4 then some (.iload_n 1, 1, 0, 0) else none) else (bif Nat.blt pc 6 then (bif Nat.beq pc 5 then some (.iconst 5, 1, 0, 0) else none) else (bif Nat.beq pc 6 then some (.if_icmp .gt (30), 3, 36, 0) else none)))) else (bif Nat.blt pc 14 then (bif Nat.blt pc 10 then (bif Nat.beq pc 9 then some (.iload_n 2, 1, 0, 0) else none) else (bif Nat.blt pc 11 then (bif Nat.beq pc 10 then some (.aload_n 0, 1, 0, 0) else none) else (bif Nat.beq pc 11 then some (.getfield 26, 3, 6, 8) else none))) else (bif Nat.blt pc 17 then (bif Nat.beq pc 14 then some (.invokestatic 108, 3, 57, 2) else none) else (bif Nat.blt pc 20 then (bif Nat.beq pc 17 then some (.ifCond .eq (19), 3, 36, 0) else none) else (bif Nat.beq pc 20 then some (.iload_n 1, 1, 0, 0) else none))))) else (bif Nat.blt pc 33 then (bif Nat.blt pc 26 then (bif Nat.blt pc 22 then (bif Nat.beq pc 21 then some (.iconst 4, 1, 0, 0) else none) else (bif Nat.blt pc 25 then (bif Nat.beq pc 22 then some (.if_icmp .ge (18), 3, 40, 0) else none) else (bif Nat.beq pc 25 then some (.iload_n 3, 1, 0, 0) else none))) else (bif Nat.blt pc 27 then (bif Nat.beq pc 26 then some (.aload_n 0, 1, 0, 0) else none) else (bif Nat.blt pc 30 then (bif Nat.beq pc 27 then some (.getfield 26, 3, 6, 8) else none) else (bif Nat.beq pc 30 then some (.invokestatic 108, 3, 57, 2) else none)))) else (bif Nat.blt pc 40 then (bif Nat.blt pc 36 then (bif Nat.beq pc 33 then some (.ifCond .ne (7), 3, 40, 0) else none) else (bif Nat.blt pc 37 then (bif Nat.beq pc 36 then some (.iconst 1, 1, 0, 0) else none) else (bif Nat.beq pc 37 then some (.goto (4), 3, 41, 0) else none))) else (bif Nat.blt pc 41 then (bif Nat.beq pc 40 then some (.iconst 0, 1, 0, 0) else none) else (bif Nat.blt pc 43 then (bif Nat.beq pc 41 then some (.istore 4, 2, 0, 0) else none) else (bif Nat.beq pc 43 then some (.aload_n 0, 1, 0, 0) else none)))))) else (bif Nat.blt pc 67 then (bif Nat.blt pc 55 then (bif Nat.blt pc 47 then (bif Nat.blt pc 46 then (bif Nat.beq pc 44 then some (.iload 4, 2, 0, 0) else none) else (bif Nat.beq pc 46 then some (.aload_n 0, 1, 0, 0) else none)) else (bif Nat.blt pc 50 then (bif Nat.beq pc 47 then some (.getfield 26, 3, 6, 8) else none) else (bif Nat.blt pc 52 then (bif Nat.beq pc 50 then some (.bipush 40, 2, 0, 0) else none) else (bif Nat.beq pc 52 then some (.if_icmp .ne (7), 3, 59, 0) else none)))) else (bif Nat.blt pc 60 then (bif Nat.blt pc 56 then (bif Nat.beq pc 55 then some (.iconst 1, 1, 0, 0) else none) else (bif Nat.blt pc 59 then (bif Nat.beq pc 56 then some (.goto (4), 3, 60, 0) else none) else (bif Nat.beq pc 59 then some (.iconst 0, 1, 0, 0) else none))) else (bif Nat.blt pc 63 then (bif Nat.beq pc 60 then some (.invokevirtual 97, 3, 52, 3) else none) else (bif Nat.blt pc 66 then (bif Nat.beq pc 63 then some (.ifCond .eq (5), 3, 68, 0) else none) else (bif Nat.beq pc 66 then some (.iconst 0, 1, 0, 0) else none))))) else (bif Nat.blt pc 73 then (bif Nat.blt pc 70 then (bif Nat.blt pc 68 then (bif Nat.beq pc 67 then some (.ireturn, 1, 0, 0) else none) else (bif Nat.blt pc 69 then (bif Nat.beq pc 68 then some (.aload_n 0, 1, 0, 0) else none) else (bif Nat.beq pc 69 then some (.iload_n 1, 1, 0, 0) else none))) else (bif Nat.blt pc 71 then (bif Nat.beq pc 70 then some (.iload_n 2, 1, 0, 0) else none) else (bif Nat.blt pc 72 then (bif Nat.beq pc 71 then some (.iload_n 1, 1, 0, 0) else none) else (bif Nat.beq pc 72 then some (.iconst 4, 1, 0, 0) else none)))) else (bif Nat.blt pc 80 then (bif Nat.blt pc 76 then (bif Nat.beq pc 73 then some (.if_icmp .ge (7), 3, 80, 0) else none) else (bif Nat.blt pc 77 then (bif Nat.beq pc 76 then some (.iload_n 3, 1, 0, 0) else none) else (bif Nat.beq pc 77 then some (.goto (4), 3, 81, 0) else none))) else (bif Nat.blt pc 81 then (bif Nat.beq pc 80 then some (.iload_n 2, 1, 0, 0) else none) else (bif Nat.blt pc 84 then (bif Nat.beq pc 81 then some (.invokevirtual 112, 3, 58, 4) else none) else (bif Nat.beq pc 84 then some (.ireturn, 1, 0, 0) else none))))))) else none
theorem oxn_59 : ∀ pc, 85 ≤ pc → oxi_59 pc = none := fun pc h => by unfold oxi_59; rw [show Nat.blt pc 85 = false from ox_blt h]; rfl
theorem oxd_59 : ∀ pc e, oxi_59 pc = some e → decode prog_9_method_10_code pc = .ok (e.1, e.2.1) := ox_tab 85 oxn_59 (by decide +kernel)
theorem oxc_59 : ∀ pc e, oxi_59 pc = some e → ox_chk 6 pc e = true := ox_tab2 85 oxn_59 (by decide +kernel)
/-- OrderAxiomsModel.rule(I)I -/
def oxi_60 (pc : Nat) : Option (Instr × Nat × Nat × Nat) := bif Nat.blt pc 64 then (bif Nat.blt pc 34 then (bif Nat.blt pc 16 then (bif Nat.blt pc 6 then (bif Nat.blt pc 2 then (bif Nat.blt pc 1 then (bif Nat.beq pc 0 then some (.aload_n 0, 1, 0, 0) else none) else (bif Nat.beq pc 1 then some (.iload_n 1, 1, 0, 0) else none)) else (bif Nat.blt pc 3 then (bif Nat.beq pc 2 then some (.aload_n 0, 1, 0, 0) else none) else (bif Nat.beq pc 3 then some (.getfield 26, 3, 6, 8) else none))) else (bif Nat.blt pc 12 then (bif Nat.blt pc 9 then (bif Nat.beq pc 6 then some (.invokestatic 108, 3, 57, 2) else none) else (bif Nat.beq pc 9 then some (.ifCond .ne (7), 3, 16, 0) else none)) else (bif Nat.blt pc 13 then (bif Nat.beq pc 12 then some (.iconst 1, 1, 0, 0) else none) else (bif Nat.beq pc 13 then some (.goto (4), 3, 17, 0) else none)))) else (bif Nat.blt pc 23 then (bif Nat.blt pc 18 then (bif Nat.blt pc 17 then (bif Nat.beq pc 16 then some (.iconst 0, 1, 0, 0) else none) else (bif Nat.beq pc 17 then some (.aload_n 0, 1, 0, 0) else none)) else (bif Nat.blt pc 21 then (bif Nat.beq pc 18 then some (.getfield 116, 3, 6, 12) else none) else (bif Nat.beq pc 21 then some (.bipush 8, 2, 0, 0) else none))) else (bif Nat.blt pc 27 then (bif Nat.blt pc 26 then (bif Nat.beq pc 23 then some (.if_icmp .ne (7), 3, 30, 0) else none) else (bif Nat.beq pc 26 then some (.iconst 1, 1, 0, 0) else none)) else (bif Nat.blt pc 30 then (bif Nat.beq pc 27 then some (.goto (4), 3, 31, 0) else none) else (bif Nat.blt pc 31 then (bif Nat.beq pc 30 then some (.iconst 0, 1, 0, 0) else none) else (bif Nat.beq pc 31 then some (.invokevirtual 97, 3, 52, 3) else none)))))) else (bif Nat.blt pc 49 then (bif Nat.blt pc 40 then (bif Nat.blt pc 38 then (bif Nat.blt pc 37 then (bif Nat.beq pc 34 then some (.ifCond .eq (5), 3, 39, 0) else none) else (bif Nat.beq pc 37 then some (.iconst 0, 1, 0, 0) else none)) else (bif Nat.blt pc 39 then (bif Nat.beq pc 38 then some (.ireturn, 1, 0, 0) else none) else (bif Nat.beq pc 39 then some (.aload_n 0, 1, 0, 0) else none))) else (bif Nat.blt pc 44 then (bif Nat.blt pc 43 then (bif Nat.beq pc 40 then some (.getfield 39, 3, 6, 13) else none) else (bif Nat.beq pc 43 then some (.aload_n 0, 1, 0, 0) else none)) else (bif Nat.blt pc 47 then (bif Nat.beq pc 44 then some (.getfield 116, 3, 6, 12) else none) else (bif Nat.blt pc 48 then (bif Nat.beq pc 47 then some (.iload_n 1, 1, 0, 0) else none) else (bif Nat.beq pc 48 then some (.iastore, 1, 0, 0) else none))))) else (bif Nat.blt pc 55 then (bif Nat.blt pc 51 then (bif Nat.blt pc 50 then (bif Nat.beq pc 49 then some (.aload_n 0, 1, 0, 0) else none) else (bif Nat.beq pc 50 then some (.dup, 1, 0, 0) else none)) else (bif Nat.blt pc 54 then (bif Nat.beq pc 51 then some (.getfield 116, 3, 6, 12) else none) else (bif Nat.beq pc 54 then some (.iconst 1, 1, 0, 0) else none))) else (bif Nat.blt pc 59 then (bif Nat.blt pc 56 then (bif Nat.beq pc 55 then some (.iadd, 1, 0, 0) else none) else (bif Nat.beq pc 56 then some (.putfield 116, 3, 6, 12) else none)) else (bif Nat.blt pc 60 then (bif Nat.beq pc 59 then some (.aload_n 0, 1, 0, 0) else none) else (bif Nat.blt pc 63 then (bif Nat.beq pc 60 then some (.getfield 116, 3, 6, 12) else none) else (bif Nat.beq pc 63 then some (.ireturn, 1, 0, 0) else none))))))) else none
theorem oxn_60 : ∀ pc, 64 ≤ pc → oxi_60 pc = none := fun pc h => by unfold oxi_60; rw [show Nat.blt pc 64 = false from ox_blt h]; rfl
theorem oxd_60 : ∀ pc e, oxi_60 pc = some e → decode prog_9_method_11_code pc = .ok (e.1, e.2.1) := ox_tab 64 oxn_60 (by decide +kernel)
theorem oxc_60 : ∀ pc e, oxi_60 pc = some e → ox_chk 6 pc e = true := ox_tab2 64 oxn_60 (by decide +kernel)
/-- OrderAxiomsModel.ordered(II)V -/
def oxi_61 (pc : Nat) : Option (Instr × Nat × Nat × Nat) := bif Nat.blt pc 43 then (bif Nat.blt pc 20 then (bif Nat.blt pc 9 then (bif Nat.blt pc 3 then (bif Nat.blt pc 1 then (bif Nat.beq pc 0 then some (.aload_n 0, 1, 0, 0) else none) else (bif Nat.blt pc 2 then (bif Nat.beq pc 1 then some (.iconst 0, 1, 0, 0) else none) else (bif Nat.beq pc 2 then some (.iload_n 1, 1, 0, 0) else none))) else (bif Nat.blt pc 7 then (bif Nat.blt pc 4 then (bif Nat.beq pc 3 then some (.iload_n 2, 1, 0, 0) else none) else (bif Nat.beq pc 4 then some (.invokevirtual 112, 3, 58, 4) else none)) else (bif Nat.blt pc 8 then (bif Nat.beq pc 7 then some (.istore_n 3, 1, 0, 0) else none) else (bif Nat.beq pc 8 then some (.aload_n 0, 1, 0, 0) else none)))) else (bif Nat.blt pc 12 then (bif Nat.blt pc 10 then (bif Nat.beq pc 9 then some (.iconst 0, 1, 0, 0) else none) else (bif Nat.blt pc 11 then (bif Nat.beq pc 10 then some (.iload_n 3, 1, 0, 0) else none) else (bif Nat.beq pc 11 then some (.iconst 2, 1, 0, 0) else none))) else (bif Nat.blt pc 16 then (bif Nat.blt pc 15 then (bif Nat.beq pc 12 then some (.invokevirtual 112, 3, 58, 4) else none) else (bif Nat.beq pc 15 then some (.istore_n 3, 1, 0, 0) else none)) else (bif Nat.blt pc 17 then (bif Nat.beq pc 16 then some (.aload_n 0, 1, 0, 0) else none) else (bif Nat.beq pc 17 then some (.getfield 39, 3, 6, 13) else none))))) else (bif Nat.blt pc 31 then (bif Nat.blt pc 25 then (bif Nat.blt pc 21 then (bif Nat.beq pc 20 then some (.aload_n 0, 1, 0, 0) else none) else (bif Nat.blt pc 24 then (bif Nat.beq pc 21 then some (.getfield 116, 3, 6, 12) else none) else (bif Nat.beq pc 24 then some (.aload_n 0, 1, 0, 0) else none))) else (bif Nat.blt pc 27 then (bif Nat.blt pc 26 then (bif Nat.beq pc 25 then some (.iconst 0, 1, 0, 0) else none) else (bif Nat.beq pc 26 then some (.iload_n 3, 1, 0, 0) else none)) else (bif Nat.blt pc 28 then (bif Nat.beq pc 27 then some (.iconst 3, 1, 0, 0) else none) else (bif Nat.beq pc 28 then some (.invokevirtual 112, 3, 58, 4) else none)))) else (bif Nat.blt pc 37 then (bif Nat.blt pc 33 then (bif Nat.blt pc 32 then (bif Nat.beq pc 31 then some (.iastore, 1, 0, 0) else none) else (bif Nat.beq pc 32 then some (.aload_n 0, 1, 0, 0) else none)) else (bif Nat.blt pc 34 then (bif Nat.beq pc 33 then some (.dup, 1, 0, 0) else none) else (bif Nat.beq pc 34 then some (.getfield 116, 3, 6, 12) else none))) else (bif Nat.blt pc 39 then (bif Nat.blt pc 38 then (bif Nat.beq pc 37 then some (.iconst 1, 1, 0, 0) else none) else (bif Nat.beq pc 38 then some (.iadd, 1, 0, 0) else none)) else (bif Nat.blt pc 42 then (bif Nat.beq pc 39 then some (.putfield 116, 3, 6, 12) else none) else (bif Nat.beq pc 42 then some (.return_, 1, 0, 0) else none)))))) else none
theorem oxn_61 : ∀ pc, 43 ≤ pc → oxi_61 pc = none := fun pc h => by unfold oxi_61; rw [show Nat.blt pc 43 = false from ox_blt h]; rfl
theorem oxd_61 : ∀ pc e, oxi_61 pc = some e → decode prog_9_method_12_code pc = .ok (e.1, e.2.1) := ox_tab 43 oxn_61 (by decide +kernel)
theorem oxc_61 : ∀ pc e, oxi_61 pc = some e → ox_chk 6 pc e = true := ox_tab2 43 oxn_61 (by decide +kernel)
/-- OrderAxiomsModel.given(I)I -/
def oxi_62 (pc : Nat) : Option (Instr × Nat × Nat × Nat) := bif Nat.blt pc 123 then (bif Nat.blt pc 62 then (bif Nat.blt pc 31 then (bif Nat.blt pc 15 then (bif Nat.blt pc 6 then (bif Nat.blt pc 2 then (bif Nat.blt pc 1 then (bif Nat.beq pc 0 then some (.aload_n 0, 1, 0, 0) else none) else (bif Nat.beq pc 1 then some (.iload_n 1, 1, 0, 0) else none)) else (bif Nat.blt pc 5 then (bif Nat.beq pc 2 then some (.ifCond .lt (8), 3, 10, 0) else none) else (bif Nat.beq pc 5 then some (.iload_n 1, 1, 0, 0) else none))) else (bif Nat.blt pc 10 then (bif Nat.blt pc 7 then (bif Nat.beq pc 6 then some (.iconst 5, 1, 0, 0) else none) else (bif Nat.beq pc 7 then some (.if_icmp .le (7), 3, 14, 0) else none)) else (bif Nat.blt pc 11 then (bif Nat.beq pc 10 then some (.iconst 1, 1, 0, 0) else none) else (bif Nat.blt pc 14 then (bif Nat.beq pc 11 then some (.goto (4), 3, 15, 0) else none) else (bif Nat.beq pc 14 then some (.iconst 0, 1, 0, 0) else none))))) else (bif Nat.blt pc 23 then (bif Nat.blt pc 19 then (bif Nat.blt pc 16 then (bif Nat.beq pc 15 then some (.iconst 0, 1, 0, 0) else none) else (bif Nat.beq pc 16 then some (.invokevirtual 97, 3, 52, 3) else none)) else (bif Nat.blt pc 22 then (bif Nat.beq pc 19 then some (.ifCond .eq (5), 3, 24, 0) else none) else (bif Nat.beq pc 22 then some (.iconst 0, 1, 0, 0) else none))) else (bif Nat.blt pc 25 then (bif Nat.blt pc 24 then (bif Nat.beq pc 23 then some (.ireturn, 1, 0, 0) else none) else (bif Nat.beq pc 24 then some (.aload_n 0, 1, 0, 0) else none)) else (bif Nat.blt pc 27 then (bif Nat.beq pc 25 then some (.bipush 12, 2, 0, 0) else none) else (bif Nat.blt pc 30 then (bif Nat.beq pc 27 then some (.putfield 26, 3, 6, 8) else none) else (bif Nat.beq pc 30 then some (.aload_n 0, 1, 0, 0) else none)))))) else (bif Nat.blt pc 46 then (bif Nat.blt pc 37 then (bif Nat.blt pc 35 then (bif Nat.blt pc 32 then (bif Nat.beq pc 31 then some (.iconst 0, 1, 0, 0) else none) else (bif Nat.beq pc 32 then some (.putfield 116, 3, 6, 12) else none)) else (bif Nat.blt pc 36 then (bif Nat.beq pc 35 then some (.iload_n 1, 1, 0, 0) else none) else (bif Nat.beq pc 36 then some (.iconst 2, 1, 0, 0) else none))) else (bif Nat.blt pc 41 then (bif Nat.blt pc 40 then (bif Nat.beq pc 37 then some (.if_icmp .ne (9), 3, 46, 0) else none) else (bif Nat.beq pc 40 then some (.aload_n 0, 1, 0, 0) else none)) else (bif Nat.blt pc 42 then (bif Nat.beq pc 41 then some (.iconst 0, 1, 0, 0) else none) else (bif Nat.blt pc 43 then (bif Nat.beq pc 42 then some (.iconst 1, 1, 0, 0) else none) else (bif Nat.beq pc 43 then some (.invokevirtual 119, 3, 61, 3) else none))))) else (bif Nat.blt pc 53 then (bif Nat.blt pc 48 then (bif Nat.blt pc 47 then (bif Nat.beq pc 46 then some (.iload_n 1, 1, 0, 0) else none) else (bif Nat.beq pc 47 then some (.iconst 1, 1, 0, 0) else none)) else (bif Nat.blt pc 51 then (bif Nat.beq pc 48 then some (.if_icmp .eq (8), 3, 56, 0) else none) else (bif Nat.blt pc 52 then (bif Nat.beq pc 51 then some (.iload_n 1, 1, 0, 0) else none) else (bif Nat.beq pc 52 then some (.iconst 2, 1, 0, 0) else none)))) else (bif Nat.blt pc 57 then (bif Nat.blt pc 56 then (bif Nat.beq pc 53 then some (.if_icmp .le (9), 3, 62, 0) else none) else (bif Nat.beq pc 56 then some (.aload_n 0, 1, 0, 0) else none)) else (bif Nat.blt pc 58 then (bif Nat.beq pc 57 then some (.iconst 5, 1, 0, 0) else none) else (bif Nat.blt pc 59 then (bif Nat.beq pc 58 then some (.iconst 1, 1, 0, 0) else none) else (bif Nat.beq pc 59 then some (.invokevirtual 119, 3, 61, 3) else none))))))) else (bif Nat.blt pc 92 then (bif Nat.blt pc 77 then (bif Nat.blt pc 68 then (bif Nat.blt pc 64 then (bif Nat.blt pc 63 then (bif Nat.beq pc 62 then some (.iload_n 1, 1, 0, 0) else none) else (bif Nat.beq pc 63 then some (.iconst 3, 1, 0, 0) else none)) else (bif Nat.blt pc 67 then (bif Nat.beq pc 64 then some (.if_icmp .ge (8), 3, 72, 0) else none) else (bif Nat.beq pc 67 then some (.aload_n 0, 1, 0, 0) else none))) else (bif Nat.blt pc 72 then (bif Nat.blt pc 71 then (bif Nat.beq pc 68 then some (.getfield 26, 3, 6, 8) else none) else (bif Nat.beq pc 71 then some (.ireturn, 1, 0, 0) else none)) else (bif Nat.blt pc 73 then (bif Nat.beq pc 72 then some (.iload_n 1, 1, 0, 0) else none) else (bif Nat.blt pc 74 then (bif Nat.beq pc 73 then some (.iconst 5, 1, 0, 0) else none) else (bif Nat.beq pc 74 then some (.if_icmp .ne (8), 3, 82, 0) else none))))) else (bif Nat.blt pc 84 then (bif Nat.blt pc 82 then (bif Nat.blt pc 79 then (bif Nat.beq pc 77 then some (.bipush 6, 2, 0, 0) else none) else (bif Nat.beq pc 79 then some (.goto (11), 3, 90, 0) else none)) else (bif Nat.blt pc 83 then (bif Nat.beq pc 82 then some (.aload_n 0, 1, 0, 0) else none) else (bif Nat.beq pc 83 then some (.iconst 2, 1, 0, 0) else none))) else (bif Nat.blt pc 87 then (bif Nat.blt pc 85 then (bif Nat.beq pc 84 then some (.iconst 0, 1, 0, 0) else none) else (bif Nat.beq pc 85 then some (.bipush 10, 2, 0, 0) else none)) else (bif Nat.blt pc 90 then (bif Nat.beq pc 87 then some (.invokevirtual 112, 3, 58, 4) else none) else (bif Nat.blt pc 91 then (bif Nat.beq pc 90 then some (.istore_n 2, 1, 0, 0) else none) else (bif Nat.beq pc 91 then some (.iload_n 1, 1, 0, 0) else none)))))) else (bif Nat.blt pc 106 then (bif Nat.blt pc 98 then (bif Nat.blt pc 96 then (bif Nat.blt pc 93 then (bif Nat.beq pc 92 then some (.iconst 4, 1, 0, 0) else none) else (bif Nat.beq pc 93 then some (.if_icmp .ne (12), 3, 105, 0) else none)) else (bif Nat.blt pc 97 then (bif Nat.beq pc 96 then some (.aload_n 0, 1, 0, 0) else none) else (bif Nat.beq pc 97 then some (.iconst 2, 1, 0, 0) else none))) else (bif Nat.blt pc 101 then (bif Nat.blt pc 99 then (bif Nat.beq pc 98 then some (.iload_n 2, 1, 0, 0) else none) else (bif Nat.beq pc 99 then some (.bipush 11, 2, 0, 0) else none)) else (bif Nat.blt pc 104 then (bif Nat.beq pc 101 then some (.invokevirtual 112, 3, 58, 4) else none) else (bif Nat.blt pc 105 then (bif Nat.beq pc 104 then some (.istore_n 2, 1, 0, 0) else none) else (bif Nat.beq pc 105 then some (.aload_n 0, 1, 0, 0) else none))))) else (bif Nat.blt pc 114 then (bif Nat.blt pc 108 then (bif Nat.blt pc 107 then (bif Nat.beq pc 106 then some (.aload_n 0, 1, 0, 0) else none) else (bif Nat.beq pc 107 then some (.iconst 0, 1, 0, 0) else none)) else (bif Nat.blt pc 109 then (bif Nat.beq pc 108 then some (.iload_n 2, 1, 0, 0) else none) else (bif Nat.blt pc 111 then (bif Nat.beq pc 109 then some (.bipush 7, 2, 0, 0) else none) else (bif Nat.beq pc 111 then some (.invokevirtual 112, 3, 58, 4) else none)))) else (bif Nat.blt pc 118 then (bif Nat.blt pc 115 then (bif Nat.beq pc 114 then some (.iconst 4, 1, 0, 0) else none) else (bif Nat.beq pc 115 then some (.invokevirtual 119, 3, 61, 3) else none)) else (bif Nat.blt pc 119 then (bif Nat.beq pc 118 then some (.aload_n 0, 1, 0, 0) else none) else (bif Nat.blt pc 122 then (bif Nat.beq pc 119 then some (.getfield 26, 3, 6, 8) else none) else (bif Nat.beq pc 122 then some (.ireturn, 1, 0, 0) else none)))))))) else none
theorem oxn_62 : ∀ pc, 123 ≤ pc → oxi_62 pc = none := fun pc h => by unfold oxi_62; rw [show Nat.blt pc 123 = false from ox_blt h]; rfl
theorem oxd_62 : ∀ pc e, oxi_62 pc = some e → decode prog_9_method_13_code pc = .ok (e.1, e.2.1) := ox_tab 123 oxn_62 (by decide +kernel)
theorem oxc_62 : ∀ pc e, oxi_62 pc = some e → ox_chk 6 pc e = true := ox_tab2 123 oxn_62 (by decide +kernel)
/-- OrderAxiomsModel.reads()I -/
def oxi_63 (pc : Nat) : Option (Instr × Nat × Nat × Nat) := bif Nat.blt pc 37 then (bif Nat.blt pc 17 then (bif Nat.blt pc 5 then (bif Nat.blt pc 2 then (bif Nat.blt pc 1 then (bif Nat.beq pc 0 then some (.iconst 0, 1, 0, 0) else none) else (bif Nat.beq pc 1 then some (.istore_n 1, 1, 0, 0) else none)) else (bif Nat.blt pc 3 then (bif Nat.beq pc 2 then some (.iconst 0, 1, 0, 0) else none) else (bif Nat.blt pc 4 then (bif Nat.beq pc 3 then some (.istore_n 2, 1, 0, 0) else none) else (bif Nat.beq pc 4 then some (.iload_n 2, 1, 0, 0) else none)))) else (bif Nat.blt pc 12 then (bif Nat.blt pc 6 then (bif Nat.beq pc 5 then some (.aload_n 0, 1, 0, 0) else none) else (bif Nat.blt pc 9 then (bif Nat.beq pc 6 then some (.getfield 101, 3, 6, 2) else none) else (bif Nat.beq pc 9 then some (.if_icmp .ge (26), 3, 35, 0) else none))) else (bif Nat.blt pc 13 then (bif Nat.beq pc 12 then some (.iload_n 1, 1, 0, 0) else none) else (bif Nat.blt pc 14 then (bif Nat.beq pc 13 then some (.aload_n 0, 1, 0, 0) else none) else (bif Nat.beq pc 14 then some (.getfield 13, 3, 6, 4) else none))))) else (bif Nat.blt pc 27 then (bif Nat.blt pc 22 then (bif Nat.blt pc 18 then (bif Nat.beq pc 17 then some (.iload_n 2, 1, 0, 0) else none) else (bif Nat.blt pc 19 then (bif Nat.beq pc 18 then some (.iaload, 1, 0, 0) else none) else (bif Nat.beq pc 19 then some (.ifCond .ne (7), 3, 26, 0) else none))) else (bif Nat.blt pc 23 then (bif Nat.beq pc 22 then some (.iconst 1, 1, 0, 0) else none) else (bif Nat.blt pc 26 then (bif Nat.beq pc 23 then some (.goto (4), 3, 27, 0) else none) else (bif Nat.beq pc 26 then some (.iconst 0, 1, 0, 0) else none)))) else (bif Nat.blt pc 32 then (bif Nat.blt pc 28 then (bif Nat.beq pc 27 then some (.iadd, 1, 0, 0) else none) else (bif Nat.blt pc 29 then (bif Nat.beq pc 28 then some (.istore_n 1, 1, 0, 0) else none) else (bif Nat.beq pc 29 then some (.iinc 2 1, 3, 0, 0) else none))) else (bif Nat.blt pc 35 then (bif Nat.beq pc 32 then some (.goto (-28), 3, 4, 0) else none) else (bif Nat.blt pc 36 then (bif Nat.beq pc 35 then some (.iload_n 1, 1, 0, 0) else none) else (bif Nat.beq pc 36 then some (.ireturn, 1, 0, 0) else none)))))) else none
theorem oxn_63 : ∀ pc, 37 ≤ pc → oxi_63 pc = none := fun pc h => by unfold oxi_63; rw [show Nat.blt pc 37 = false from ox_blt h]; rfl
theorem oxd_63 : ∀ pc e, oxi_63 pc = some e → decode prog_9_method_14_code pc = .ok (e.1, e.2.1) := ox_tab 37 oxn_63 (by decide +kernel)
theorem oxc_63 : ∀ pc e, oxi_63 pc = some e → ox_chk 6 pc e = true := ox_tab2 37 oxn_63 (by decide +kernel)
/-- OrderAxiomsModel.writes(I)I -/
def oxi_64 (pc : Nat) : Option (Instr × Nat × Nat × Nat) := bif Nat.blt pc 48 then (bif Nat.blt pc 23 then (bif Nat.blt pc 9 then (bif Nat.blt pc 3 then (bif Nat.blt pc 1 then (bif Nat.beq pc 0 then some (.iconst 0, 1, 0, 0) else none) else (bif Nat.blt pc 2 then (bif Nat.beq pc 1 then some (.istore_n 2, 1, 0, 0) else none) else (bif Nat.beq pc 2 then some (.iconst 0, 1, 0, 0) else none))) else (bif Nat.blt pc 5 then (bif Nat.blt pc 4 then (bif Nat.beq pc 3 then some (.istore_n 3, 1, 0, 0) else none) else (bif Nat.beq pc 4 then some (.iload_n 3, 1, 0, 0) else none)) else (bif Nat.blt pc 6 then (bif Nat.beq pc 5 then some (.aload_n 0, 1, 0, 0) else none) else (bif Nat.beq pc 6 then some (.getfield 101, 3, 6, 2) else none)))) else (bif Nat.blt pc 17 then (bif Nat.blt pc 13 then (bif Nat.blt pc 12 then (bif Nat.beq pc 9 then some (.if_icmp .ge (37), 3, 46, 0) else none) else (bif Nat.beq pc 12 then some (.iload_n 2, 1, 0, 0) else none)) else (bif Nat.blt pc 14 then (bif Nat.beq pc 13 then some (.aload_n 0, 1, 0, 0) else none) else (bif Nat.beq pc 14 then some (.getfield 13, 3, 6, 4) else none))) else (bif Nat.blt pc 19 then (bif Nat.blt pc 18 then (bif Nat.beq pc 17 then some (.iload_n 3, 1, 0, 0) else none) else (bif Nat.beq pc 18 then some (.iaload, 1, 0, 0) else none)) else (bif Nat.blt pc 20 then (bif Nat.beq pc 19 then some (.iconst 1, 1, 0, 0) else none) else (bif Nat.beq pc 20 then some (.if_icmp .ne (17), 3, 37, 0) else none))))) else (bif Nat.blt pc 34 then (bif Nat.blt pc 28 then (bif Nat.blt pc 24 then (bif Nat.beq pc 23 then some (.aload_n 0, 1, 0, 0) else none) else (bif Nat.blt pc 27 then (bif Nat.beq pc 24 then some (.getfield 16, 3, 6, 5) else none) else (bif Nat.beq pc 27 then some (.iload_n 3, 1, 0, 0) else none))) else (bif Nat.blt pc 30 then (bif Nat.blt pc 29 then (bif Nat.beq pc 28 then some (.iaload, 1, 0, 0) else none) else (bif Nat.beq pc 29 then some (.iload_n 1, 1, 0, 0) else none)) else (bif Nat.blt pc 33 then (bif Nat.beq pc 30 then some (.if_icmp .ne (7), 3, 37, 0) else none) else (bif Nat.beq pc 33 then some (.iconst 1, 1, 0, 0) else none)))) else (bif Nat.blt pc 40 then (bif Nat.blt pc 38 then (bif Nat.blt pc 37 then (bif Nat.beq pc 34 then some (.goto (4), 3, 38, 0) else none) else (bif Nat.beq pc 37 then some (.iconst 0, 1, 0, 0) else none)) else (bif Nat.blt pc 39 then (bif Nat.beq pc 38 then some (.iadd, 1, 0, 0) else none) else (bif Nat.beq pc 39 then some (.istore_n 2, 1, 0, 0) else none))) else (bif Nat.blt pc 46 then (bif Nat.blt pc 43 then (bif Nat.beq pc 40 then some (.iinc 3 1, 3, 0, 0) else none) else (bif Nat.beq pc 43 then some (.goto (-39), 3, 4, 0) else none)) else (bif Nat.blt pc 47 then (bif Nat.beq pc 46 then some (.iload_n 2, 1, 0, 0) else none) else (bif Nat.beq pc 47 then some (.ireturn, 1, 0, 0) else none)))))) else none
theorem oxn_64 : ∀ pc, 48 ≤ pc → oxi_64 pc = none := fun pc h => by unfold oxi_64; rw [show Nat.blt pc 48 = false from ox_blt h]; rfl
theorem oxd_64 : ∀ pc e, oxi_64 pc = some e → decode prog_9_method_15_code pc = .ok (e.1, e.2.1) := ox_tab 48 oxn_64 (by decide +kernel)
theorem oxc_64 : ∀ pc e, oxi_64 pc = some e → ox_chk 6 pc e = true := ox_tab2 48 oxn_64 (by decide +kernel)
/-- OrderAxiomsModel.executions()I -/
def oxi_65 (pc : Nat) : Option (Instr × Nat × Nat × Nat) := bif Nat.blt pc 118 then (bif Nat.blt pc 55 then (bif Nat.blt pc 26 then (bif Nat.blt pc 12 then (bif Nat.blt pc 4 then (bif Nat.blt pc 2 then (bif Nat.blt pc 1 then (bif Nat.beq pc 0 then some (.lconst 1, 1, 0, 0) else none) else (bif Nat.beq pc 1 then some (.lstore_n 1, 1, 0, 0) else none)) else (bif Nat.blt pc 3 then (bif Nat.beq pc 2 then some (.iconst 0, 1, 0, 0) else none) else (bif Nat.beq pc 3 then some (.istore_n 3, 1, 0, 0) else none))) else (bif Nat.blt pc 6 then (bif Nat.blt pc 5 then (bif Nat.beq pc 4 then some (.iload_n 3, 1, 0, 0) else none) else (bif Nat.beq pc 5 then some (.aload_n 0, 1, 0, 0) else none)) else (bif Nat.blt pc 9 then (bif Nat.beq pc 6 then some (.getfield 101, 3, 6, 2) else none) else (bif Nat.beq pc 9 then some (.if_icmp .ge (46), 3, 55, 0) else none)))) else (bif Nat.blt pc 20 then (bif Nat.blt pc 16 then (bif Nat.blt pc 13 then (bif Nat.beq pc 12 then some (.lload_n 1, 1, 0, 0) else none) else (bif Nat.beq pc 13 then some (.ldc2_w 123, 3, 5000, 0) else none)) else (bif Nat.blt pc 17 then (bif Nat.beq pc 16 then some (.lcmp, 1, 0, 0) else none) else (bif Nat.beq pc 17 then some (.ifCond .gt (38), 3, 55, 0) else none))) else (bif Nat.blt pc 22 then (bif Nat.blt pc 21 then (bif Nat.beq pc 20 then some (.lload_n 1, 1, 0, 0) else none) else (bif Nat.beq pc 21 then some (.aload_n 0, 1, 0, 0) else none)) else (bif Nat.blt pc 25 then (bif Nat.beq pc 22 then some (.getfield 13, 3, 6, 4) else none) else (bif Nat.beq pc 25 then some (.iload_n 3, 1, 0, 0) else none))))) else (bif Nat.blt pc 38 then (bif Nat.blt pc 32 then (bif Nat.blt pc 30 then (bif Nat.blt pc 27 then (bif Nat.beq pc 26 then some (.iaload, 1, 0, 0) else none) else (bif Nat.beq pc 27 then some (.ifCond .ne (19), 3, 46, 0) else none)) else (bif Nat.blt pc 31 then (bif Nat.beq pc 30 then some (.iconst 1, 1, 0, 0) else none) else (bif Nat.beq pc 31 then some (.aload_n 0, 1, 0, 0) else none))) else (bif Nat.blt pc 36 then (bif Nat.blt pc 33 then (bif Nat.beq pc 32 then some (.aload_n 0, 1, 0, 0) else none) else (bif Nat.beq pc 33 then some (.getfield 16, 3, 6, 5) else none)) else (bif Nat.blt pc 37 then (bif Nat.beq pc 36 then some (.iload_n 3, 1, 0, 0) else none) else (bif Nat.beq pc 37 then some (.iaload, 1, 0, 0) else none)))) else (bif Nat.blt pc 46 then (bif Nat.blt pc 42 then (bif Nat.blt pc 41 then (bif Nat.beq pc 38 then some (.invokevirtual 125, 3, 64, 2) else none) else (bif Nat.beq pc 41 then some (.iadd, 1, 0, 0) else none)) else (bif Nat.blt pc 43 then (bif Nat.beq pc 42 then some (.i2l, 1, 0, 0) else none) else (bif Nat.beq pc 43 then some (.goto (4), 3, 47, 0) else none))) else (bif Nat.blt pc 48 then (bif Nat.blt pc 47 then (bif Nat.beq pc 46 then some (.lconst 1, 1, 0, 0) else none) else (bif Nat.beq pc 47 then some (.lmul, 1, 0, 0) else none)) else (bif Nat.blt pc 49 then (bif Nat.beq pc 48 then some (.lstore_n 1, 1, 0, 0) else none) else (bif Nat.blt pc 52 then (bif Nat.beq pc 49 then some (.iinc 3 1, 3, 0, 0) else none) else (bif Nat.beq pc 52 then some (.goto (-48), 3, 4, 0) else none))))))) else (bif Nat.blt pc 84 then (bif Nat.blt pc 67 then (bif Nat.blt pc 59 then (bif Nat.blt pc 57 then (bif Nat.blt pc 56 then (bif Nat.beq pc 55 then some (.iconst 0, 1, 0, 0) else none) else (bif Nat.beq pc 56 then some (.istore_n 3, 1, 0, 0) else none)) else (bif Nat.blt pc 58 then (bif Nat.beq pc 57 then some (.iload_n 3, 1, 0, 0) else none) else (bif Nat.beq pc 58 then some (.iconst 4, 1, 0, 0) else none))) else (bif Nat.blt pc 63 then (bif Nat.blt pc 62 then (bif Nat.beq pc 59 then some (.if_icmp .ge (42), 3, 101, 0) else none) else (bif Nat.beq pc 62 then some (.iconst 2, 1, 0, 0) else none)) else (bif Nat.blt pc 65 then (bif Nat.beq pc 63 then some (.istore 4, 2, 0, 0) else none) else (bif Nat.beq pc 65 then some (.iload 4, 2, 0, 0) else none)))) else (bif Nat.blt pc 75 then (bif Nat.blt pc 69 then (bif Nat.blt pc 68 then (bif Nat.beq pc 67 then some (.aload_n 0, 1, 0, 0) else none) else (bif Nat.beq pc 68 then some (.iload_n 3, 1, 0, 0) else none)) else (bif Nat.blt pc 72 then (bif Nat.beq pc 69 then some (.invokevirtual 125, 3, 64, 2) else none) else (bif Nat.beq pc 72 then some (.if_icmp .gt (23), 3, 95, 0) else none))) else (bif Nat.blt pc 79 then (bif Nat.blt pc 76 then (bif Nat.beq pc 75 then some (.lload_n 1, 1, 0, 0) else none) else (bif Nat.beq pc 76 then some (.ldc2_w 123, 3, 5000, 0) else none)) else (bif Nat.blt pc 80 then (bif Nat.beq pc 79 then some (.lcmp, 1, 0, 0) else none) else (bif Nat.blt pc 83 then (bif Nat.beq pc 80 then some (.ifCond .gt (15), 3, 95, 0) else none) else (bif Nat.beq pc 83 then some (.lload_n 1, 1, 0, 0) else none)))))) else (bif Nat.blt pc 101 then (bif Nat.blt pc 89 then (bif Nat.blt pc 87 then (bif Nat.blt pc 86 then (bif Nat.beq pc 84 then some (.iload 4, 2, 0, 0) else none) else (bif Nat.beq pc 86 then some (.i2l, 1, 0, 0) else none)) else (bif Nat.blt pc 88 then (bif Nat.beq pc 87 then some (.lmul, 1, 0, 0) else none) else (bif Nat.beq pc 88 then some (.lstore_n 1, 1, 0, 0) else none))) else (bif Nat.blt pc 95 then (bif Nat.blt pc 92 then (bif Nat.beq pc 89 then some (.iinc 4 1, 3, 0, 0) else none) else (bif Nat.beq pc 92 then some (.goto (-27), 3, 65, 0) else none)) else (bif Nat.blt pc 98 then (bif Nat.beq pc 95 then some (.iinc 3 1, 3, 0, 0) else none) else (bif Nat.beq pc 98 then some (.goto (-41), 3, 57, 0) else none)))) else (bif Nat.blt pc 109 then (bif Nat.blt pc 105 then (bif Nat.blt pc 102 then (bif Nat.beq pc 101 then some (.lload_n 1, 1, 0, 0) else none) else (bif Nat.beq pc 102 then some (.ldc2_w 123, 3, 5000, 0) else none)) else (bif Nat.blt pc 106 then (bif Nat.beq pc 105 then some (.lcmp, 1, 0, 0) else none) else (bif Nat.beq pc 106 then some (.ifCond .le (9), 3, 115, 0) else none))) else (bif Nat.blt pc 115 then (bif Nat.blt pc 112 then (bif Nat.beq pc 109 then some (.sipush 5001, 3, 0, 0) else none) else (bif Nat.beq pc 112 then some (.goto (5), 3, 117, 0) else none)) else (bif Nat.blt pc 116 then (bif Nat.beq pc 115 then some (.lload_n 1, 1, 0, 0) else none) else (bif Nat.blt pc 117 then (bif Nat.beq pc 116 then some (.l2i, 1, 0, 0) else none) else (bif Nat.beq pc 117 then some (.ireturn, 1, 0, 0) else none)))))))) else none
theorem oxn_65 : ∀ pc, 118 ≤ pc → oxi_65 pc = none := fun pc h => by unfold oxi_65; rw [show Nat.blt pc 118 = false from ox_blt h]; rfl
theorem oxd_65 : ∀ pc e, oxi_65 pc = some e → decode prog_9_method_16_code pc = .ok (e.1, e.2.1) := ox_tab 118 oxn_65 (by decide +kernel)
theorem oxc_65 : ∀ pc e, oxi_65 pc = some e → ox_chk 6 pc e = true := ox_tab2 118 oxn_65 (by decide +kernel)
/-- OrderAxiomsModel.write(II)I -/
def oxi_66 (pc : Nat) : Option (Instr × Nat × Nat × Nat) := bif Nat.blt pc 57 then (bif Nat.blt pc 26 then (bif Nat.blt pc 11 then (bif Nat.blt pc 3 then (bif Nat.blt pc 1 then (bif Nat.beq pc 0 then some (.iload_n 2, 1, 0, 0) else none) else (bif Nat.blt pc 2 then (bif Nat.beq pc 1 then some (.istore_n 3, 1, 0, 0) else none) else (bif Nat.beq pc 2 then some (.iconst 0, 1, 0, 0) else none))) else (bif Nat.blt pc 7 then (bif Nat.blt pc 5 then (bif Nat.beq pc 3 then some (.istore 4, 2, 0, 0) else none) else (bif Nat.beq pc 5 then some (.iload 4, 2, 0, 0) else none)) else (bif Nat.blt pc 8 then (bif Nat.beq pc 7 then some (.aload_n 0, 1, 0, 0) else none) else (bif Nat.beq pc 8 then some (.getfield 101, 3, 6, 2) else none)))) else (bif Nat.blt pc 20 then (bif Nat.blt pc 15 then (bif Nat.blt pc 14 then (bif Nat.beq pc 11 then some (.if_icmp .ge (44), 3, 55, 0) else none) else (bif Nat.beq pc 14 then some (.aload_n 0, 1, 0, 0) else none)) else (bif Nat.blt pc 18 then (bif Nat.beq pc 15 then some (.getfield 13, 3, 6, 4) else none) else (bif Nat.beq pc 18 then some (.iload 4, 2, 0, 0) else none))) else (bif Nat.blt pc 22 then (bif Nat.blt pc 21 then (bif Nat.beq pc 20 then some (.iaload, 1, 0, 0) else none) else (bif Nat.beq pc 21 then some (.iconst 1, 1, 0, 0) else none)) else (bif Nat.blt pc 25 then (bif Nat.beq pc 22 then some (.if_icmp .ne (27), 3, 49, 0) else none) else (bif Nat.beq pc 25 then some (.aload_n 0, 1, 0, 0) else none))))) else (bif Nat.blt pc 40 then (bif Nat.blt pc 32 then (bif Nat.blt pc 29 then (bif Nat.beq pc 26 then some (.getfield 16, 3, 6, 5) else none) else (bif Nat.blt pc 31 then (bif Nat.beq pc 29 then some (.iload 4, 2, 0, 0) else none) else (bif Nat.beq pc 31 then some (.iaload, 1, 0, 0) else none))) else (bif Nat.blt pc 36 then (bif Nat.blt pc 33 then (bif Nat.beq pc 32 then some (.iload_n 1, 1, 0, 0) else none) else (bif Nat.beq pc 33 then some (.if_icmp .eq (6), 3, 39, 0) else none)) else (bif Nat.blt pc 39 then (bif Nat.beq pc 36 then some (.goto (13), 3, 49, 0) else none) else (bif Nat.beq pc 39 then some (.iload_n 3, 1, 0, 0) else none)))) else (bif Nat.blt pc 49 then (bif Nat.blt pc 45 then (bif Nat.blt pc 43 then (bif Nat.beq pc 40 then some (.ifCond .ne (6), 3, 46, 0) else none) else (bif Nat.beq pc 43 then some (.iload 4, 2, 0, 0) else none)) else (bif Nat.blt pc 46 then (bif Nat.beq pc 45 then some (.ireturn, 1, 0, 0) else none) else (bif Nat.beq pc 46 then some (.iinc 3 (-1), 3, 0, 0) else none))) else (bif Nat.blt pc 55 then (bif Nat.blt pc 52 then (bif Nat.beq pc 49 then some (.iinc 4 1, 3, 0, 0) else none) else (bif Nat.beq pc 52 then some (.goto (-47), 3, 5, 0) else none)) else (bif Nat.blt pc 56 then (bif Nat.beq pc 55 then some (.iconst (-1), 1, 0, 0) else none) else (bif Nat.beq pc 56 then some (.ireturn, 1, 0, 0) else none)))))) else none
theorem oxn_66 : ∀ pc, 57 ≤ pc → oxi_66 pc = none := fun pc h => by unfold oxi_66; rw [show Nat.blt pc 57 = false from ox_blt h]; rfl
theorem oxd_66 : ∀ pc e, oxi_66 pc = some e → decode prog_9_method_17_code pc = .ok (e.1, e.2.1) := ox_tab 57 oxn_66 (by decide +kernel)
theorem oxc_66 : ∀ pc e, oxi_66 pc = some e → ox_chk 6 pc e = true := ox_tab2 57 oxn_66 (by decide +kernel)
/-- OrderAxiomsModel.arrange(II)V -/
def oxi_67 (pc : Nat) : Option (Instr × Nat × Nat × Nat) := bif Nat.blt pc 239 then (bif Nat.blt pc 116 then (bif Nat.blt pc 57 then (bif Nat.blt pc 25 then (bif Nat.blt pc 12 then (bif Nat.blt pc 6 then (bif Nat.blt pc 2 then (bif Nat.blt pc 1 then (bif Nat.beq pc 0 then some (.aload_n 0, 1, 0, 0) else none) else (bif Nat.beq pc 1 then some (.iload_n 1, 1, 0, 0) else none)) else (bif Nat.blt pc 5 then (bif Nat.beq pc 2 then some (.invokevirtual 125, 3, 64, 2) else none) else (bif Nat.beq pc 5 then some (.istore_n 3, 1, 0, 0) else none))) else (bif Nat.blt pc 10 then (bif Nat.blt pc 7 then (bif Nat.beq pc 6 then some (.aload_n 0, 1, 0, 0) else none) else (bif Nat.beq pc 7 then some (.getfield 48, 3, 6, 16) else none)) else (bif Nat.blt pc 11 then (bif Nat.beq pc 10 then some (.iload_n 1, 1, 0, 0) else none) else (bif Nat.beq pc 11 then some (.iload_n 3, 1, 0, 0) else none)))) else (bif Nat.blt pc 17 then (bif Nat.blt pc 14 then (bif Nat.blt pc 13 then (bif Nat.beq pc 12 then some (.iastore, 1, 0, 0) else none) else (bif Nat.beq pc 13 then some (.iconst 1, 1, 0, 0) else none)) else (bif Nat.blt pc 16 then (bif Nat.beq pc 14 then some (.istore 4, 2, 0, 0) else none) else (bif Nat.beq pc 16 then some (.iconst 2, 1, 0, 0) else none))) else (bif Nat.blt pc 21 then (bif Nat.blt pc 19 then (bif Nat.beq pc 17 then some (.istore 5, 2, 0, 0) else none) else (bif Nat.beq pc 19 then some (.iload 5, 2, 0, 0) else none)) else (bif Nat.blt pc 22 then (bif Nat.beq pc 21 then some (.iload_n 3, 1, 0, 0) else none) else (bif Nat.beq pc 22 then some (.if_icmp .gt (16), 3, 38, 0) else none))))) else (bif Nat.blt pc 41 then (bif Nat.blt pc 32 then (bif Nat.blt pc 29 then (bif Nat.blt pc 27 then (bif Nat.beq pc 25 then some (.iload 4, 2, 0, 0) else none) else (bif Nat.beq pc 27 then some (.iload 5, 2, 0, 0) else none)) else (bif Nat.blt pc 30 then (bif Nat.beq pc 29 then some (.imul, 1, 0, 0) else none) else (bif Nat.beq pc 30 then some (.istore 4, 2, 0, 0) else none))) else (bif Nat.blt pc 38 then (bif Nat.blt pc 35 then (bif Nat.beq pc 32 then some (.iinc 5 1, 3, 0, 0) else none) else (bif Nat.beq pc 35 then some (.goto (-16), 3, 19, 0) else none)) else (bif Nat.blt pc 39 then (bif Nat.beq pc 38 then some (.iload_n 2, 1, 0, 0) else none) else (bif Nat.beq pc 39 then some (.istore 5, 2, 0, 0) else none)))) else (bif Nat.blt pc 47 then (bif Nat.blt pc 44 then (bif Nat.blt pc 42 then (bif Nat.beq pc 41 then some (.iconst 0, 1, 0, 0) else none) else (bif Nat.beq pc 42 then some (.istore 6, 2, 0, 0) else none)) else (bif Nat.blt pc 46 then (bif Nat.beq pc 44 then some (.iload 6, 2, 0, 0) else none) else (bif Nat.beq pc 46 then some (.aload_n 0, 1, 0, 0) else none))) else (bif Nat.blt pc 53 then (bif Nat.blt pc 50 then (bif Nat.beq pc 47 then some (.getfield 101, 3, 6, 2) else none) else (bif Nat.beq pc 50 then some (.if_icmp .ge (39), 3, 89, 0) else none)) else (bif Nat.blt pc 54 then (bif Nat.beq pc 53 then some (.aload_n 0, 1, 0, 0) else none) else (bif Nat.beq pc 54 then some (.getfield 13, 3, 6, 4) else none)))))) else (bif Nat.blt pc 86 then (bif Nat.blt pc 71 then (bif Nat.blt pc 64 then (bif Nat.blt pc 60 then (bif Nat.blt pc 59 then (bif Nat.beq pc 57 then some (.iload 6, 2, 0, 0) else none) else (bif Nat.beq pc 59 then some (.iaload, 1, 0, 0) else none)) else (bif Nat.blt pc 61 then (bif Nat.beq pc 60 then some (.iconst 1, 1, 0, 0) else none) else (bif Nat.beq pc 61 then some (.if_icmp .ne (22), 3, 83, 0) else none))) else (bif Nat.blt pc 68 then (bif Nat.blt pc 65 then (bif Nat.beq pc 64 then some (.aload_n 0, 1, 0, 0) else none) else (bif Nat.beq pc 65 then some (.getfield 16, 3, 6, 5) else none)) else (bif Nat.blt pc 70 then (bif Nat.beq pc 68 then some (.iload 6, 2, 0, 0) else none) else (bif Nat.beq pc 70 then some (.iaload, 1, 0, 0) else none)))) else (bif Nat.blt pc 79 then (bif Nat.blt pc 75 then (bif Nat.blt pc 72 then (bif Nat.beq pc 71 then some (.iload_n 1, 1, 0, 0) else none) else (bif Nat.beq pc 72 then some (.if_icmp .ne (11), 3, 83, 0) else none)) else (bif Nat.blt pc 76 then (bif Nat.beq pc 75 then some (.aload_n 0, 1, 0, 0) else none) else (bif Nat.beq pc 76 then some (.getfield 51, 3, 6, 17) else none))) else (bif Nat.blt pc 82 then (bif Nat.blt pc 81 then (bif Nat.beq pc 79 then some (.iload 6, 2, 0, 0) else none) else (bif Nat.beq pc 81 then some (.iconst (-1), 1, 0, 0) else none)) else (bif Nat.blt pc 83 then (bif Nat.beq pc 82 then some (.iastore, 1, 0, 0) else none) else (bif Nat.beq pc 83 then some (.iinc 6 1, 3, 0, 0) else none))))) else (bif Nat.blt pc 101 then (bif Nat.blt pc 94 then (bif Nat.blt pc 90 then (bif Nat.blt pc 89 then (bif Nat.beq pc 86 then some (.goto (-42), 3, 44, 0) else none) else (bif Nat.beq pc 89 then some (.iconst 0, 1, 0, 0) else none)) else (bif Nat.blt pc 92 then (bif Nat.beq pc 90 then some (.istore 6, 2, 0, 0) else none) else (bif Nat.beq pc 92 then some (.iload 6, 2, 0, 0) else none))) else (bif Nat.blt pc 98 then (bif Nat.blt pc 95 then (bif Nat.beq pc 94 then some (.iload_n 3, 1, 0, 0) else none) else (bif Nat.beq pc 95 then some (.if_icmp .ge (143), 3, 238, 0) else none)) else (bif Nat.blt pc 100 then (bif Nat.beq pc 98 then some (.iload 4, 2, 0, 0) else none) else (bif Nat.beq pc 100 then some (.iload_n 3, 1, 0, 0) else none)))) else (bif Nat.blt pc 107 then (bif Nat.blt pc 104 then (bif Nat.blt pc 103 then (bif Nat.beq pc 101 then some (.iload 6, 2, 0, 0) else none) else (bif Nat.beq pc 103 then some (.isub, 1, 0, 0) else none)) else (bif Nat.blt pc 105 then (bif Nat.beq pc 104 then some (.idiv, 1, 0, 0) else none) else (bif Nat.beq pc 105 then some (.istore 4, 2, 0, 0) else none))) else (bif Nat.blt pc 111 then (bif Nat.blt pc 109 then (bif Nat.beq pc 107 then some (.iload 5, 2, 0, 0) else none) else (bif Nat.beq pc 109 then some (.iload 4, 2, 0, 0) else none)) else (bif Nat.blt pc 112 then (bif Nat.beq pc 111 then some (.idiv, 1, 0, 0) else none) else (bif Nat.blt pc 114 then (bif Nat.beq pc 112 then some (.istore 7, 2, 0, 0) else none) else (bif Nat.beq pc 114 then some (.iload 5, 2, 0, 0) else none)))))))) else (bif Nat.blt pc 178 then (bif Nat.blt pc 143 then (bif Nat.blt pc 130 then (bif Nat.blt pc 122 then (bif Nat.blt pc 119 then (bif Nat.blt pc 118 then (bif Nat.beq pc 116 then some (.iload 4, 2, 0, 0) else none) else (bif Nat.beq pc 118 then some (.irem, 1, 0, 0) else none)) else (bif Nat.blt pc 121 then (bif Nat.beq pc 119 then some (.istore 5, 2, 0, 0) else none) else (bif Nat.beq pc 121 then some (.iconst 0, 1, 0, 0) else none))) else (bif Nat.blt pc 125 then (bif Nat.blt pc 124 then (bif Nat.beq pc 122 then some (.istore 8, 2, 0, 0) else none) else (bif Nat.beq pc 124 then some (.aload_n 0, 1, 0, 0) else none)) else (bif Nat.blt pc 128 then (bif Nat.beq pc 125 then some (.getfield 13, 3, 6, 4) else none) else (bif Nat.beq pc 128 then some (.iload 8, 2, 0, 0) else none)))) else (bif Nat.blt pc 136 then (bif Nat.blt pc 132 then (bif Nat.blt pc 131 then (bif Nat.beq pc 130 then some (.iaload, 1, 0, 0) else none) else (bif Nat.beq pc 131 then some (.iconst 1, 1, 0, 0) else none)) else (bif Nat.blt pc 135 then (bif Nat.beq pc 132 then some (.if_icmp .ne (29), 3, 161, 0) else none) else (bif Nat.beq pc 135 then some (.aload_n 0, 1, 0, 0) else none))) else (bif Nat.blt pc 141 then (bif Nat.blt pc 139 then (bif Nat.beq pc 136 then some (.getfield 16, 3, 6, 5) else none) else (bif Nat.beq pc 139 then some (.iload 8, 2, 0, 0) else none)) else (bif Nat.blt pc 142 then (bif Nat.beq pc 141 then some (.iaload, 1, 0, 0) else none) else (bif Nat.beq pc 142 then some (.iload_n 1, 1, 0, 0) else none))))) else (bif Nat.blt pc 161 then (bif Nat.blt pc 152 then (bif Nat.blt pc 147 then (bif Nat.blt pc 146 then (bif Nat.beq pc 143 then some (.if_icmp .ne (18), 3, 161, 0) else none) else (bif Nat.beq pc 146 then some (.aload_n 0, 1, 0, 0) else none)) else (bif Nat.blt pc 150 then (bif Nat.beq pc 147 then some (.getfield 51, 3, 6, 17) else none) else (bif Nat.beq pc 150 then some (.iload 8, 2, 0, 0) else none))) else (bif Nat.blt pc 156 then (bif Nat.blt pc 153 then (bif Nat.beq pc 152 then some (.iaload, 1, 0, 0) else none) else (bif Nat.beq pc 153 then some (.ifCond .ge (8), 3, 161, 0) else none)) else (bif Nat.blt pc 158 then (bif Nat.beq pc 156 then some (.iload 7, 2, 0, 0) else none) else (bif Nat.beq pc 158 then some (.ifCond .le (51), 3, 209, 0) else none)))) else (bif Nat.blt pc 169 then (bif Nat.blt pc 164 then (bif Nat.blt pc 163 then (bif Nat.beq pc 161 then some (.iload 7, 2, 0, 0) else none) else (bif Nat.beq pc 163 then some (.aload_n 0, 1, 0, 0) else none)) else (bif Nat.blt pc 167 then (bif Nat.beq pc 164 then some (.getfield 13, 3, 6, 4) else none) else (bif Nat.beq pc 167 then some (.iload 8, 2, 0, 0) else none))) else (bif Nat.blt pc 171 then (bif Nat.blt pc 170 then (bif Nat.beq pc 169 then some (.iaload, 1, 0, 0) else none) else (bif Nat.beq pc 170 then some (.iconst 1, 1, 0, 0) else none)) else (bif Nat.blt pc 174 then (bif Nat.beq pc 171 then some (.if_icmp .ne (28), 3, 199, 0) else none) else (bif Nat.blt pc 175 then (bif Nat.beq pc 174 then some (.aload_n 0, 1, 0, 0) else none) else (bif Nat.beq pc 175 then some (.getfield 16, 3, 6, 5) else none))))))) else (bif Nat.blt pc 209 then (bif Nat.blt pc 192 then (bif Nat.blt pc 185 then (bif Nat.blt pc 181 then (bif Nat.blt pc 180 then (bif Nat.beq pc 178 then some (.iload 8, 2, 0, 0) else none) else (bif Nat.beq pc 180 then some (.iaload, 1, 0, 0) else none)) else (bif Nat.blt pc 182 then (bif Nat.beq pc 181 then some (.iload_n 1, 1, 0, 0) else none) else (bif Nat.beq pc 182 then some (.if_icmp .ne (17), 3, 199, 0) else none))) else (bif Nat.blt pc 189 then (bif Nat.blt pc 186 then (bif Nat.beq pc 185 then some (.aload_n 0, 1, 0, 0) else none) else (bif Nat.beq pc 186 then some (.getfield 51, 3, 6, 17) else none)) else (bif Nat.blt pc 191 then (bif Nat.beq pc 189 then some (.iload 8, 2, 0, 0) else none) else (bif Nat.beq pc 191 then some (.iaload, 1, 0, 0) else none)))) else (bif Nat.blt pc 200 then (bif Nat.blt pc 196 then (bif Nat.blt pc 195 then (bif Nat.beq pc 192 then some (.ifCond .ge (7), 3, 199, 0) else none) else (bif Nat.beq pc 195 then some (.iconst 1, 1, 0, 0) else none)) else (bif Nat.blt pc 199 then (bif Nat.beq pc 196 then some (.goto (4), 3, 200, 0) else none) else (bif Nat.beq pc 199 then some (.iconst 0, 1, 0, 0) else none))) else (bif Nat.blt pc 203 then (bif Nat.blt pc 201 then (bif Nat.beq pc 200 then some (.isub, 1, 0, 0) else none) else (bif Nat.beq pc 201 then some (.istore 7, 2, 0, 0) else none)) else (bif Nat.blt pc 206 then (bif Nat.beq pc 203 then some (.iinc 8 1, 3, 0, 0) else none) else (bif Nat.beq pc 206 then some (.goto (-82), 3, 124, 0) else none))))) else (bif Nat.blt pc 224 then (bif Nat.blt pc 217 then (bif Nat.blt pc 213 then (bif Nat.blt pc 210 then (bif Nat.beq pc 209 then some (.aload_n 0, 1, 0, 0) else none) else (bif Nat.beq pc 210 then some (.getfield 51, 3, 6, 17) else none)) else (bif Nat.blt pc 215 then (bif Nat.beq pc 213 then some (.iload 8, 2, 0, 0) else none) else (bif Nat.beq pc 215 then some (.iload 6, 2, 0, 0) else none))) else (bif Nat.blt pc 219 then (bif Nat.blt pc 218 then (bif Nat.beq pc 217 then some (.iastore, 1, 0, 0) else none) else (bif Nat.beq pc 218 then some (.aload_n 0, 1, 0, 0) else none)) else (bif Nat.blt pc 222 then (bif Nat.beq pc 219 then some (.getfield 45, 3, 6, 15) else none) else (bif Nat.beq pc 222 then some (.bipush 12, 2, 0, 0) else none)))) else (bif Nat.blt pc 229 then (bif Nat.blt pc 226 then (bif Nat.blt pc 225 then (bif Nat.beq pc 224 then some (.iload_n 1, 1, 0, 0) else none) else (bif Nat.beq pc 225 then some (.imul, 1, 0, 0) else none)) else (bif Nat.blt pc 228 then (bif Nat.beq pc 226 then some (.iload 6, 2, 0, 0) else none) else (bif Nat.beq pc 228 then some (.iadd, 1, 0, 0) else none))) else (bif Nat.blt pc 232 then (bif Nat.blt pc 231 then (bif Nat.beq pc 229 then some (.iload 8, 2, 0, 0) else none) else (bif Nat.beq pc 231 then some (.iastore, 1, 0, 0) else none)) else (bif Nat.blt pc 235 then (bif Nat.beq pc 232 then some (.iinc 6 1, 3, 0, 0) else none) else (bif Nat.blt pc 238 then (bif Nat.beq pc 235 then some (.goto (-143), 3, 92, 0) else none) else (bif Nat.beq pc 238 then some (.return_, 1, 0, 0) else none))))))))) else none
theorem oxn_67 : ∀ pc, 239 ≤ pc → oxi_67 pc = none := fun pc h => by unfold oxi_67; rw [show Nat.blt pc 239 = false from ox_blt h]; rfl
theorem oxd_67 : ∀ pc e, oxi_67 pc = some e → decode prog_9_method_18_code pc = .ok (e.1, e.2.1) := ox_tab 239 oxn_67 (by decide +kernel)
theorem oxc_67 : ∀ pc e, oxi_67 pc = some e → ox_chk 6 pc e = true := ox_tab2 239 oxn_67 (by decide +kernel)
/-- OrderAxiomsModel.choose(I)V -/
def oxi_68 (pc : Nat) : Option (Instr × Nat × Nat × Nat) := bif Nat.blt pc 152 then (bif Nat.blt pc 75 then (bif Nat.blt pc 37 then (bif Nat.blt pc 14 then (bif Nat.blt pc 5 then (bif Nat.blt pc 2 then (bif Nat.blt pc 1 then (bif Nat.beq pc 0 then some (.iload_n 1, 1, 0, 0) else none) else (bif Nat.beq pc 1 then some (.istore_n 2, 1, 0, 0) else none)) else (bif Nat.blt pc 3 then (bif Nat.beq pc 2 then some (.iconst 3, 1, 0, 0) else none) else (bif Nat.blt pc 4 then (bif Nat.beq pc 3 then some (.istore_n 3, 1, 0, 0) else none) else (bif Nat.beq pc 4 then some (.iload_n 3, 1, 0, 0) else none)))) else (bif Nat.blt pc 9 then (bif Nat.blt pc 8 then (bif Nat.beq pc 5 then some (.ifCond .lt (52), 3, 57, 0) else none) else (bif Nat.beq pc 8 then some (.iconst 1, 1, 0, 0) else none)) else (bif Nat.blt pc 11 then (bif Nat.beq pc 9 then some (.istore 4, 2, 0, 0) else none) else (bif Nat.blt pc 12 then (bif Nat.beq pc 11 then some (.iconst 2, 1, 0, 0) else none) else (bif Nat.beq pc 12 then some (.istore 5, 2, 0, 0) else none))))) else (bif Nat.blt pc 24 then (bif Nat.blt pc 17 then (bif Nat.blt pc 16 then (bif Nat.beq pc 14 then some (.iload 5, 2, 0, 0) else none) else (bif Nat.beq pc 16 then some (.aload_n 0, 1, 0, 0) else none)) else (bif Nat.blt pc 18 then (bif Nat.beq pc 17 then some (.iload_n 3, 1, 0, 0) else none) else (bif Nat.blt pc 21 then (bif Nat.beq pc 18 then some (.invokevirtual 125, 3, 64, 2) else none) else (bif Nat.beq pc 21 then some (.if_icmp .gt (16), 3, 37, 0) else none)))) else (bif Nat.blt pc 29 then (bif Nat.blt pc 26 then (bif Nat.beq pc 24 then some (.iload 4, 2, 0, 0) else none) else (bif Nat.blt pc 28 then (bif Nat.beq pc 26 then some (.iload 5, 2, 0, 0) else none) else (bif Nat.beq pc 28 then some (.imul, 1, 0, 0) else none))) else (bif Nat.blt pc 31 then (bif Nat.beq pc 29 then some (.istore 4, 2, 0, 0) else none) else (bif Nat.blt pc 34 then (bif Nat.beq pc 31 then some (.iinc 5 1, 3, 0, 0) else none) else (bif Nat.beq pc 34 then some (.goto (-20), 3, 14, 0) else none)))))) else (bif Nat.blt pc 54 then (bif Nat.blt pc 43 then (bif Nat.blt pc 39 then (bif Nat.blt pc 38 then (bif Nat.beq pc 37 then some (.aload_n 0, 1, 0, 0) else none) else (bif Nat.beq pc 38 then some (.iload_n 3, 1, 0, 0) else none)) else (bif Nat.blt pc 40 then (bif Nat.beq pc 39 then some (.iload_n 2, 1, 0, 0) else none) else (bif Nat.blt pc 42 then (bif Nat.beq pc 40 then some (.iload 4, 2, 0, 0) else none) else (bif Nat.beq pc 42 then some (.irem, 1, 0, 0) else none)))) else (bif Nat.blt pc 49 then (bif Nat.blt pc 46 then (bif Nat.beq pc 43 then some (.invokevirtual 129, 3, 67, 3) else none) else (bif Nat.blt pc 47 then (bif Nat.beq pc 46 then some (.iload_n 2, 1, 0, 0) else none) else (bif Nat.beq pc 47 then some (.iload 4, 2, 0, 0) else none))) else (bif Nat.blt pc 50 then (bif Nat.beq pc 49 then some (.idiv, 1, 0, 0) else none) else (bif Nat.blt pc 51 then (bif Nat.beq pc 50 then some (.istore_n 2, 1, 0, 0) else none) else (bif Nat.beq pc 51 then some (.iinc 3 (-1), 3, 0, 0) else none))))) else (bif Nat.blt pc 63 then (bif Nat.blt pc 58 then (bif Nat.blt pc 57 then (bif Nat.beq pc 54 then some (.goto (-50), 3, 4, 0) else none) else (bif Nat.beq pc 57 then some (.aload_n 0, 1, 0, 0) else none)) else (bif Nat.blt pc 61 then (bif Nat.beq pc 58 then some (.invokevirtual 132, 3, 63, 1) else none) else (bif Nat.blt pc 62 then (bif Nat.beq pc 61 then some (.istore_n 3, 1, 0, 0) else none) else (bif Nat.beq pc 62 then some (.aload_n 0, 1, 0, 0) else none)))) else (bif Nat.blt pc 68 then (bif Nat.blt pc 66 then (bif Nat.beq pc 63 then some (.getfield 101, 3, 6, 2) else none) else (bif Nat.blt pc 67 then (bif Nat.beq pc 66 then some (.iconst 1, 1, 0, 0) else none) else (bif Nat.beq pc 67 then some (.isub, 1, 0, 0) else none))) else (bif Nat.blt pc 70 then (bif Nat.beq pc 68 then some (.istore 4, 2, 0, 0) else none) else (bif Nat.blt pc 72 then (bif Nat.beq pc 70 then some (.iload 4, 2, 0, 0) else none) else (bif Nat.beq pc 72 then some (.ifCond .lt (79), 3, 151, 0) else none))))))) else (bif Nat.blt pc 115 then (bif Nat.blt pc 97 then (bif Nat.blt pc 85 then (bif Nat.blt pc 79 then (bif Nat.blt pc 76 then (bif Nat.beq pc 75 then some (.aload_n 0, 1, 0, 0) else none) else (bif Nat.beq pc 76 then some (.getfield 13, 3, 6, 4) else none)) else (bif Nat.blt pc 81 then (bif Nat.beq pc 79 then some (.iload 4, 2, 0, 0) else none) else (bif Nat.blt pc 82 then (bif Nat.beq pc 81 then some (.iaload, 1, 0, 0) else none) else (bif Nat.beq pc 82 then some (.ifCond .eq (6), 3, 88, 0) else none)))) else (bif Nat.blt pc 92 then (bif Nat.blt pc 88 then (bif Nat.beq pc 85 then some (.goto (60), 3, 145, 0) else none) else (bif Nat.blt pc 91 then (bif Nat.beq pc 88 then some (.iinc 3 (-1), 3, 0, 0) else none) else (bif Nat.beq pc 91 then some (.iconst 1, 1, 0, 0) else none))) else (bif Nat.blt pc 93 then (bif Nat.beq pc 92 then some (.aload_n 0, 1, 0, 0) else none) else (bif Nat.blt pc 94 then (bif Nat.beq pc 93 then some (.aload_n 0, 1, 0, 0) else none) else (bif Nat.beq pc 94 then some (.getfield 16, 3, 6, 5) else none))))) else (bif Nat.blt pc 106 then (bif Nat.blt pc 100 then (bif Nat.blt pc 99 then (bif Nat.beq pc 97 then some (.iload 4, 2, 0, 0) else none) else (bif Nat.beq pc 99 then some (.iaload, 1, 0, 0) else none)) else (bif Nat.blt pc 103 then (bif Nat.beq pc 100 then some (.invokevirtual 125, 3, 64, 2) else none) else (bif Nat.blt pc 104 then (bif Nat.beq pc 103 then some (.iadd, 1, 0, 0) else none) else (bif Nat.beq pc 104 then some (.istore 5, 2, 0, 0) else none)))) else (bif Nat.blt pc 111 then (bif Nat.blt pc 107 then (bif Nat.beq pc 106 then some (.aload_n 0, 1, 0, 0) else none) else (bif Nat.blt pc 110 then (bif Nat.beq pc 107 then some (.getfield 42, 3, 6, 14) else none) else (bif Nat.beq pc 110 then some (.iload_n 3, 1, 0, 0) else none))) else (bif Nat.blt pc 112 then (bif Nat.beq pc 111 then some (.iload_n 2, 1, 0, 0) else none) else (bif Nat.blt pc 114 then (bif Nat.beq pc 112 then some (.iload 5, 2, 0, 0) else none) else (bif Nat.beq pc 114 then some (.irem, 1, 0, 0) else none)))))) else (bif Nat.blt pc 134 then (bif Nat.blt pc 124 then (bif Nat.blt pc 119 then (bif Nat.blt pc 118 then (bif Nat.beq pc 115 then some (.ifCond .ne (7), 3, 122, 0) else none) else (bif Nat.beq pc 118 then some (.iconst (-1), 1, 0, 0) else none)) else (bif Nat.blt pc 122 then (bif Nat.beq pc 119 then some (.goto (20), 3, 139, 0) else none) else (bif Nat.blt pc 123 then (bif Nat.beq pc 122 then some (.aload_n 0, 1, 0, 0) else none) else (bif Nat.beq pc 123 then some (.aload_n 0, 1, 0, 0) else none)))) else (bif Nat.blt pc 130 then (bif Nat.blt pc 127 then (bif Nat.beq pc 124 then some (.getfield 16, 3, 6, 5) else none) else (bif Nat.blt pc 129 then (bif Nat.beq pc 127 then some (.iload 4, 2, 0, 0) else none) else (bif Nat.beq pc 129 then some (.iaload, 1, 0, 0) else none))) else (bif Nat.blt pc 131 then (bif Nat.beq pc 130 then some (.iload_n 2, 1, 0, 0) else none) else (bif Nat.blt pc 133 then (bif Nat.beq pc 131 then some (.iload 5, 2, 0, 0) else none) else (bif Nat.beq pc 133 then some (.irem, 1, 0, 0) else none))))) else (bif Nat.blt pc 141 then (bif Nat.blt pc 136 then (bif Nat.blt pc 135 then (bif Nat.beq pc 134 then some (.iconst 1, 1, 0, 0) else none) else (bif Nat.beq pc 135 then some (.isub, 1, 0, 0) else none)) else (bif Nat.blt pc 139 then (bif Nat.beq pc 136 then some (.invokevirtual 136, 3, 66, 3) else none) else (bif Nat.blt pc 140 then (bif Nat.beq pc 139 then some (.iastore, 1, 0, 0) else none) else (bif Nat.beq pc 140 then some (.iload_n 2, 1, 0, 0) else none)))) else (bif Nat.blt pc 145 then (bif Nat.blt pc 143 then (bif Nat.beq pc 141 then some (.iload 5, 2, 0, 0) else none) else (bif Nat.blt pc 144 then (bif Nat.beq pc 143 then some (.idiv, 1, 0, 0) else none) else (bif Nat.beq pc 144 then some (.istore_n 2, 1, 0, 0) else none))) else (bif Nat.blt pc 148 then (bif Nat.beq pc 145 then some (.iinc 4 (-1), 3, 0, 0) else none) else (bif Nat.blt pc 151 then (bif Nat.beq pc 148 then some (.goto (-78), 3, 70, 0) else none) else (bif Nat.beq pc 151 then some (.return_, 1, 0, 0) else none)))))))) else none
theorem oxn_68 : ∀ pc, 152 ≤ pc → oxi_68 pc = none := fun pc h => by unfold oxi_68; rw [show Nat.blt pc 152 = false from ox_blt h]; rfl
theorem oxd_68 : ∀ pc e, oxi_68 pc = some e → decode prog_9_method_19_code pc = .ok (e.1, e.2.1) := ox_tab 152 oxn_68 (by decide +kernel)
theorem oxc_68 : ∀ pc e, oxi_68 pc = some e → ox_chk 6 pc e = true := ox_tab2 152 oxn_68 (by decide +kernel)
/-- OrderAxiomsModel.sourceAt(I)I -/
def oxi_69 (pc : Nat) : Option (Instr × Nat × Nat × Nat) := bif Nat.blt pc 39 then (bif Nat.blt pc 16 then (bif Nat.blt pc 6 then (bif Nat.blt pc 3 then (bif Nat.blt pc 1 then (bif Nat.beq pc 0 then some (.iconst 0, 1, 0, 0) else none) else (bif Nat.blt pc 2 then (bif Nat.beq pc 1 then some (.istore_n 2, 1, 0, 0) else none) else (bif Nat.beq pc 2 then some (.iconst 0, 1, 0, 0) else none))) else (bif Nat.blt pc 4 then (bif Nat.beq pc 3 then some (.istore_n 3, 1, 0, 0) else none) else (bif Nat.blt pc 5 then (bif Nat.beq pc 4 then some (.iload_n 3, 1, 0, 0) else none) else (bif Nat.beq pc 5 then some (.iload_n 1, 1, 0, 0) else none)))) else (bif Nat.blt pc 11 then (bif Nat.blt pc 9 then (bif Nat.beq pc 6 then some (.if_icmp .ge (26), 3, 32, 0) else none) else (bif Nat.blt pc 10 then (bif Nat.beq pc 9 then some (.iload_n 2, 1, 0, 0) else none) else (bif Nat.beq pc 10 then some (.aload_n 0, 1, 0, 0) else none))) else (bif Nat.blt pc 14 then (bif Nat.beq pc 11 then some (.getfield 13, 3, 6, 4) else none) else (bif Nat.blt pc 15 then (bif Nat.beq pc 14 then some (.iload_n 3, 1, 0, 0) else none) else (bif Nat.beq pc 15 then some (.iaload, 1, 0, 0) else none))))) else (bif Nat.blt pc 26 then (bif Nat.blt pc 23 then (bif Nat.blt pc 19 then (bif Nat.beq pc 16 then some (.ifCond .ne (7), 3, 23, 0) else none) else (bif Nat.blt pc 20 then (bif Nat.beq pc 19 then some (.iconst 1, 1, 0, 0) else none) else (bif Nat.beq pc 20 then some (.goto (4), 3, 24, 0) else none))) else (bif Nat.blt pc 24 then (bif Nat.beq pc 23 then some (.iconst 0, 1, 0, 0) else none) else (bif Nat.blt pc 25 then (bif Nat.beq pc 24 then some (.iadd, 1, 0, 0) else none) else (bif Nat.beq pc 25 then some (.istore_n 2, 1, 0, 0) else none)))) else (bif Nat.blt pc 33 then (bif Nat.blt pc 29 then (bif Nat.beq pc 26 then some (.iinc 3 1, 3, 0, 0) else none) else (bif Nat.blt pc 32 then (bif Nat.beq pc 29 then some (.goto (-25), 3, 4, 0) else none) else (bif Nat.beq pc 32 then some (.aload_n 0, 1, 0, 0) else none))) else (bif Nat.blt pc 37 then (bif Nat.blt pc 36 then (bif Nat.beq pc 33 then some (.getfield 42, 3, 6, 14) else none) else (bif Nat.beq pc 36 then some (.iload_n 2, 1, 0, 0) else none)) else (bif Nat.blt pc 38 then (bif Nat.beq pc 37 then some (.iaload, 1, 0, 0) else none) else (bif Nat.beq pc 38 then some (.ireturn, 1, 0, 0) else none)))))) else none
theorem oxn_69 : ∀ pc, 39 ≤ pc → oxi_69 pc = none := fun pc h => by unfold oxi_69; rw [show Nat.blt pc 39 = false from ox_blt h]; rfl
theorem oxd_69 : ∀ pc e, oxi_69 pc = some e → decode prog_9_method_20_code pc = .ok (e.1, e.2.1) := ox_tab 39 oxn_69 (by decide +kernel)
theorem oxc_69 : ∀ pc e, oxi_69 pc = some e → ox_chk 6 pc e = true := ox_tab2 39 oxn_69 (by decide +kernel)
/-- OrderAxiomsModel.isFenced(II)Z -/
def oxi_70 (pc : Nat) : Option (Instr × Nat × Nat × Nat) := bif Nat.blt pc 86 then (bif Nat.blt pc 41 then (bif Nat.blt pc 18 then (bif Nat.blt pc 7 then (bif Nat.blt pc 3 then (bif Nat.blt pc 1 then (bif Nat.beq pc 0 then some (.iconst 0, 1, 0, 0) else none) else (bif Nat.blt pc 2 then (bif Nat.beq pc 1 then some (.istore_n 3, 1, 0, 0) else none) else (bif Nat.beq pc 2 then some (.iload_n 1, 1, 0, 0) else none))) else (bif Nat.blt pc 4 then (bif Nat.beq pc 3 then some (.iconst 1, 1, 0, 0) else none) else (bif Nat.blt pc 5 then (bif Nat.beq pc 4 then some (.iadd, 1, 0, 0) else none) else (bif Nat.beq pc 5 then some (.istore 4, 2, 0, 0) else none)))) else (bif Nat.blt pc 13 then (bif Nat.blt pc 9 then (bif Nat.beq pc 7 then some (.iload 4, 2, 0, 0) else none) else (bif Nat.blt pc 10 then (bif Nat.beq pc 9 then some (.iload_n 2, 1, 0, 0) else none) else (bif Nat.beq pc 10 then some (.if_icmp .ge (46), 3, 56, 0) else none))) else (bif Nat.blt pc 14 then (bif Nat.beq pc 13 then some (.iload_n 3, 1, 0, 0) else none) else (bif Nat.blt pc 17 then (bif Nat.beq pc 14 then some (.ifCond .ne (30), 3, 44, 0) else none) else (bif Nat.beq pc 17 then some (.aload_n 0, 1, 0, 0) else none))))) else (bif Nat.blt pc 29 then (bif Nat.blt pc 24 then (bif Nat.blt pc 21 then (bif Nat.beq pc 18 then some (.getfield 13, 3, 6, 4) else none) else (bif Nat.blt pc 23 then (bif Nat.beq pc 21 then some (.iload 4, 2, 0, 0) else none) else (bif Nat.beq pc 23 then some (.iaload, 1, 0, 0) else none))) else (bif Nat.blt pc 25 then (bif Nat.beq pc 24 then some (.iconst 2, 1, 0, 0) else none) else (bif Nat.blt pc 28 then (bif Nat.beq pc 25 then some (.if_icmp .ne (23), 3, 48, 0) else none) else (bif Nat.beq pc 28 then some (.aload_n 0, 1, 0, 0) else none)))) else (bif Nat.blt pc 35 then (bif Nat.blt pc 32 then (bif Nat.beq pc 29 then some (.getfield 7, 3, 6, 3) else none) else (bif Nat.blt pc 34 then (bif Nat.beq pc 32 then some (.iload 4, 2, 0, 0) else none) else (bif Nat.beq pc 34 then some (.iaload, 1, 0, 0) else none))) else (bif Nat.blt pc 39 then (bif Nat.blt pc 36 then (bif Nat.beq pc 35 then some (.aload_n 0, 1, 0, 0) else none) else (bif Nat.beq pc 36 then some (.getfield 7, 3, 6, 3) else none)) else (bif Nat.blt pc 40 then (bif Nat.beq pc 39 then some (.iload_n 1, 1, 0, 0) else none) else (bif Nat.beq pc 40 then some (.iaload, 1, 0, 0) else none)))))) else (bif Nat.blt pc 65 then (bif Nat.blt pc 53 then (bif Nat.blt pc 48 then (bif Nat.blt pc 44 then (bif Nat.beq pc 41 then some (.if_icmp .ne (7), 3, 48, 0) else none) else (bif Nat.blt pc 45 then (bif Nat.beq pc 44 then some (.iconst 1, 1, 0, 0) else none) else (bif Nat.beq pc 45 then some (.goto (4), 3, 49, 0) else none))) else (bif Nat.blt pc 49 then (bif Nat.beq pc 48 then some (.iconst 0, 1, 0, 0) else none) else (bif Nat.blt pc 50 then (bif Nat.beq pc 49 then some (.istore_n 3, 1, 0, 0) else none) else (bif Nat.beq pc 50 then some (.iinc 4 1, 3, 0, 0) else none)))) else (bif Nat.blt pc 60 then (bif Nat.blt pc 56 then (bif Nat.beq pc 53 then some (.goto (-46), 3, 7, 0) else none) else (bif Nat.blt pc 57 then (bif Nat.beq pc 56 then some (.iload_n 3, 1, 0, 0) else none) else (bif Nat.beq pc 57 then some (.ifCond .eq (27), 3, 84, 0) else none))) else (bif Nat.blt pc 61 then (bif Nat.beq pc 60 then some (.aload_n 0, 1, 0, 0) else none) else (bif Nat.blt pc 64 then (bif Nat.beq pc 61 then some (.getfield 13, 3, 6, 4) else none) else (bif Nat.beq pc 64 then some (.iload_n 1, 1, 0, 0) else none))))) else (bif Nat.blt pc 75 then (bif Nat.blt pc 70 then (bif Nat.blt pc 66 then (bif Nat.beq pc 65 then some (.iaload, 1, 0, 0) else none) else (bif Nat.blt pc 67 then (bif Nat.beq pc 66 then some (.iconst 2, 1, 0, 0) else none) else (bif Nat.beq pc 67 then some (.if_icmp .eq (17), 3, 84, 0) else none))) else (bif Nat.blt pc 71 then (bif Nat.beq pc 70 then some (.aload_n 0, 1, 0, 0) else none) else (bif Nat.blt pc 74 then (bif Nat.beq pc 71 then some (.getfield 13, 3, 6, 4) else none) else (bif Nat.beq pc 74 then some (.iload_n 2, 1, 0, 0) else none)))) else (bif Nat.blt pc 80 then (bif Nat.blt pc 76 then (bif Nat.beq pc 75 then some (.iaload, 1, 0, 0) else none) else (bif Nat.blt pc 77 then (bif Nat.beq pc 76 then some (.iconst 2, 1, 0, 0) else none) else (bif Nat.beq pc 77 then some (.if_icmp .eq (7), 3, 84, 0) else none))) else (bif Nat.blt pc 84 then (bif Nat.blt pc 81 then (bif Nat.beq pc 80 then some (.iconst 1, 1, 0, 0) else none) else (bif Nat.beq pc 81 then some (.goto (4), 3, 85, 0) else none)) else (bif Nat.blt pc 85 then (bif Nat.beq pc 84 then some (.iconst 0, 1, 0, 0) else none) else (bif Nat.beq pc 85 then some (.ireturn, 1, 0, 0) else none))))))) else none
theorem oxn_70 : ∀ pc, 86 ≤ pc → oxi_70 pc = none := fun pc h => by unfold oxi_70; rw [show Nat.blt pc 86 = false from ox_blt h]; rfl
theorem oxd_70 : ∀ pc e, oxi_70 pc = some e → decode prog_9_method_21_code pc = .ok (e.1, e.2.1) := ox_tab 86 oxn_70 (by decide +kernel)
theorem oxc_70 : ∀ pc e, oxi_70 pc = some e → ox_chk 6 pc e = true := ox_tab2 86 oxn_70 (by decide +kernel)
/-- OrderAxiomsModel.isGiven(III)Z -/
def oxi_71 (pc : Nat) : Option (Instr × Nat × Nat × Nat) := bif Nat.blt pc 364 then (bif Nat.blt pc 202 then (bif Nat.blt pc 79 then (bif Nat.blt pc 38 then (bif Nat.blt pc 17 then (bif Nat.blt pc 7 then (bif Nat.blt pc 4 then (bif Nat.blt pc 1 then (bif Nat.beq pc 0 then some (.aload_n 0, 1, 0, 0) else none) else (bif Nat.beq pc 1 then some (.getfield 7, 3, 6, 3) else none)) else (bif Nat.blt pc 5 then (bif Nat.beq pc 4 then some (.iload_n 2, 1, 0, 0) else none) else (bif Nat.blt pc 6 then (bif Nat.beq pc 5 then some (.iaload, 1, 0, 0) else none) else (bif Nat.beq pc 6 then some (.aload_n 0, 1, 0, 0) else none)))) else (bif Nat.blt pc 12 then (bif Nat.blt pc 10 then (bif Nat.beq pc 7 then some (.getfield 7, 3, 6, 3) else none) else (bif Nat.blt pc 11 then (bif Nat.beq pc 10 then some (.iload_n 3, 1, 0, 0) else none) else (bif Nat.beq pc 11 then some (.iaload, 1, 0, 0) else none))) else (bif Nat.blt pc 15 then (bif Nat.beq pc 12 then some (.if_icmp .ne (12), 3, 24, 0) else none) else (bif Nat.blt pc 16 then (bif Nat.beq pc 15 then some (.iload_n 2, 1, 0, 0) else none) else (bif Nat.beq pc 16 then some (.iload_n 3, 1, 0, 0) else none))))) else (bif Nat.blt pc 28 then (bif Nat.blt pc 24 then (bif Nat.blt pc 20 then (bif Nat.beq pc 17 then some (.if_icmp .ge (7), 3, 24, 0) else none) else (bif Nat.blt pc 21 then (bif Nat.beq pc 20 then some (.iconst 1, 1, 0, 0) else none) else (bif Nat.beq pc 21 then some (.goto (4), 3, 25, 0) else none))) else (bif Nat.blt pc 25 then (bif Nat.beq pc 24 then some (.iconst 0, 1, 0, 0) else none) else (bif Nat.blt pc 27 then (bif Nat.beq pc 25 then some (.istore 4, 2, 0, 0) else none) else (bif Nat.beq pc 27 then some (.aload_n 0, 1, 0, 0) else none)))) else (bif Nat.blt pc 33 then (bif Nat.blt pc 31 then (bif Nat.beq pc 28 then some (.getfield 13, 3, 6, 4) else none) else (bif Nat.blt pc 32 then (bif Nat.beq pc 31 then some (.iload_n 2, 1, 0, 0) else none) else (bif Nat.beq pc 32 then some (.iaload, 1, 0, 0) else none))) else (bif Nat.blt pc 34 then (bif Nat.beq pc 33 then some (.iconst 2, 1, 0, 0) else none) else (bif Nat.blt pc 37 then (bif Nat.beq pc 34 then some (.if_icmp .eq (32), 3, 66, 0) else none) else (bif Nat.beq pc 37 then some (.aload_n 0, 1, 0, 0) else none)))))) else (bif Nat.blt pc 58 then (bif Nat.blt pc 48 then (bif Nat.blt pc 43 then (bif Nat.blt pc 41 then (bif Nat.beq pc 38 then some (.getfield 13, 3, 6, 4) else none) else (bif Nat.blt pc 42 then (bif Nat.beq pc 41 then some (.iload_n 3, 1, 0, 0) else none) else (bif Nat.beq pc 42 then some (.iaload, 1, 0, 0) else none))) else (bif Nat.blt pc 44 then (bif Nat.beq pc 43 then some (.iconst 2, 1, 0, 0) else none) else (bif Nat.blt pc 47 then (bif Nat.beq pc 44 then some (.if_icmp .eq (22), 3, 66, 0) else none) else (bif Nat.beq pc 47 then some (.aload_n 0, 1, 0, 0) else none)))) else (bif Nat.blt pc 53 then (bif Nat.blt pc 51 then (bif Nat.beq pc 48 then some (.getfield 16, 3, 6, 5) else none) else (bif Nat.blt pc 52 then (bif Nat.beq pc 51 then some (.iload_n 2, 1, 0, 0) else none) else (bif Nat.beq pc 52 then some (.iaload, 1, 0, 0) else none))) else (bif Nat.blt pc 54 then (bif Nat.beq pc 53 then some (.aload_n 0, 1, 0, 0) else none) else (bif Nat.blt pc 57 then (bif Nat.beq pc 54 then some (.getfield 16, 3, 6, 5) else none) else (bif Nat.beq pc 57 then some (.iload_n 3, 1, 0, 0) else none))))) else (bif Nat.blt pc 69 then (bif Nat.blt pc 63 then (bif Nat.blt pc 59 then (bif Nat.beq pc 58 then some (.iaload, 1, 0, 0) else none) else (bif Nat.blt pc 62 then (bif Nat.beq pc 59 then some (.if_icmp .ne (7), 3, 66, 0) else none) else (bif Nat.beq pc 62 then some (.iconst 1, 1, 0, 0) else none))) else (bif Nat.blt pc 66 then (bif Nat.beq pc 63 then some (.goto (4), 3, 67, 0) else none) else (bif Nat.blt pc 67 then (bif Nat.beq pc 66 then some (.iconst 0, 1, 0, 0) else none) else (bif Nat.beq pc 67 then some (.istore 5, 2, 0, 0) else none)))) else (bif Nat.blt pc 74 then (bif Nat.blt pc 70 then (bif Nat.beq pc 69 then some (.aload_n 0, 1, 0, 0) else none) else (bif Nat.blt pc 73 then (bif Nat.beq pc 70 then some (.getfield 13, 3, 6, 4) else none) else (bif Nat.beq pc 73 then some (.iload_n 3, 1, 0, 0) else none))) else (bif Nat.blt pc 75 then (bif Nat.beq pc 74 then some (.iaload, 1, 0, 0) else none) else (bif Nat.blt pc 78 then (bif Nat.beq pc 75 then some (.ifCond .ne (16), 3, 91, 0) else none) else (bif Nat.beq pc 78 then some (.aload_n 0, 1, 0, 0) else none))))))) else (bif Nat.blt pc 161 then (bif Nat.blt pc 142 then (bif Nat.blt pc 88 then (bif Nat.blt pc 83 then (bif Nat.blt pc 80 then (bif Nat.beq pc 79 then some (.iload_n 3, 1, 0, 0) else none) else (bif Nat.beq pc 80 then some (.invokevirtual 140, 3, 69, 2) else none)) else (bif Nat.blt pc 84 then (bif Nat.beq pc 83 then some (.iload_n 2, 1, 0, 0) else none) else (bif Nat.blt pc 87 then (bif Nat.beq pc 84 then some (.if_icmp .ne (7), 3, 91, 0) else none) else (bif Nat.beq pc 87 then some (.iconst 1, 1, 0, 0) else none)))) else (bif Nat.blt pc 94 then (bif Nat.blt pc 91 then (bif Nat.beq pc 88 then some (.goto (4), 3, 92, 0) else none) else (bif Nat.blt pc 92 then (bif Nat.beq pc 91 then some (.iconst 0, 1, 0, 0) else none) else (bif Nat.beq pc 92 then some (.istore 6, 2, 0, 0) else none))) else (bif Nat.blt pc 95 then (bif Nat.beq pc 94 then some (.iload_n 1, 1, 0, 0) else none) else (bif Nat.blt pc 140 then (bif Nat.beq pc 95 then some (.tableswitch (228) (0) (7) #[45, 48, 51, 97, 154, 180, 196, 208], 45, 0, 0) else none) else (bif Nat.beq pc 140 then some (.iload 4, 2, 0, 0) else none))))) else (bif Nat.blt pc 151 then (bif Nat.blt pc 146 then (bif Nat.blt pc 143 then (bif Nat.beq pc 142 then some (.ireturn, 1, 0, 0) else none) else (bif Nat.blt pc 145 then (bif Nat.beq pc 143 then some (.iload 6, 2, 0, 0) else none) else (bif Nat.beq pc 145 then some (.ireturn, 1, 0, 0) else none))) else (bif Nat.blt pc 147 then (bif Nat.beq pc 146 then some (.aload_n 0, 1, 0, 0) else none) else (bif Nat.blt pc 150 then (bif Nat.beq pc 147 then some (.getfield 13, 3, 6, 4) else none) else (bif Nat.beq pc 150 then some (.iload_n 2, 1, 0, 0) else none)))) else (bif Nat.blt pc 156 then (bif Nat.blt pc 152 then (bif Nat.beq pc 151 then some (.iaload, 1, 0, 0) else none) else (bif Nat.blt pc 153 then (bif Nat.beq pc 152 then some (.iconst 1, 1, 0, 0) else none) else (bif Nat.beq pc 153 then some (.if_icmp .ne (37), 3, 190, 0) else none))) else (bif Nat.blt pc 157 then (bif Nat.beq pc 156 then some (.aload_n 0, 1, 0, 0) else none) else (bif Nat.blt pc 160 then (bif Nat.beq pc 157 then some (.getfield 13, 3, 6, 4) else none) else (bif Nat.beq pc 160 then some (.iload_n 3, 1, 0, 0) else none)))))) else (bif Nat.blt pc 182 then (bif Nat.blt pc 172 then (bif Nat.blt pc 166 then (bif Nat.blt pc 162 then (bif Nat.beq pc 161 then some (.iaload, 1, 0, 0) else none) else (bif Nat.blt pc 163 then (bif Nat.beq pc 162 then some (.iconst 1, 1, 0, 0) else none) else (bif Nat.beq pc 163 then some (.if_icmp .ne (27), 3, 190, 0) else none))) else (bif Nat.blt pc 168 then (bif Nat.beq pc 166 then some (.iload 5, 2, 0, 0) else none) else (bif Nat.blt pc 171 then (bif Nat.beq pc 168 then some (.ifCond .eq (22), 3, 190, 0) else none) else (bif Nat.beq pc 171 then some (.aload_n 0, 1, 0, 0) else none)))) else (bif Nat.blt pc 177 then (bif Nat.blt pc 175 then (bif Nat.beq pc 172 then some (.getfield 51, 3, 6, 17) else none) else (bif Nat.blt pc 176 then (bif Nat.beq pc 175 then some (.iload_n 2, 1, 0, 0) else none) else (bif Nat.beq pc 176 then some (.iaload, 1, 0, 0) else none))) else (bif Nat.blt pc 178 then (bif Nat.beq pc 177 then some (.aload_n 0, 1, 0, 0) else none) else (bif Nat.blt pc 181 then (bif Nat.beq pc 178 then some (.getfield 51, 3, 6, 17) else none) else (bif Nat.beq pc 181 then some (.iload_n 3, 1, 0, 0) else none))))) else (bif Nat.blt pc 192 then (bif Nat.blt pc 187 then (bif Nat.blt pc 183 then (bif Nat.beq pc 182 then some (.iaload, 1, 0, 0) else none) else (bif Nat.blt pc 186 then (bif Nat.beq pc 183 then some (.if_icmp .ge (7), 3, 190, 0) else none) else (bif Nat.beq pc 186 then some (.iconst 1, 1, 0, 0) else none))) else (bif Nat.blt pc 190 then (bif Nat.beq pc 187 then some (.goto (4), 3, 191, 0) else none) else (bif Nat.blt pc 191 then (bif Nat.beq pc 190 then some (.iconst 0, 1, 0, 0) else none) else (bif Nat.beq pc 191 then some (.ireturn, 1, 0, 0) else none)))) else (bif Nat.blt pc 197 then (bif Nat.blt pc 193 then (bif Nat.beq pc 192 then some (.aload_n 0, 1, 0, 0) else none) else (bif Nat.blt pc 196 then (bif Nat.beq pc 193 then some (.getfield 13, 3, 6, 4) else none) else (bif Nat.beq pc 196 then some (.iload_n 2, 1, 0, 0) else none))) else (bif Nat.blt pc 198 then (bif Nat.beq pc 197 then some (.iaload, 1, 0, 0) else none) else (bif Nat.blt pc 201 then (bif Nat.beq pc 198 then some (.ifCond .ne (49), 3, 247, 0) else none) else (bif Nat.beq pc 201 then some (.aload_n 0, 1, 0, 0) else none)))))))) else (bif Nat.blt pc 289 then (bif Nat.blt pc 244 then (bif Nat.blt pc 224 then (bif Nat.blt pc 211 then (bif Nat.blt pc 206 then (bif Nat.blt pc 205 then (bif Nat.beq pc 202 then some (.getfield 13, 3, 6, 4) else none) else (bif Nat.beq pc 205 then some (.iload_n 3, 1, 0, 0) else none)) else (bif Nat.blt pc 207 then (bif Nat.beq pc 206 then some (.iaload, 1, 0, 0) else none) else (bif Nat.blt pc 208 then (bif Nat.beq pc 207 then some (.iconst 1, 1, 0, 0) else none) else (bif Nat.beq pc 208 then some (.if_icmp .ne (39), 3, 247, 0) else none)))) else (bif Nat.blt pc 217 then (bif Nat.blt pc 213 then (bif Nat.beq pc 211 then some (.iload 5, 2, 0, 0) else none) else (bif Nat.blt pc 216 then (bif Nat.beq pc 213 then some (.ifCond .eq (34), 3, 247, 0) else none) else (bif Nat.beq pc 216 then some (.aload_n 0, 1, 0, 0) else none))) else (bif Nat.blt pc 218 then (bif Nat.beq pc 217 then some (.iload_n 2, 1, 0, 0) else none) else (bif Nat.blt pc 221 then (bif Nat.beq pc 218 then some (.invokevirtual 140, 3, 69, 2) else none) else (bif Nat.beq pc 221 then some (.ifCond .lt (22), 3, 243, 0) else none))))) else (bif Nat.blt pc 234 then (bif Nat.blt pc 229 then (bif Nat.blt pc 225 then (bif Nat.beq pc 224 then some (.aload_n 0, 1, 0, 0) else none) else (bif Nat.blt pc 228 then (bif Nat.beq pc 225 then some (.getfield 51, 3, 6, 17) else none) else (bif Nat.beq pc 228 then some (.iload_n 3, 1, 0, 0) else none))) else (bif Nat.blt pc 230 then (bif Nat.beq pc 229 then some (.iaload, 1, 0, 0) else none) else (bif Nat.blt pc 231 then (bif Nat.beq pc 230 then some (.aload_n 0, 1, 0, 0) else none) else (bif Nat.beq pc 231 then some (.getfield 51, 3, 6, 17) else none)))) else (bif Nat.blt pc 239 then (bif Nat.blt pc 235 then (bif Nat.beq pc 234 then some (.aload_n 0, 1, 0, 0) else none) else (bif Nat.blt pc 236 then (bif Nat.beq pc 235 then some (.iload_n 2, 1, 0, 0) else none) else (bif Nat.beq pc 236 then some (.invokevirtual 140, 3, 69, 2) else none))) else (bif Nat.blt pc 240 then (bif Nat.beq pc 239 then some (.iaload, 1, 0, 0) else none) else (bif Nat.blt pc 243 then (bif Nat.beq pc 240 then some (.if_icmp .le (7), 3, 247, 0) else none) else (bif Nat.beq pc 243 then some (.iconst 1, 1, 0, 0) else none)))))) else (bif Nat.blt pc 265 then (bif Nat.blt pc 255 then (bif Nat.blt pc 249 then (bif Nat.blt pc 247 then (bif Nat.beq pc 244 then some (.goto (4), 3, 248, 0) else none) else (bif Nat.blt pc 248 then (bif Nat.beq pc 247 then some (.iconst 0, 1, 0, 0) else none) else (bif Nat.beq pc 248 then some (.ireturn, 1, 0, 0) else none))) else (bif Nat.blt pc 251 then (bif Nat.beq pc 249 then some (.iload 6, 2, 0, 0) else none) else (bif Nat.blt pc 254 then (bif Nat.beq pc 251 then some (.ifCond .eq (22), 3, 273, 0) else none) else (bif Nat.beq pc 254 then some (.aload_n 0, 1, 0, 0) else none)))) else (bif Nat.blt pc 260 then (bif Nat.blt pc 258 then (bif Nat.beq pc 255 then some (.getfield 7, 3, 6, 3) else none) else (bif Nat.blt pc 259 then (bif Nat.beq pc 258 then some (.iload_n 2, 1, 0, 0) else none) else (bif Nat.beq pc 259 then some (.iaload, 1, 0, 0) else none))) else (bif Nat.blt pc 261 then (bif Nat.beq pc 260 then some (.aload_n 0, 1, 0, 0) else none) else (bif Nat.blt pc 264 then (bif Nat.beq pc 261 then some (.getfield 7, 3, 6, 3) else none) else (bif Nat.beq pc 264 then some (.iload_n 3, 1, 0, 0) else none))))) else (bif Nat.blt pc 275 then (bif Nat.blt pc 270 then (bif Nat.blt pc 266 then (bif Nat.beq pc 265 then some (.iaload, 1, 0, 0) else none) else (bif Nat.blt pc 269 then (bif Nat.beq pc 266 then some (.if_icmp .eq (7), 3, 273, 0) else none) else (bif Nat.beq pc 269 then some (.iconst 1, 1, 0, 0) else none))) else (bif Nat.blt pc 273 then (bif Nat.beq pc 270 then some (.goto (4), 3, 274, 0) else none) else (bif Nat.blt pc 274 then (bif Nat.beq pc 273 then some (.iconst 0, 1, 0, 0) else none) else (bif Nat.beq pc 274 then some (.ireturn, 1, 0, 0) else none)))) else (bif Nat.blt pc 282 then (bif Nat.blt pc 277 then (bif Nat.beq pc 275 then some (.iload 4, 2, 0, 0) else none) else (bif Nat.blt pc 280 then (bif Nat.beq pc 277 then some (.ifCond .eq (12), 3, 289, 0) else none) else (bif Nat.beq pc 280 then some (.iload 5, 2, 0, 0) else none))) else (bif Nat.blt pc 285 then (bif Nat.beq pc 282 then some (.ifCond .eq (7), 3, 289, 0) else none) else (bif Nat.blt pc 286 then (bif Nat.beq pc 285 then some (.iconst 1, 1, 0, 0) else none) else (bif Nat.beq pc 286 then some (.goto (4), 3, 290, 0) else none))))))) else (bif Nat.blt pc 328 then (bif Nat.blt pc 305 then (bif Nat.blt pc 298 then (bif Nat.blt pc 292 then (bif Nat.blt pc 290 then (bif Nat.beq pc 289 then some (.iconst 0, 1, 0, 0) else none) else (bif Nat.blt pc 291 then (bif Nat.beq pc 290 then some (.ireturn, 1, 0, 0) else none) else (bif Nat.beq pc 291 then some (.aload_n 0, 1, 0, 0) else none))) else (bif Nat.blt pc 295 then (bif Nat.beq pc 292 then some (.getfield 22, 3, 6, 7) else none) else (bif Nat.blt pc 297 then (bif Nat.beq pc 295 then some (.bipush 12, 2, 0, 0) else none) else (bif Nat.beq pc 297 then some (.iload_n 2, 1, 0, 0) else none)))) else (bif Nat.blt pc 301 then (bif Nat.blt pc 299 then (bif Nat.beq pc 298 then some (.imul, 1, 0, 0) else none) else (bif Nat.blt pc 300 then (bif Nat.beq pc 299 then some (.iload_n 3, 1, 0, 0) else none) else (bif Nat.beq pc 300 then some (.iadd, 1, 0, 0) else none))) else (bif Nat.blt pc 302 then (bif Nat.beq pc 301 then some (.baload, 1, 0, 0) else none) else (bif Nat.blt pc 303 then (bif Nat.beq pc 302 then some (.ireturn, 1, 0, 0) else none) else (bif Nat.beq pc 303 then some (.iload 4, 2, 0, 0) else none))))) else (bif Nat.blt pc 317 then (bif Nat.blt pc 310 then (bif Nat.blt pc 308 then (bif Nat.beq pc 305 then some (.ifCond .eq (16), 3, 321, 0) else none) else (bif Nat.blt pc 309 then (bif Nat.beq pc 308 then some (.aload_n 0, 1, 0, 0) else none) else (bif Nat.beq pc 309 then some (.iload_n 2, 1, 0, 0) else none))) else (bif Nat.blt pc 311 then (bif Nat.beq pc 310 then some (.iload_n 3, 1, 0, 0) else none) else (bif Nat.blt pc 314 then (bif Nat.beq pc 311 then some (.invokevirtual 143, 3, 70, 3) else none) else (bif Nat.beq pc 314 then some (.ifCond .eq (7), 3, 321, 0) else none)))) else (bif Nat.blt pc 322 then (bif Nat.blt pc 318 then (bif Nat.beq pc 317 then some (.iconst 1, 1, 0, 0) else none) else (bif Nat.blt pc 321 then (bif Nat.beq pc 318 then some (.goto (4), 3, 322, 0) else none) else (bif Nat.beq pc 321 then some (.iconst 0, 1, 0, 0) else none))) else (bif Nat.blt pc 323 then (bif Nat.beq pc 322 then some (.ireturn, 1, 0, 0) else none) else (bif Nat.blt pc 325 then (bif Nat.beq pc 323 then some (.iload 4, 2, 0, 0) else none) else (bif Nat.beq pc 325 then some (.ifCond .eq (37), 3, 362, 0) else none)))))) else (bif Nat.blt pc 347 then (bif Nat.blt pc 337 then (bif Nat.blt pc 333 then (bif Nat.blt pc 329 then (bif Nat.beq pc 328 then some (.aload_n 0, 1, 0, 0) else none) else (bif Nat.blt pc 332 then (bif Nat.beq pc 329 then some (.getfield 13, 3, 6, 4) else none) else (bif Nat.beq pc 332 then some (.iload_n 2, 1, 0, 0) else none))) else (bif Nat.blt pc 334 then (bif Nat.beq pc 333 then some (.iaload, 1, 0, 0) else none) else (bif Nat.blt pc 335 then (bif Nat.beq pc 334 then some (.iload_n 1, 1, 0, 0) else none) else (bif Nat.beq pc 335 then some (.bipush 8, 2, 0, 0) else none)))) else (bif Nat.blt pc 340 then (bif Nat.blt pc 338 then (bif Nat.beq pc 337 then some (.isub, 1, 0, 0) else none) else (bif Nat.blt pc 339 then (bif Nat.beq pc 338 then some (.iconst 2, 1, 0, 0) else none) else (bif Nat.beq pc 339 then some (.idiv, 1, 0, 0) else none))) else (bif Nat.blt pc 343 then (bif Nat.beq pc 340 then some (.if_icmp .ne (22), 3, 362, 0) else none) else (bif Nat.blt pc 344 then (bif Nat.beq pc 343 then some (.aload_n 0, 1, 0, 0) else none) else (bif Nat.beq pc 344 then some (.getfield 13, 3, 6, 4) else none))))) else (bif Nat.blt pc 354 then (bif Nat.blt pc 350 then (bif Nat.blt pc 348 then (bif Nat.beq pc 347 then some (.iload_n 3, 1, 0, 0) else none) else (bif Nat.blt pc 349 then (bif Nat.beq pc 348 then some (.iaload, 1, 0, 0) else none) else (bif Nat.beq pc 349 then some (.iload_n 1, 1, 0, 0) else none))) else (bif Nat.blt pc 352 then (bif Nat.beq pc 350 then some (.bipush 8, 2, 0, 0) else none) else (bif Nat.blt pc 353 then (bif Nat.beq pc 352 then some (.isub, 1, 0, 0) else none) else (bif Nat.beq pc 353 then some (.iconst 2, 1, 0, 0) else none)))) else (bif Nat.blt pc 359 then (bif Nat.blt pc 355 then (bif Nat.beq pc 354 then some (.irem, 1, 0, 0) else none) else (bif Nat.blt pc 358 then (bif Nat.beq pc 355 then some (.if_icmp .ne (7), 3, 362, 0) else none) else (bif Nat.beq pc 358 then some (.iconst 1, 1, 0, 0) else none))) else (bif Nat.blt pc 362 then (bif Nat.beq pc 359 then some (.goto (4), 3, 363, 0) else none) else (bif Nat.blt pc 363 then (bif Nat.beq pc 362 then some (.iconst 0, 1, 0, 0) else none) else (bif Nat.beq pc 363 then some (.ireturn, 1, 0, 0) else none))))))))) else none
theorem oxn_71 : ∀ pc, 364 ≤ pc → oxi_71 pc = none := fun pc h => by unfold oxi_71; rw [show Nat.blt pc 364 = false from ox_blt h]; rfl
theorem oxd_71 : ∀ pc e, oxi_71 pc = some e → decode prog_9_method_22_code pc = .ok (e.1, e.2.1) := ox_tab 364 oxn_71 (by decide +kernel)
theorem oxc_71 : ∀ pc e, oxi_71 pc = some e → ox_chk 6 pc e = true := ox_tab2 364 oxn_71 (by decide +kernel)
/-- OrderAxiomsModel.is(III)Z -/
def oxi_72 (pc : Nat) : Option (Instr × Nat × Nat × Nat) := bif Nat.blt pc 18 then (bif Nat.blt pc 11 then (bif Nat.blt pc 7 then (bif Nat.blt pc 1 then (bif Nat.beq pc 0 then some (.aload_n 0, 1, 0, 0) else none) else (bif Nat.blt pc 4 then (bif Nat.beq pc 1 then some (.getfield 54, 3, 6, 18) else none) else (bif Nat.beq pc 4 then some (.sipush 144, 3, 0, 0) else none))) else (bif Nat.blt pc 8 then (bif Nat.beq pc 7 then some (.iload_n 1, 1, 0, 0) else none) else (bif Nat.blt pc 9 then (bif Nat.beq pc 8 then some (.imul, 1, 0, 0) else none) else (bif Nat.beq pc 9 then some (.bipush 12, 2, 0, 0) else none)))) else (bif Nat.blt pc 14 then (bif Nat.blt pc 12 then (bif Nat.beq pc 11 then some (.iload_n 2, 1, 0, 0) else none) else (bif Nat.blt pc 13 then (bif Nat.beq pc 12 then some (.imul, 1, 0, 0) else none) else (bif Nat.beq pc 13 then some (.iadd, 1, 0, 0) else none))) else (bif Nat.blt pc 16 then (bif Nat.blt pc 15 then (bif Nat.beq pc 14 then some (.iload_n 3, 1, 0, 0) else none) else (bif Nat.beq pc 15 then some (.iadd, 1, 0, 0) else none)) else (bif Nat.blt pc 17 then (bif Nat.beq pc 16 then some (.baload, 1, 0, 0) else none) else (bif Nat.beq pc 17 then some (.ireturn, 1, 0, 0) else none))))) else none
theorem oxn_72 : ∀ pc, 18 ≤ pc → oxi_72 pc = none := fun pc h => by unfold oxi_72; rw [show Nat.blt pc 18 = false from ox_blt h]; rfl
theorem oxd_72 : ∀ pc e, oxi_72 pc = some e → decode prog_9_method_23_code pc = .ok (e.1, e.2.1) := ox_tab 18 oxn_72 (by decide +kernel)
theorem oxc_72 : ∀ pc e, oxi_72 pc = some e → ox_chk 6 pc e = true := ox_tab2 18 oxn_72 (by decide +kernel)
/-- OrderAxiomsModel.isJoined(IIII)Z -/
def oxi_73 (pc : Nat) : Option (Instr × Nat × Nat × Nat) := bif Nat.blt pc 59 then (bif Nat.blt pc 28 then (bif Nat.blt pc 12 then (bif Nat.blt pc 4 then (bif Nat.blt pc 1 then (bif Nat.beq pc 0 then some (.iconst 0, 1, 0, 0) else none) else (bif Nat.blt pc 3 then (bif Nat.beq pc 1 then some (.istore 5, 2, 0, 0) else none) else (bif Nat.beq pc 3 then some (.iconst 0, 1, 0, 0) else none))) else (bif Nat.blt pc 8 then (bif Nat.blt pc 6 then (bif Nat.beq pc 4 then some (.istore 6, 2, 0, 0) else none) else (bif Nat.beq pc 6 then some (.iload 6, 2, 0, 0) else none)) else (bif Nat.blt pc 9 then (bif Nat.beq pc 8 then some (.aload_n 0, 1, 0, 0) else none) else (bif Nat.beq pc 9 then some (.getfield 101, 3, 6, 2) else none)))) else (bif Nat.blt pc 21 then (bif Nat.blt pc 17 then (bif Nat.blt pc 15 then (bif Nat.beq pc 12 then some (.if_icmp .ge (44), 3, 56, 0) else none) else (bif Nat.beq pc 15 then some (.iload 5, 2, 0, 0) else none)) else (bif Nat.blt pc 20 then (bif Nat.beq pc 17 then some (.ifCond .ne (39), 3, 56, 0) else none) else (bif Nat.beq pc 20 then some (.aload_n 0, 1, 0, 0) else none))) else (bif Nat.blt pc 23 then (bif Nat.blt pc 22 then (bif Nat.beq pc 21 then some (.iload_n 1, 1, 0, 0) else none) else (bif Nat.beq pc 22 then some (.iload_n 3, 1, 0, 0) else none)) else (bif Nat.blt pc 25 then (bif Nat.beq pc 23 then some (.iload 6, 2, 0, 0) else none) else (bif Nat.beq pc 25 then some (.invokevirtual 146, 3, 72, 4) else none))))) else (bif Nat.blt pc 43 then (bif Nat.blt pc 33 then (bif Nat.blt pc 31 then (bif Nat.beq pc 28 then some (.ifCond .eq (19), 3, 47, 0) else none) else (bif Nat.blt pc 32 then (bif Nat.beq pc 31 then some (.aload_n 0, 1, 0, 0) else none) else (bif Nat.beq pc 32 then some (.iload_n 2, 1, 0, 0) else none))) else (bif Nat.blt pc 37 then (bif Nat.blt pc 35 then (bif Nat.beq pc 33 then some (.iload 6, 2, 0, 0) else none) else (bif Nat.beq pc 35 then some (.iload 4, 2, 0, 0) else none)) else (bif Nat.blt pc 40 then (bif Nat.beq pc 37 then some (.invokevirtual 146, 3, 72, 4) else none) else (bif Nat.beq pc 40 then some (.ifCond .eq (7), 3, 47, 0) else none)))) else (bif Nat.blt pc 50 then (bif Nat.blt pc 47 then (bif Nat.blt pc 44 then (bif Nat.beq pc 43 then some (.iconst 1, 1, 0, 0) else none) else (bif Nat.beq pc 44 then some (.goto (4), 3, 48, 0) else none)) else (bif Nat.blt pc 48 then (bif Nat.beq pc 47 then some (.iconst 0, 1, 0, 0) else none) else (bif Nat.beq pc 48 then some (.istore 5, 2, 0, 0) else none))) else (bif Nat.blt pc 56 then (bif Nat.blt pc 53 then (bif Nat.beq pc 50 then some (.iinc 6 1, 3, 0, 0) else none) else (bif Nat.beq pc 53 then some (.goto (-47), 3, 6, 0) else none)) else (bif Nat.blt pc 58 then (bif Nat.beq pc 56 then some (.iload 5, 2, 0, 0) else none) else (bif Nat.beq pc 58 then some (.ireturn, 1, 0, 0) else none)))))) else none
theorem oxn_73 : ∀ pc, 59 ≤ pc → oxi_73 pc = none := fun pc h => by unfold oxi_73; rw [show Nat.blt pc 59 = false from ox_blt h]; rfl
theorem oxd_73 : ∀ pc e, oxi_73 pc = some e → decode prog_9_method_24_code pc = .ok (e.1, e.2.1) := ox_tab 59 oxn_73 (by decide +kernel)
theorem oxc_73 : ∀ pc e, oxi_73 pc = some e → ox_chk 6 pc e = true := ox_tab2 59 oxn_73 (by decide +kernel)
/-- OrderAxiomsModel.isMade(III)Z -/
def oxi_74 (pc : Nat) : Option (Instr × Nat × Nat × Nat) := bif Nat.blt pc 169 then (bif Nat.blt pc 100 then (bif Nat.blt pc 64 then (bif Nat.blt pc 16 then (bif Nat.blt pc 8 then (bif Nat.blt pc 4 then (bif Nat.blt pc 1 then (bif Nat.beq pc 0 then some (.aload_n 0, 1, 0, 0) else none) else (bif Nat.beq pc 1 then some (.getfield 33, 3, 6, 10) else none)) else (bif Nat.blt pc 5 then (bif Nat.beq pc 4 then some (.iload_n 1, 1, 0, 0) else none) else (bif Nat.blt pc 6 then (bif Nat.beq pc 5 then some (.iaload, 1, 0, 0) else none) else (bif Nat.beq pc 6 then some (.istore 4, 2, 0, 0) else none)))) else (bif Nat.blt pc 12 then (bif Nat.blt pc 9 then (bif Nat.beq pc 8 then some (.aload_n 0, 1, 0, 0) else none) else (bif Nat.beq pc 9 then some (.getfield 36, 3, 6, 11) else none)) else (bif Nat.blt pc 13 then (bif Nat.beq pc 12 then some (.iload_n 1, 1, 0, 0) else none) else (bif Nat.blt pc 14 then (bif Nat.beq pc 13 then some (.iaload, 1, 0, 0) else none) else (bif Nat.beq pc 14 then some (.istore 5, 2, 0, 0) else none))))) else (bif Nat.blt pc 56 then (bif Nat.blt pc 20 then (bif Nat.blt pc 17 then (bif Nat.beq pc 16 then some (.aload_n 0, 1, 0, 0) else none) else (bif Nat.beq pc 17 then some (.getfield 30, 3, 6, 9) else none)) else (bif Nat.blt pc 21 then (bif Nat.beq pc 20 then some (.iload_n 1, 1, 0, 0) else none) else (bif Nat.blt pc 22 then (bif Nat.beq pc 21 then some (.iaload, 1, 0, 0) else none) else (bif Nat.beq pc 22 then some (.tableswitch (138) (0) (4) #[34, 62, 90, 118, 129], 34, 0, 0) else none)))) else (bif Nat.blt pc 59 then (bif Nat.blt pc 57 then (bif Nat.beq pc 56 then some (.aload_n 0, 1, 0, 0) else none) else (bif Nat.beq pc 57 then some (.iload 4, 2, 0, 0) else none)) else (bif Nat.blt pc 60 then (bif Nat.beq pc 59 then some (.iload_n 2, 1, 0, 0) else none) else (bif Nat.blt pc 61 then (bif Nat.beq pc 60 then some (.iload_n 3, 1, 0, 0) else none) else (bif Nat.beq pc 61 then some (.invokevirtual 146, 3, 72, 4) else none)))))) else (bif Nat.blt pc 83 then (bif Nat.blt pc 72 then (bif Nat.blt pc 68 then (bif Nat.blt pc 67 then (bif Nat.beq pc 64 then some (.ifCond .ne (14), 3, 78, 0) else none) else (bif Nat.beq pc 67 then some (.aload_n 0, 1, 0, 0) else none)) else (bif Nat.blt pc 70 then (bif Nat.beq pc 68 then some (.iload 5, 2, 0, 0) else none) else (bif Nat.blt pc 71 then (bif Nat.beq pc 70 then some (.iload_n 2, 1, 0, 0) else none) else (bif Nat.beq pc 71 then some (.iload_n 3, 1, 0, 0) else none)))) else (bif Nat.blt pc 78 then (bif Nat.blt pc 75 then (bif Nat.beq pc 72 then some (.invokevirtual 146, 3, 72, 4) else none) else (bif Nat.beq pc 75 then some (.ifCond .eq (7), 3, 82, 0) else none)) else (bif Nat.blt pc 79 then (bif Nat.beq pc 78 then some (.iconst 1, 1, 0, 0) else none) else (bif Nat.blt pc 82 then (bif Nat.beq pc 79 then some (.goto (4), 3, 83, 0) else none) else (bif Nat.beq pc 82 then some (.iconst 0, 1, 0, 0) else none))))) else (bif Nat.blt pc 89 then (bif Nat.blt pc 85 then (bif Nat.blt pc 84 then (bif Nat.beq pc 83 then some (.ireturn, 1, 0, 0) else none) else (bif Nat.beq pc 84 then some (.aload_n 0, 1, 0, 0) else none)) else (bif Nat.blt pc 87 then (bif Nat.beq pc 85 then some (.iload 4, 2, 0, 0) else none) else (bif Nat.blt pc 88 then (bif Nat.beq pc 87 then some (.iload_n 2, 1, 0, 0) else none) else (bif Nat.beq pc 88 then some (.iload_n 3, 1, 0, 0) else none)))) else (bif Nat.blt pc 96 then (bif Nat.blt pc 92 then (bif Nat.beq pc 89 then some (.invokevirtual 146, 3, 72, 4) else none) else (bif Nat.blt pc 95 then (bif Nat.beq pc 92 then some (.ifCond .eq (18), 3, 110, 0) else none) else (bif Nat.beq pc 95 then some (.aload_n 0, 1, 0, 0) else none))) else (bif Nat.blt pc 98 then (bif Nat.beq pc 96 then some (.iload 5, 2, 0, 0) else none) else (bif Nat.blt pc 99 then (bif Nat.beq pc 98 then some (.iload_n 2, 1, 0, 0) else none) else (bif Nat.beq pc 99 then some (.iload_n 3, 1, 0, 0) else none))))))) else (bif Nat.blt pc 138 then (bif Nat.blt pc 117 then (bif Nat.blt pc 111 then (bif Nat.blt pc 106 then (bif Nat.blt pc 103 then (bif Nat.beq pc 100 then some (.invokevirtual 146, 3, 72, 4) else none) else (bif Nat.beq pc 103 then some (.ifCond .eq (7), 3, 110, 0) else none)) else (bif Nat.blt pc 107 then (bif Nat.beq pc 106 then some (.iconst 1, 1, 0, 0) else none) else (bif Nat.blt pc 110 then (bif Nat.beq pc 107 then some (.goto (4), 3, 111, 0) else none) else (bif Nat.beq pc 110 then some (.iconst 0, 1, 0, 0) else none)))) else (bif Nat.blt pc 113 then (bif Nat.blt pc 112 then (bif Nat.beq pc 111 then some (.ireturn, 1, 0, 0) else none) else (bif Nat.beq pc 112 then some (.aload_n 0, 1, 0, 0) else none)) else (bif Nat.blt pc 115 then (bif Nat.beq pc 113 then some (.iload 4, 2, 0, 0) else none) else (bif Nat.blt pc 116 then (bif Nat.beq pc 115 then some (.iload_n 2, 1, 0, 0) else none) else (bif Nat.beq pc 116 then some (.iload_n 3, 1, 0, 0) else none))))) else (bif Nat.blt pc 127 then (bif Nat.blt pc 123 then (bif Nat.blt pc 120 then (bif Nat.beq pc 117 then some (.invokevirtual 146, 3, 72, 4) else none) else (bif Nat.beq pc 120 then some (.ifCond .eq (18), 3, 138, 0) else none)) else (bif Nat.blt pc 124 then (bif Nat.beq pc 123 then some (.aload_n 0, 1, 0, 0) else none) else (bif Nat.blt pc 126 then (bif Nat.beq pc 124 then some (.iload 5, 2, 0, 0) else none) else (bif Nat.beq pc 126 then some (.iload_n 2, 1, 0, 0) else none)))) else (bif Nat.blt pc 131 then (bif Nat.blt pc 128 then (bif Nat.beq pc 127 then some (.iload_n 3, 1, 0, 0) else none) else (bif Nat.beq pc 128 then some (.invokevirtual 146, 3, 72, 4) else none)) else (bif Nat.blt pc 134 then (bif Nat.beq pc 131 then some (.ifCond .ne (7), 3, 138, 0) else none) else (bif Nat.blt pc 135 then (bif Nat.beq pc 134 then some (.iconst 1, 1, 0, 0) else none) else (bif Nat.beq pc 135 then some (.goto (4), 3, 139, 0) else none)))))) else (bif Nat.blt pc 152 then (bif Nat.blt pc 145 then (bif Nat.blt pc 140 then (bif Nat.blt pc 139 then (bif Nat.beq pc 138 then some (.iconst 0, 1, 0, 0) else none) else (bif Nat.beq pc 139 then some (.ireturn, 1, 0, 0) else none)) else (bif Nat.blt pc 141 then (bif Nat.beq pc 140 then some (.aload_n 0, 1, 0, 0) else none) else (bif Nat.blt pc 143 then (bif Nat.beq pc 141 then some (.iload 4, 2, 0, 0) else none) else (bif Nat.beq pc 143 then some (.iload 5, 2, 0, 0) else none)))) else (bif Nat.blt pc 147 then (bif Nat.blt pc 146 then (bif Nat.beq pc 145 then some (.iload_n 2, 1, 0, 0) else none) else (bif Nat.beq pc 146 then some (.iload_n 3, 1, 0, 0) else none)) else (bif Nat.blt pc 150 then (bif Nat.beq pc 147 then some (.invokevirtual 150, 3, 73, 5) else none) else (bif Nat.blt pc 151 then (bif Nat.beq pc 150 then some (.ireturn, 1, 0, 0) else none) else (bif Nat.beq pc 151 then some (.aload_n 0, 1, 0, 0) else none))))) else (bif Nat.blt pc 160 then (bif Nat.blt pc 155 then (bif Nat.blt pc 154 then (bif Nat.beq pc 152 then some (.iload 4, 2, 0, 0) else none) else (bif Nat.beq pc 154 then some (.iload_n 3, 1, 0, 0) else none)) else (bif Nat.blt pc 156 then (bif Nat.beq pc 155 then some (.iload_n 2, 1, 0, 0) else none) else (bif Nat.blt pc 159 then (bif Nat.beq pc 156 then some (.invokevirtual 146, 3, 72, 4) else none) else (bif Nat.beq pc 159 then some (.ireturn, 1, 0, 0) else none)))) else (bif Nat.blt pc 164 then (bif Nat.blt pc 161 then (bif Nat.beq pc 160 then some (.aload_n 0, 1, 0, 0) else none) else (bif Nat.blt pc 163 then (bif Nat.beq pc 161 then some (.iload 4, 2, 0, 0) else none) else (bif Nat.beq pc 163 then some (.iload_n 2, 1, 0, 0) else none))) else (bif Nat.blt pc 165 then (bif Nat.beq pc 164 then some (.iload_n 3, 1, 0, 0) else none) else (bif Nat.blt pc 168 then (bif Nat.beq pc 165 then some (.invokevirtual 146, 3, 72, 4) else none) else (bif Nat.beq pc 168 then some (.ireturn, 1, 0, 0) else none)))))))) else none
theorem oxn_74 : ∀ pc, 169 ≤ pc → oxi_74 pc = none := fun pc h => by unfold oxi_74; rw [show Nat.blt pc 169 = false from ox_blt h]; rfl
theorem oxd_74 : ∀ pc e, oxi_74 pc = some e → decode prog_9_method_25_code pc = .ok (e.1, e.2.1) := ox_tab 169 oxn_74 (by decide +kernel)
theorem oxc_74 : ∀ pc e, oxi_74 pc = some e → ox_chk 6 pc e = true := ox_tab2 169 oxn_74 (by decide +kernel)
/-- OrderAxiomsModel.close(I)V -/
def oxi_75 (pc : Nat) : Option (Instr × Nat × Nat × Nat) := bif Nat.blt pc 93 then (bif Nat.blt pc 43 then (bif Nat.blt pc 19 then (bif Nat.blt pc 8 then (bif Nat.blt pc 3 then (bif Nat.blt pc 1 then (bif Nat.beq pc 0 then some (.iconst 1, 1, 0, 0) else none) else (bif Nat.blt pc 2 then (bif Nat.beq pc 1 then some (.istore_n 2, 1, 0, 0) else none) else (bif Nat.beq pc 2 then some (.iload_n 2, 1, 0, 0) else none))) else (bif Nat.blt pc 6 then (bif Nat.beq pc 3 then some (.ifCond .eq (89), 3, 92, 0) else none) else (bif Nat.blt pc 7 then (bif Nat.beq pc 6 then some (.iconst 0, 1, 0, 0) else none) else (bif Nat.beq pc 7 then some (.istore_n 2, 1, 0, 0) else none)))) else (bif Nat.blt pc 11 then (bif Nat.blt pc 9 then (bif Nat.beq pc 8 then some (.iconst 0, 1, 0, 0) else none) else (bif Nat.blt pc 10 then (bif Nat.beq pc 9 then some (.istore_n 3, 1, 0, 0) else none) else (bif Nat.beq pc 10 then some (.iload_n 3, 1, 0, 0) else none))) else (bif Nat.blt pc 15 then (bif Nat.blt pc 12 then (bif Nat.beq pc 11 then some (.aload_n 0, 1, 0, 0) else none) else (bif Nat.beq pc 12 then some (.getfield 101, 3, 6, 2) else none)) else (bif Nat.blt pc 18 then (bif Nat.beq pc 15 then some (.if_icmp .ge (74), 3, 89, 0) else none) else (bif Nat.beq pc 18 then some (.iconst 0, 1, 0, 0) else none))))) else (bif Nat.blt pc 31 then (bif Nat.blt pc 24 then (bif Nat.blt pc 21 then (bif Nat.beq pc 19 then some (.istore 4, 2, 0, 0) else none) else (bif Nat.blt pc 23 then (bif Nat.beq pc 21 then some (.iload 4, 2, 0, 0) else none) else (bif Nat.beq pc 23 then some (.aload_n 0, 1, 0, 0) else none))) else (bif Nat.blt pc 27 then (bif Nat.beq pc 24 then some (.getfield 101, 3, 6, 2) else none) else (bif Nat.blt pc 30 then (bif Nat.beq pc 27 then some (.if_icmp .ge (56), 3, 83, 0) else none) else (bif Nat.beq pc 30 then some (.aload_n 0, 1, 0, 0) else none)))) else (bif Nat.blt pc 35 then (bif Nat.blt pc 32 then (bif Nat.beq pc 31 then some (.iload_n 1, 1, 0, 0) else none) else (bif Nat.blt pc 33 then (bif Nat.beq pc 32 then some (.iload_n 3, 1, 0, 0) else none) else (bif Nat.beq pc 33 then some (.iload 4, 2, 0, 0) else none))) else (bif Nat.blt pc 41 then (bif Nat.blt pc 38 then (bif Nat.beq pc 35 then some (.invokevirtual 146, 3, 72, 4) else none) else (bif Nat.beq pc 38 then some (.ifCond .ne (39), 3, 77, 0) else none)) else (bif Nat.blt pc 42 then (bif Nat.beq pc 41 then some (.aload_n 0, 1, 0, 0) else none) else (bif Nat.beq pc 42 then some (.iload_n 1, 1, 0, 0) else none)))))) else (bif Nat.blt pc 68 then (bif Nat.blt pc 56 then (bif Nat.blt pc 47 then (bif Nat.blt pc 44 then (bif Nat.beq pc 43 then some (.iload_n 1, 1, 0, 0) else none) else (bif Nat.blt pc 45 then (bif Nat.beq pc 44 then some (.iload_n 3, 1, 0, 0) else none) else (bif Nat.beq pc 45 then some (.iload 4, 2, 0, 0) else none))) else (bif Nat.blt pc 50 then (bif Nat.beq pc 47 then some (.invokevirtual 150, 3, 73, 5) else none) else (bif Nat.blt pc 53 then (bif Nat.beq pc 50 then some (.ifCond .ne (6), 3, 56, 0) else none) else (bif Nat.beq pc 53 then some (.goto (24), 3, 77, 0) else none)))) else (bif Nat.blt pc 63 then (bif Nat.blt pc 57 then (bif Nat.beq pc 56 then some (.aload_n 0, 1, 0, 0) else none) else (bif Nat.blt pc 60 then (bif Nat.beq pc 57 then some (.getfield 54, 3, 6, 18) else none) else (bif Nat.beq pc 60 then some (.sipush 144, 3, 0, 0) else none))) else (bif Nat.blt pc 65 then (bif Nat.blt pc 64 then (bif Nat.beq pc 63 then some (.iload_n 1, 1, 0, 0) else none) else (bif Nat.beq pc 64 then some (.imul, 1, 0, 0) else none)) else (bif Nat.blt pc 67 then (bif Nat.beq pc 65 then some (.bipush 12, 2, 0, 0) else none) else (bif Nat.beq pc 67 then some (.iload_n 3, 1, 0, 0) else none))))) else (bif Nat.blt pc 76 then (bif Nat.blt pc 72 then (bif Nat.blt pc 69 then (bif Nat.beq pc 68 then some (.imul, 1, 0, 0) else none) else (bif Nat.blt pc 70 then (bif Nat.beq pc 69 then some (.iadd, 1, 0, 0) else none) else (bif Nat.beq pc 70 then some (.iload 4, 2, 0, 0) else none))) else (bif Nat.blt pc 74 then (bif Nat.blt pc 73 then (bif Nat.beq pc 72 then some (.iadd, 1, 0, 0) else none) else (bif Nat.beq pc 73 then some (.iconst 1, 1, 0, 0) else none)) else (bif Nat.blt pc 75 then (bif Nat.beq pc 74 then some (.bastore, 1, 0, 0) else none) else (bif Nat.beq pc 75 then some (.iconst 1, 1, 0, 0) else none)))) else (bif Nat.blt pc 83 then (bif Nat.blt pc 77 then (bif Nat.beq pc 76 then some (.istore_n 2, 1, 0, 0) else none) else (bif Nat.blt pc 80 then (bif Nat.beq pc 77 then some (.iinc 4 1, 3, 0, 0) else none) else (bif Nat.beq pc 80 then some (.goto (-59), 3, 21, 0) else none))) else (bif Nat.blt pc 89 then (bif Nat.blt pc 86 then (bif Nat.beq pc 83 then some (.iinc 3 1, 3, 0, 0) else none) else (bif Nat.beq pc 86 then some (.goto (-76), 3, 10, 0) else none)) else (bif Nat.blt pc 92 then (bif Nat.beq pc 89 then some (.goto (-87), 3, 2, 0) else none) else (bif Nat.beq pc 92 then some (.return_, 1, 0, 0) else none))))))) else none
theorem oxn_75 : ∀ pc, 93 ≤ pc → oxi_75 pc = none := fun pc h => by unfold oxi_75; rw [show Nat.blt pc 93 = false from ox_blt h]; rfl
theorem oxd_75 : ∀ pc e, oxi_75 pc = some e → decode prog_9_method_26_code pc = .ok (e.1, e.2.1) := ox_tab 93 oxn_75 (by decide +kernel)
theorem oxc_75 : ∀ pc e, oxi_75 pc = some e → ox_chk 6 pc e = true := ox_tab2 93 oxn_75 (by decide +kernel)
/-- OrderAxiomsModel.relate()V -/
def oxi_76 (pc : Nat) : Option (Instr × Nat × Nat × Nat) := bif Nat.blt pc 110 then (bif Nat.blt pc 49 then (bif Nat.blt pc 23 then (bif Nat.blt pc 11 then (bif Nat.blt pc 3 then (bif Nat.blt pc 1 then (bif Nat.beq pc 0 then some (.iconst 0, 1, 0, 0) else none) else (bif Nat.blt pc 2 then (bif Nat.beq pc 1 then some (.istore_n 1, 1, 0, 0) else none) else (bif Nat.beq pc 2 then some (.iload_n 1, 1, 0, 0) else none))) else (bif Nat.blt pc 7 then (bif Nat.blt pc 4 then (bif Nat.beq pc 3 then some (.aload_n 0, 1, 0, 0) else none) else (bif Nat.beq pc 4 then some (.getfield 26, 3, 6, 8) else none)) else (bif Nat.blt pc 10 then (bif Nat.beq pc 7 then some (.if_icmp .ge (102), 3, 109, 0) else none) else (bif Nat.beq pc 10 then some (.iconst 0, 1, 0, 0) else none)))) else (bif Nat.blt pc 17 then (bif Nat.blt pc 13 then (bif Nat.blt pc 12 then (bif Nat.beq pc 11 then some (.istore_n 2, 1, 0, 0) else none) else (bif Nat.beq pc 12 then some (.iload_n 2, 1, 0, 0) else none)) else (bif Nat.blt pc 14 then (bif Nat.beq pc 13 then some (.aload_n 0, 1, 0, 0) else none) else (bif Nat.beq pc 14 then some (.getfield 101, 3, 6, 2) else none))) else (bif Nat.blt pc 21 then (bif Nat.blt pc 20 then (bif Nat.beq pc 17 then some (.if_icmp .ge (65), 3, 82, 0) else none) else (bif Nat.beq pc 20 then some (.iconst 0, 1, 0, 0) else none)) else (bif Nat.blt pc 22 then (bif Nat.beq pc 21 then some (.istore_n 3, 1, 0, 0) else none) else (bif Nat.beq pc 22 then some (.iload_n 3, 1, 0, 0) else none))))) else (bif Nat.blt pc 39 then (bif Nat.blt pc 31 then (bif Nat.blt pc 27 then (bif Nat.blt pc 24 then (bif Nat.beq pc 23 then some (.aload_n 0, 1, 0, 0) else none) else (bif Nat.beq pc 24 then some (.getfield 101, 3, 6, 2) else none)) else (bif Nat.blt pc 30 then (bif Nat.beq pc 27 then some (.if_icmp .ge (49), 3, 76, 0) else none) else (bif Nat.beq pc 30 then some (.aload_n 0, 1, 0, 0) else none))) else (bif Nat.blt pc 37 then (bif Nat.blt pc 34 then (bif Nat.beq pc 31 then some (.getfield 54, 3, 6, 18) else none) else (bif Nat.beq pc 34 then some (.sipush 144, 3, 0, 0) else none)) else (bif Nat.blt pc 38 then (bif Nat.beq pc 37 then some (.iload_n 1, 1, 0, 0) else none) else (bif Nat.beq pc 38 then some (.imul, 1, 0, 0) else none)))) else (bif Nat.blt pc 44 then (bif Nat.blt pc 42 then (bif Nat.blt pc 41 then (bif Nat.beq pc 39 then some (.bipush 12, 2, 0, 0) else none) else (bif Nat.beq pc 41 then some (.iload_n 2, 1, 0, 0) else none)) else (bif Nat.blt pc 43 then (bif Nat.beq pc 42 then some (.imul, 1, 0, 0) else none) else (bif Nat.beq pc 43 then some (.iadd, 1, 0, 0) else none))) else (bif Nat.blt pc 46 then (bif Nat.blt pc 45 then (bif Nat.beq pc 44 then some (.iload_n 3, 1, 0, 0) else none) else (bif Nat.beq pc 45 then some (.iadd, 1, 0, 0) else none)) else (bif Nat.blt pc 47 then (bif Nat.beq pc 46 then some (.iload_n 1, 1, 0, 0) else none) else (bif Nat.beq pc 47 then some (.bipush 12, 2, 0, 0) else none)))))) else (bif Nat.blt pc 79 then (bif Nat.blt pc 63 then (bif Nat.blt pc 55 then (bif Nat.blt pc 53 then (bif Nat.blt pc 52 then (bif Nat.beq pc 49 then some (.if_icmp .ge (13), 3, 62, 0) else none) else (bif Nat.beq pc 52 then some (.aload_n 0, 1, 0, 0) else none)) else (bif Nat.blt pc 54 then (bif Nat.beq pc 53 then some (.iload_n 1, 1, 0, 0) else none) else (bif Nat.beq pc 54 then some (.iload_n 2, 1, 0, 0) else none))) else (bif Nat.blt pc 59 then (bif Nat.blt pc 56 then (bif Nat.beq pc 55 then some (.iload_n 3, 1, 0, 0) else none) else (bif Nat.beq pc 56 then some (.invokevirtual 154, 3, 71, 4) else none)) else (bif Nat.blt pc 62 then (bif Nat.beq pc 59 then some (.goto (10), 3, 69, 0) else none) else (bif Nat.beq pc 62 then some (.aload_n 0, 1, 0, 0) else none)))) else (bif Nat.blt pc 69 then (bif Nat.blt pc 65 then (bif Nat.blt pc 64 then (bif Nat.beq pc 63 then some (.iload_n 1, 1, 0, 0) else none) else (bif Nat.beq pc 64 then some (.iload_n 2, 1, 0, 0) else none)) else (bif Nat.blt pc 66 then (bif Nat.beq pc 65 then some (.iload_n 3, 1, 0, 0) else none) else (bif Nat.beq pc 66 then some (.invokevirtual 157, 3, 74, 4) else none))) else (bif Nat.blt pc 73 then (bif Nat.blt pc 70 then (bif Nat.beq pc 69 then some (.bastore, 1, 0, 0) else none) else (bif Nat.beq pc 70 then some (.iinc 3 1, 3, 0, 0) else none)) else (bif Nat.blt pc 76 then (bif Nat.beq pc 73 then some (.goto (-51), 3, 22, 0) else none) else (bif Nat.beq pc 76 then some (.iinc 2 1, 3, 0, 0) else none))))) else (bif Nat.blt pc 94 then (bif Nat.blt pc 88 then (bif Nat.blt pc 83 then (bif Nat.blt pc 82 then (bif Nat.beq pc 79 then some (.goto (-67), 3, 12, 0) else none) else (bif Nat.beq pc 82 then some (.iload_n 1, 1, 0, 0) else none)) else (bif Nat.blt pc 85 then (bif Nat.beq pc 83 then some (.bipush 12, 2, 0, 0) else none) else (bif Nat.beq pc 85 then some (.if_icmp .lt (18), 3, 103, 0) else none))) else (bif Nat.blt pc 92 then (bif Nat.blt pc 89 then (bif Nat.beq pc 88 then some (.aload_n 0, 1, 0, 0) else none) else (bif Nat.beq pc 89 then some (.getfield 30, 3, 6, 9) else none)) else (bif Nat.blt pc 93 then (bif Nat.beq pc 92 then some (.iload_n 1, 1, 0, 0) else none) else (bif Nat.beq pc 93 then some (.iaload, 1, 0, 0) else none)))) else (bif Nat.blt pc 100 then (bif Nat.blt pc 98 then (bif Nat.blt pc 95 then (bif Nat.beq pc 94 then some (.iconst 5, 1, 0, 0) else none) else (bif Nat.beq pc 95 then some (.if_icmp .ne (8), 3, 103, 0) else none)) else (bif Nat.blt pc 99 then (bif Nat.beq pc 98 then some (.aload_n 0, 1, 0, 0) else none) else (bif Nat.beq pc 99 then some (.iload_n 1, 1, 0, 0) else none))) else (bif Nat.blt pc 106 then (bif Nat.blt pc 103 then (bif Nat.beq pc 100 then some (.invokevirtual 160, 3, 75, 2) else none) else (bif Nat.beq pc 103 then some (.iinc 1 1, 3, 0, 0) else none)) else (bif Nat.blt pc 109 then (bif Nat.beq pc 106 then some (.goto (-104), 3, 2, 0) else none) else (bif Nat.beq pc 109 then some (.return_, 1, 0, 0) else none))))))) else none
theorem oxn_76 : ∀ pc, 110 ≤ pc → oxi_76 pc = none := fun pc h => by unfold oxi_76; rw [show Nat.blt pc 110 = false from ox_blt h]; rfl
theorem oxd_76 : ∀ pc e, oxi_76 pc = some e → decode prog_9_method_27_code pc = .ok (e.1, e.2.1) := ox_tab 110 oxn_76 (by decide +kernel)
theorem oxc_76 : ∀ pc e, oxi_76 pc = some e → ox_chk 6 pc e = true := ox_tab2 110 oxn_76 (by decide +kernel)
/-- OrderAxiomsModel.shortest(I)I -/
def oxi_77 (pc : Nat) : Option (Instr × Nat × Nat × Nat) := bif Nat.blt pc 221 then (bif Nat.blt pc 105 then (bif Nat.blt pc 50 then (bif Nat.blt pc 24 then (bif Nat.blt pc 11 then (bif Nat.blt pc 3 then (bif Nat.blt pc 1 then (bif Nat.beq pc 0 then some (.iconst 0, 1, 0, 0) else none) else (bif Nat.blt pc 2 then (bif Nat.beq pc 1 then some (.istore_n 2, 1, 0, 0) else none) else (bif Nat.beq pc 2 then some (.iload_n 2, 1, 0, 0) else none))) else (bif Nat.blt pc 7 then (bif Nat.blt pc 4 then (bif Nat.beq pc 3 then some (.aload_n 0, 1, 0, 0) else none) else (bif Nat.beq pc 4 then some (.getfield 101, 3, 6, 2) else none)) else (bif Nat.blt pc 10 then (bif Nat.beq pc 7 then some (.if_icmp .ge (46), 3, 53, 0) else none) else (bif Nat.beq pc 10 then some (.iconst 0, 1, 0, 0) else none)))) else (bif Nat.blt pc 14 then (bif Nat.blt pc 12 then (bif Nat.beq pc 11 then some (.istore_n 3, 1, 0, 0) else none) else (bif Nat.blt pc 13 then (bif Nat.beq pc 12 then some (.iload_n 3, 1, 0, 0) else none) else (bif Nat.beq pc 13 then some (.aload_n 0, 1, 0, 0) else none))) else (bif Nat.blt pc 20 then (bif Nat.blt pc 17 then (bif Nat.beq pc 14 then some (.getfield 101, 3, 6, 2) else none) else (bif Nat.beq pc 17 then some (.if_icmp .ge (30), 3, 47, 0) else none)) else (bif Nat.blt pc 21 then (bif Nat.beq pc 20 then some (.aload_n 0, 1, 0, 0) else none) else (bif Nat.beq pc 21 then some (.getfield 57, 3, 6, 19) else none))))) else (bif Nat.blt pc 32 then (bif Nat.blt pc 28 then (bif Nat.blt pc 26 then (bif Nat.beq pc 24 then some (.bipush 12, 2, 0, 0) else none) else (bif Nat.blt pc 27 then (bif Nat.beq pc 26 then some (.iload_n 2, 1, 0, 0) else none) else (bif Nat.beq pc 27 then some (.imul, 1, 0, 0) else none))) else (bif Nat.blt pc 30 then (bif Nat.blt pc 29 then (bif Nat.beq pc 28 then some (.iload_n 3, 1, 0, 0) else none) else (bif Nat.beq pc 29 then some (.iadd, 1, 0, 0) else none)) else (bif Nat.blt pc 31 then (bif Nat.beq pc 30 then some (.iload_n 2, 1, 0, 0) else none) else (bif Nat.beq pc 31 then some (.iload_n 3, 1, 0, 0) else none)))) else (bif Nat.blt pc 40 then (bif Nat.blt pc 36 then (bif Nat.blt pc 35 then (bif Nat.beq pc 32 then some (.if_icmp .ne (7), 3, 39, 0) else none) else (bif Nat.beq pc 35 then some (.iconst 1, 1, 0, 0) else none)) else (bif Nat.blt pc 39 then (bif Nat.beq pc 36 then some (.goto (4), 3, 40, 0) else none) else (bif Nat.beq pc 39 then some (.iconst 0, 1, 0, 0) else none))) else (bif Nat.blt pc 44 then (bif Nat.blt pc 41 then (bif Nat.beq pc 40 then some (.bastore, 1, 0, 0) else none) else (bif Nat.beq pc 41 then some (.iinc 3 1, 3, 0, 0) else none)) else (bif Nat.blt pc 47 then (bif Nat.beq pc 44 then some (.goto (-32), 3, 12, 0) else none) else (bif Nat.beq pc 47 then some (.iinc 2 1, 3, 0, 0) else none)))))) else (bif Nat.blt pc 75 then (bif Nat.blt pc 59 then (bif Nat.blt pc 55 then (bif Nat.blt pc 53 then (bif Nat.beq pc 50 then some (.goto (-48), 3, 2, 0) else none) else (bif Nat.blt pc 54 then (bif Nat.beq pc 53 then some (.iconst 0, 1, 0, 0) else none) else (bif Nat.beq pc 54 then some (.istore_n 2, 1, 0, 0) else none))) else (bif Nat.blt pc 57 then (bif Nat.blt pc 56 then (bif Nat.beq pc 55 then some (.iconst 1, 1, 0, 0) else none) else (bif Nat.beq pc 56 then some (.istore_n 3, 1, 0, 0) else none)) else (bif Nat.blt pc 58 then (bif Nat.beq pc 57 then some (.iload_n 3, 1, 0, 0) else none) else (bif Nat.beq pc 58 then some (.aload_n 0, 1, 0, 0) else none)))) else (bif Nat.blt pc 69 then (bif Nat.blt pc 65 then (bif Nat.blt pc 62 then (bif Nat.beq pc 59 then some (.getfield 101, 3, 6, 2) else none) else (bif Nat.beq pc 62 then some (.if_icmp .gt (157), 3, 219, 0) else none)) else (bif Nat.blt pc 66 then (bif Nat.beq pc 65 then some (.iload_n 2, 1, 0, 0) else none) else (bif Nat.beq pc 66 then some (.ifCond .ne (153), 3, 219, 0) else none))) else (bif Nat.blt pc 72 then (bif Nat.blt pc 70 then (bif Nat.beq pc 69 then some (.iconst 0, 1, 0, 0) else none) else (bif Nat.beq pc 70 then some (.istore 4, 2, 0, 0) else none)) else (bif Nat.blt pc 74 then (bif Nat.beq pc 72 then some (.iload 4, 2, 0, 0) else none) else (bif Nat.beq pc 74 then some (.aload_n 0, 1, 0, 0) else none))))) else (bif Nat.blt pc 90 then (bif Nat.blt pc 82 then (bif Nat.blt pc 78 then (bif Nat.beq pc 75 then some (.getfield 101, 3, 6, 2) else none) else (bif Nat.blt pc 81 then (bif Nat.beq pc 78 then some (.if_icmp .ge (135), 3, 213, 0) else none) else (bif Nat.beq pc 81 then some (.iconst 0, 1, 0, 0) else none))) else (bif Nat.blt pc 86 then (bif Nat.blt pc 84 then (bif Nat.beq pc 82 then some (.istore 5, 2, 0, 0) else none) else (bif Nat.beq pc 84 then some (.iload 5, 2, 0, 0) else none)) else (bif Nat.blt pc 87 then (bif Nat.beq pc 86 then some (.aload_n 0, 1, 0, 0) else none) else (bif Nat.beq pc 87 then some (.getfield 101, 3, 6, 2) else none)))) else (bif Nat.blt pc 97 then (bif Nat.blt pc 94 then (bif Nat.blt pc 93 then (bif Nat.beq pc 90 then some (.if_icmp .ge (117), 3, 207, 0) else none) else (bif Nat.beq pc 93 then some (.iconst 0, 1, 0, 0) else none)) else (bif Nat.blt pc 96 then (bif Nat.beq pc 94 then some (.istore 6, 2, 0, 0) else none) else (bif Nat.beq pc 96 then some (.iconst 0, 1, 0, 0) else none))) else (bif Nat.blt pc 101 then (bif Nat.blt pc 99 then (bif Nat.beq pc 97 then some (.istore 7, 2, 0, 0) else none) else (bif Nat.beq pc 99 then some (.iload 7, 2, 0, 0) else none)) else (bif Nat.blt pc 102 then (bif Nat.beq pc 101 then some (.aload_n 0, 1, 0, 0) else none) else (bif Nat.beq pc 102 then some (.getfield 101, 3, 6, 2) else none))))))) else (bif Nat.blt pc 162 then (bif Nat.blt pc 132 then (bif Nat.blt pc 121 then (bif Nat.blt pc 113 then (bif Nat.blt pc 108 then (bif Nat.beq pc 105 then some (.if_icmp .ge (57), 3, 162, 0) else none) else (bif Nat.blt pc 110 then (bif Nat.beq pc 108 then some (.iload 6, 2, 0, 0) else none) else (bif Nat.beq pc 110 then some (.ifCond .ne (52), 3, 162, 0) else none))) else (bif Nat.blt pc 117 then (bif Nat.blt pc 114 then (bif Nat.beq pc 113 then some (.aload_n 0, 1, 0, 0) else none) else (bif Nat.beq pc 114 then some (.getfield 57, 3, 6, 19) else none)) else (bif Nat.blt pc 120 then (bif Nat.beq pc 117 then some (.sipush 144, 3, 0, 0) else none) else (bif Nat.beq pc 120 then some (.iload_n 3, 1, 0, 0) else none)))) else (bif Nat.blt pc 126 then (bif Nat.blt pc 123 then (bif Nat.blt pc 122 then (bif Nat.beq pc 121 then some (.iconst 1, 1, 0, 0) else none) else (bif Nat.beq pc 122 then some (.isub, 1, 0, 0) else none)) else (bif Nat.blt pc 124 then (bif Nat.beq pc 123 then some (.imul, 1, 0, 0) else none) else (bif Nat.beq pc 124 then some (.bipush 12, 2, 0, 0) else none))) else (bif Nat.blt pc 129 then (bif Nat.blt pc 128 then (bif Nat.beq pc 126 then some (.iload 4, 2, 0, 0) else none) else (bif Nat.beq pc 128 then some (.imul, 1, 0, 0) else none)) else (bif Nat.blt pc 130 then (bif Nat.beq pc 129 then some (.iadd, 1, 0, 0) else none) else (bif Nat.beq pc 130 then some (.iload 7, 2, 0, 0) else none))))) else (bif Nat.blt pc 143 then (bif Nat.blt pc 137 then (bif Nat.blt pc 133 then (bif Nat.beq pc 132 then some (.iadd, 1, 0, 0) else none) else (bif Nat.blt pc 134 then (bif Nat.beq pc 133 then some (.baload, 1, 0, 0) else none) else (bif Nat.beq pc 134 then some (.ifCond .eq (19), 3, 153, 0) else none))) else (bif Nat.blt pc 139 then (bif Nat.blt pc 138 then (bif Nat.beq pc 137 then some (.aload_n 0, 1, 0, 0) else none) else (bif Nat.beq pc 138 then some (.iload_n 1, 1, 0, 0) else none)) else (bif Nat.blt pc 141 then (bif Nat.beq pc 139 then some (.iload 7, 2, 0, 0) else none) else (bif Nat.beq pc 141 then some (.iload 5, 2, 0, 0) else none)))) else (bif Nat.blt pc 153 then (bif Nat.blt pc 149 then (bif Nat.blt pc 146 then (bif Nat.beq pc 143 then some (.invokevirtual 146, 3, 72, 4) else none) else (bif Nat.beq pc 146 then some (.ifCond .eq (7), 3, 153, 0) else none)) else (bif Nat.blt pc 150 then (bif Nat.beq pc 149 then some (.iconst 1, 1, 0, 0) else none) else (bif Nat.beq pc 150 then some (.goto (4), 3, 154, 0) else none))) else (bif Nat.blt pc 156 then (bif Nat.blt pc 154 then (bif Nat.beq pc 153 then some (.iconst 0, 1, 0, 0) else none) else (bif Nat.beq pc 154 then some (.istore 6, 2, 0, 0) else none)) else (bif Nat.blt pc 159 then (bif Nat.beq pc 156 then some (.iinc 7 1, 3, 0, 0) else none) else (bif Nat.beq pc 159 then some (.goto (-60), 3, 99, 0) else none)))))) else (bif Nat.blt pc 188 then (bif Nat.blt pc 175 then (bif Nat.blt pc 169 then (bif Nat.blt pc 163 then (bif Nat.beq pc 162 then some (.aload_n 0, 1, 0, 0) else none) else (bif Nat.blt pc 166 then (bif Nat.beq pc 163 then some (.getfield 57, 3, 6, 19) else none) else (bif Nat.beq pc 166 then some (.sipush 144, 3, 0, 0) else none))) else (bif Nat.blt pc 171 then (bif Nat.blt pc 170 then (bif Nat.beq pc 169 then some (.iload_n 3, 1, 0, 0) else none) else (bif Nat.beq pc 170 then some (.imul, 1, 0, 0) else none)) else (bif Nat.blt pc 173 then (bif Nat.beq pc 171 then some (.bipush 12, 2, 0, 0) else none) else (bif Nat.beq pc 173 then some (.iload 4, 2, 0, 0) else none)))) else (bif Nat.blt pc 180 then (bif Nat.blt pc 177 then (bif Nat.blt pc 176 then (bif Nat.beq pc 175 then some (.imul, 1, 0, 0) else none) else (bif Nat.beq pc 176 then some (.iadd, 1, 0, 0) else none)) else (bif Nat.blt pc 179 then (bif Nat.beq pc 177 then some (.iload 5, 2, 0, 0) else none) else (bif Nat.beq pc 179 then some (.iadd, 1, 0, 0) else none))) else (bif Nat.blt pc 183 then (bif Nat.blt pc 182 then (bif Nat.beq pc 180 then some (.iload 6, 2, 0, 0) else none) else (bif Nat.beq pc 182 then some (.bastore, 1, 0, 0) else none)) else (bif Nat.blt pc 185 then (bif Nat.beq pc 183 then some (.iload 6, 2, 0, 0) else none) else (bif Nat.beq pc 185 then some (.ifCond .eq (14), 3, 199, 0) else none))))) else (bif Nat.blt pc 201 then (bif Nat.blt pc 195 then (bif Nat.blt pc 190 then (bif Nat.beq pc 188 then some (.iload 4, 2, 0, 0) else none) else (bif Nat.blt pc 192 then (bif Nat.beq pc 190 then some (.iload 5, 2, 0, 0) else none) else (bif Nat.beq pc 192 then some (.if_icmp .ne (7), 3, 199, 0) else none))) else (bif Nat.blt pc 199 then (bif Nat.blt pc 196 then (bif Nat.beq pc 195 then some (.iload_n 3, 1, 0, 0) else none) else (bif Nat.beq pc 196 then some (.goto (4), 3, 200, 0) else none)) else (bif Nat.blt pc 200 then (bif Nat.beq pc 199 then some (.iload_n 2, 1, 0, 0) else none) else (bif Nat.beq pc 200 then some (.istore_n 2, 1, 0, 0) else none)))) else (bif Nat.blt pc 213 then (bif Nat.blt pc 207 then (bif Nat.blt pc 204 then (bif Nat.beq pc 201 then some (.iinc 5 1, 3, 0, 0) else none) else (bif Nat.beq pc 204 then some (.goto (-120), 3, 84, 0) else none)) else (bif Nat.blt pc 210 then (bif Nat.beq pc 207 then some (.iinc 4 1, 3, 0, 0) else none) else (bif Nat.beq pc 210 then some (.goto (-138), 3, 72, 0) else none))) else (bif Nat.blt pc 219 then (bif Nat.blt pc 216 then (bif Nat.beq pc 213 then some (.iinc 3 1, 3, 0, 0) else none) else (bif Nat.beq pc 216 then some (.goto (-159), 3, 57, 0) else none)) else (bif Nat.blt pc 220 then (bif Nat.beq pc 219 then some (.iload_n 2, 1, 0, 0) else none) else (bif Nat.beq pc 220 then some (.ireturn, 1, 0, 0) else none)))))))) else none
theorem oxn_77 : ∀ pc, 221 ≤ pc → oxi_77 pc = none := fun pc h => by unfold oxi_77; rw [show Nat.blt pc 221 = false from ox_blt h]; rfl
theorem oxd_77 : ∀ pc e, oxi_77 pc = some e → decode prog_9_method_28_code pc = .ok (e.1, e.2.1) := ox_tab 221 oxn_77 (by decide +kernel)
theorem oxc_77 : ∀ pc e, oxi_77 pc = some e → ox_chk 6 pc e = true := ox_tab2 221 oxn_77 (by decide +kernel)
/-- OrderAxiomsModel.broken()I -/
def oxi_78 (pc : Nat) : Option (Instr × Nat × Nat × Nat) := bif Nat.blt pc 33 then (bif Nat.blt pc 15 then (bif Nat.blt pc 4 then (bif Nat.blt pc 2 then (bif Nat.blt pc 1 then (bif Nat.beq pc 0 then some (.iconst 0, 1, 0, 0) else none) else (bif Nat.beq pc 1 then some (.istore_n 1, 1, 0, 0) else none)) else (bif Nat.blt pc 3 then (bif Nat.beq pc 2 then some (.iload_n 1, 1, 0, 0) else none) else (bif Nat.beq pc 3 then some (.aload_n 0, 1, 0, 0) else none))) else (bif Nat.blt pc 10 then (bif Nat.blt pc 7 then (bif Nat.beq pc 4 then some (.getfield 116, 3, 6, 12) else none) else (bif Nat.beq pc 7 then some (.if_icmp .ge (24), 3, 31, 0) else none)) else (bif Nat.blt pc 11 then (bif Nat.beq pc 10 then some (.aload_n 0, 1, 0, 0) else none) else (bif Nat.blt pc 12 then (bif Nat.beq pc 11 then some (.aload_n 0, 1, 0, 0) else none) else (bif Nat.beq pc 12 then some (.getfield 39, 3, 6, 13) else none))))) else (bif Nat.blt pc 24 then (bif Nat.blt pc 17 then (bif Nat.blt pc 16 then (bif Nat.beq pc 15 then some (.iload_n 1, 1, 0, 0) else none) else (bif Nat.beq pc 16 then some (.iaload, 1, 0, 0) else none)) else (bif Nat.blt pc 20 then (bif Nat.beq pc 17 then some (.invokevirtual 164, 3, 77, 2) else none) else (bif Nat.blt pc 23 then (bif Nat.beq pc 20 then some (.ifCond .le (5), 3, 25, 0) else none) else (bif Nat.beq pc 23 then some (.iload_n 1, 1, 0, 0) else none)))) else (bif Nat.blt pc 28 then (bif Nat.blt pc 25 then (bif Nat.beq pc 24 then some (.ireturn, 1, 0, 0) else none) else (bif Nat.beq pc 25 then some (.iinc 1 1, 3, 0, 0) else none)) else (bif Nat.blt pc 31 then (bif Nat.beq pc 28 then some (.goto (-26), 3, 2, 0) else none) else (bif Nat.blt pc 32 then (bif Nat.beq pc 31 then some (.iconst (-1), 1, 0, 0) else none) else (bif Nat.beq pc 32 then some (.ireturn, 1, 0, 0) else none)))))) else none
theorem oxn_78 : ∀ pc, 33 ≤ pc → oxi_78 pc = none := fun pc h => by unfold oxi_78; rw [show Nat.blt pc 33 = false from ox_blt h]; rfl
theorem oxd_78 : ∀ pc e, oxi_78 pc = some e → decode prog_9_method_29_code pc = .ok (e.1, e.2.1) := ox_tab 33 oxn_78 (by decide +kernel)
theorem oxc_78 : ∀ pc e, oxi_78 pc = some e → ox_chk 6 pc e = true := ox_tab2 33 oxn_78 (by decide +kernel)
/-- OrderAxiomsModel.compare(I)I -/
def oxi_79 (pc : Nat) : Option (Instr × Nat × Nat × Nat) := bif Nat.blt pc 64 then (bif Nat.blt pc 31 then (bif Nat.blt pc 17 then (bif Nat.blt pc 7 then (bif Nat.blt pc 2 then (bif Nat.blt pc 1 then (bif Nat.beq pc 0 then some (.iconst 0, 1, 0, 0) else none) else (bif Nat.beq pc 1 then some (.istore_n 2, 1, 0, 0) else none)) else (bif Nat.blt pc 3 then (bif Nat.beq pc 2 then some (.iload_n 2, 1, 0, 0) else none) else (bif Nat.blt pc 4 then (bif Nat.beq pc 3 then some (.aload_n 0, 1, 0, 0) else none) else (bif Nat.beq pc 4 then some (.getfield 167, 3, 6, 23) else none)))) else (bif Nat.blt pc 11 then (bif Nat.blt pc 10 then (bif Nat.beq pc 7 then some (.if_icmp .ge (55), 3, 62, 0) else none) else (bif Nat.beq pc 10 then some (.aload_n 0, 1, 0, 0) else none)) else (bif Nat.blt pc 14 then (bif Nat.beq pc 11 then some (.getfield 64, 3, 6, 25) else none) else (bif Nat.blt pc 16 then (bif Nat.beq pc 14 then some (.bipush 12, 2, 0, 0) else none) else (bif Nat.beq pc 16 then some (.iload_n 1, 1, 0, 0) else none))))) else (bif Nat.blt pc 22 then (bif Nat.blt pc 19 then (bif Nat.blt pc 18 then (bif Nat.beq pc 17 then some (.imul, 1, 0, 0) else none) else (bif Nat.beq pc 18 then some (.iload_n 2, 1, 0, 0) else none)) else (bif Nat.blt pc 20 then (bif Nat.beq pc 19 then some (.iadd, 1, 0, 0) else none) else (bif Nat.blt pc 21 then (bif Nat.beq pc 20 then some (.iaload, 1, 0, 0) else none) else (bif Nat.beq pc 21 then some (.aload_n 0, 1, 0, 0) else none)))) else (bif Nat.blt pc 26 then (bif Nat.blt pc 25 then (bif Nat.beq pc 22 then some (.getfield 73, 3, 6, 28) else none) else (bif Nat.beq pc 25 then some (.iload_n 2, 1, 0, 0) else none)) else (bif Nat.blt pc 27 then (bif Nat.beq pc 26 then some (.iaload, 1, 0, 0) else none) else (bif Nat.blt pc 30 then (bif Nat.beq pc 27 then some (.if_icmp .eq (29), 3, 56, 0) else none) else (bif Nat.beq pc 30 then some (.aload_n 0, 1, 0, 0) else none)))))) else (bif Nat.blt pc 46 then (bif Nat.blt pc 39 then (bif Nat.blt pc 36 then (bif Nat.blt pc 34 then (bif Nat.beq pc 31 then some (.getfield 64, 3, 6, 25) else none) else (bif Nat.beq pc 34 then some (.bipush 12, 2, 0, 0) else none)) else (bif Nat.blt pc 37 then (bif Nat.beq pc 36 then some (.iload_n 1, 1, 0, 0) else none) else (bif Nat.blt pc 38 then (bif Nat.beq pc 37 then some (.imul, 1, 0, 0) else none) else (bif Nat.beq pc 38 then some (.iload_n 2, 1, 0, 0) else none)))) else (bif Nat.blt pc 41 then (bif Nat.blt pc 40 then (bif Nat.beq pc 39 then some (.iadd, 1, 0, 0) else none) else (bif Nat.beq pc 40 then some (.iaload, 1, 0, 0) else none)) else (bif Nat.blt pc 42 then (bif Nat.beq pc 41 then some (.aload_n 0, 1, 0, 0) else none) else (bif Nat.blt pc 45 then (bif Nat.beq pc 42 then some (.getfield 73, 3, 6, 28) else none) else (bif Nat.beq pc 45 then some (.iload_n 2, 1, 0, 0) else none))))) else (bif Nat.blt pc 55 then (bif Nat.blt pc 50 then (bif Nat.blt pc 47 then (bif Nat.beq pc 46 then some (.iaload, 1, 0, 0) else none) else (bif Nat.beq pc 47 then some (.if_icmp .ge (7), 3, 54, 0) else none)) else (bif Nat.blt pc 51 then (bif Nat.beq pc 50 then some (.iconst (-1), 1, 0, 0) else none) else (bif Nat.blt pc 54 then (bif Nat.beq pc 51 then some (.goto (4), 3, 55, 0) else none) else (bif Nat.beq pc 54 then some (.iconst 1, 1, 0, 0) else none)))) else (bif Nat.blt pc 59 then (bif Nat.blt pc 56 then (bif Nat.beq pc 55 then some (.ireturn, 1, 0, 0) else none) else (bif Nat.beq pc 56 then some (.iinc 2 1, 3, 0, 0) else none)) else (bif Nat.blt pc 62 then (bif Nat.beq pc 59 then some (.goto (-57), 3, 2, 0) else none) else (bif Nat.blt pc 63 then (bif Nat.beq pc 62 then some (.iconst 0, 1, 0, 0) else none) else (bif Nat.beq pc 63 then some (.ireturn, 1, 0, 0) else none))))))) else none
theorem oxn_79 : ∀ pc, 64 ≤ pc → oxi_79 pc = none := fun pc h => by unfold oxi_79; rw [show Nat.blt pc 64 = false from ox_blt h]; rfl
theorem oxd_79 : ∀ pc e, oxi_79 pc = some e → decode prog_9_method_30_code pc = .ok (e.1, e.2.1) := ox_tab 64 oxn_79 (by decide +kernel)
theorem oxc_79 : ∀ pc e, oxi_79 pc = some e → ox_chk 6 pc e = true := ox_tab2 64 oxn_79 (by decide +kernel)
/-- OrderAxiomsModel.take(I)V -/
def oxi_80 (pc : Nat) : Option (Instr × Nat × Nat × Nat) := bif Nat.blt pc 245 then (bif Nat.blt pc 123 then (bif Nat.blt pc 59 then (bif Nat.blt pc 29 then (bif Nat.blt pc 14 then (bif Nat.blt pc 4 then (bif Nat.blt pc 2 then (bif Nat.blt pc 1 then (bif Nat.beq pc 0 then some (.iconst 0, 1, 0, 0) else none) else (bif Nat.beq pc 1 then some (.istore_n 2, 1, 0, 0) else none)) else (bif Nat.blt pc 3 then (bif Nat.beq pc 2 then some (.iload_n 2, 1, 0, 0) else none) else (bif Nat.beq pc 3 then some (.aload_n 0, 1, 0, 0) else none))) else (bif Nat.blt pc 10 then (bif Nat.blt pc 7 then (bif Nat.beq pc 4 then some (.getfield 167, 3, 6, 23) else none) else (bif Nat.beq pc 7 then some (.if_icmp .ge (39), 3, 46, 0) else none)) else (bif Nat.blt pc 11 then (bif Nat.beq pc 10 then some (.aload_n 0, 1, 0, 0) else none) else (bif Nat.beq pc 11 then some (.getfield 73, 3, 6, 28) else none)))) else (bif Nat.blt pc 20 then (bif Nat.blt pc 16 then (bif Nat.blt pc 15 then (bif Nat.beq pc 14 then some (.iload_n 2, 1, 0, 0) else none) else (bif Nat.beq pc 15 then some (.aload_n 0, 1, 0, 0) else none)) else (bif Nat.blt pc 19 then (bif Nat.beq pc 16 then some (.getfield 42, 3, 6, 14) else none) else (bif Nat.beq pc 19 then some (.iload_n 2, 1, 0, 0) else none))) else (bif Nat.blt pc 24 then (bif Nat.blt pc 21 then (bif Nat.beq pc 20 then some (.iaload, 1, 0, 0) else none) else (bif Nat.beq pc 21 then some (.ifCond .ge (7), 3, 28, 0) else none)) else (bif Nat.blt pc 25 then (bif Nat.beq pc 24 then some (.iconst 0, 1, 0, 0) else none) else (bif Nat.blt pc 28 then (bif Nat.beq pc 25 then some (.goto (14), 3, 39, 0) else none) else (bif Nat.beq pc 28 then some (.aload_n 0, 1, 0, 0) else none)))))) else (bif Nat.blt pc 46 then (bif Nat.blt pc 37 then (bif Nat.blt pc 33 then (bif Nat.blt pc 32 then (bif Nat.beq pc 29 then some (.getfield 19, 3, 6, 6) else none) else (bif Nat.beq pc 32 then some (.aload_n 0, 1, 0, 0) else none)) else (bif Nat.blt pc 36 then (bif Nat.beq pc 33 then some (.getfield 42, 3, 6, 14) else none) else (bif Nat.beq pc 36 then some (.iload_n 2, 1, 0, 0) else none))) else (bif Nat.blt pc 39 then (bif Nat.blt pc 38 then (bif Nat.beq pc 37 then some (.iaload, 1, 0, 0) else none) else (bif Nat.beq pc 38 then some (.iaload, 1, 0, 0) else none)) else (bif Nat.blt pc 40 then (bif Nat.beq pc 39 then some (.iastore, 1, 0, 0) else none) else (bif Nat.blt pc 43 then (bif Nat.beq pc 40 then some (.iinc 2 1, 3, 0, 0) else none) else (bif Nat.beq pc 43 then some (.goto (-41), 3, 2, 0) else none))))) else (bif Nat.blt pc 52 then (bif Nat.blt pc 48 then (bif Nat.blt pc 47 then (bif Nat.beq pc 46 then some (.iconst 0, 1, 0, 0) else none) else (bif Nat.beq pc 47 then some (.istore_n 2, 1, 0, 0) else none)) else (bif Nat.blt pc 49 then (bif Nat.beq pc 48 then some (.aload_n 0, 1, 0, 0) else none) else (bif Nat.beq pc 49 then some (.getfield 170, 3, 6, 20) else none))) else (bif Nat.blt pc 54 then (bif Nat.blt pc 53 then (bif Nat.beq pc 52 then some (.istore_n 3, 1, 0, 0) else none) else (bif Nat.beq pc 53 then some (.iload_n 2, 1, 0, 0) else none)) else (bif Nat.blt pc 55 then (bif Nat.beq pc 54 then some (.iload_n 3, 1, 0, 0) else none) else (bif Nat.blt pc 58 then (bif Nat.beq pc 55 then some (.if_icmp .ge (38), 3, 93, 0) else none) else (bif Nat.beq pc 58 then some (.iload_n 2, 1, 0, 0) else none))))))) else (bif Nat.blt pc 89 then (bif Nat.blt pc 72 then (bif Nat.blt pc 63 then (bif Nat.blt pc 61 then (bif Nat.blt pc 60 then (bif Nat.beq pc 59 then some (.iload_n 3, 1, 0, 0) else none) else (bif Nat.beq pc 60 then some (.iadd, 1, 0, 0) else none)) else (bif Nat.blt pc 62 then (bif Nat.beq pc 61 then some (.iconst 2, 1, 0, 0) else none) else (bif Nat.beq pc 62 then some (.idiv, 1, 0, 0) else none))) else (bif Nat.blt pc 66 then (bif Nat.blt pc 65 then (bif Nat.beq pc 63 then some (.istore 4, 2, 0, 0) else none) else (bif Nat.beq pc 65 then some (.aload_n 0, 1, 0, 0) else none)) else (bif Nat.blt pc 67 then (bif Nat.beq pc 66 then some (.aload_n 0, 1, 0, 0) else none) else (bif Nat.blt pc 70 then (bif Nat.beq pc 67 then some (.getfield 60, 3, 6, 24) else none) else (bif Nat.beq pc 70 then some (.iload 4, 2, 0, 0) else none))))) else (bif Nat.blt pc 81 then (bif Nat.blt pc 76 then (bif Nat.blt pc 73 then (bif Nat.beq pc 72 then some (.iaload, 1, 0, 0) else none) else (bif Nat.beq pc 73 then some (.invokevirtual 173, 3, 79, 2) else none)) else (bif Nat.blt pc 79 then (bif Nat.beq pc 76 then some (.ifCond .ge (11), 3, 87, 0) else none) else (bif Nat.beq pc 79 then some (.iload 4, 2, 0, 0) else none))) else (bif Nat.blt pc 83 then (bif Nat.blt pc 82 then (bif Nat.beq pc 81 then some (.iconst 1, 1, 0, 0) else none) else (bif Nat.beq pc 82 then some (.iadd, 1, 0, 0) else none)) else (bif Nat.blt pc 84 then (bif Nat.beq pc 83 then some (.istore_n 2, 1, 0, 0) else none) else (bif Nat.blt pc 87 then (bif Nat.beq pc 84 then some (.goto (6), 3, 90, 0) else none) else (bif Nat.beq pc 87 then some (.iload 4, 2, 0, 0) else none)))))) else (bif Nat.blt pc 106 then (bif Nat.blt pc 95 then (bif Nat.blt pc 93 then (bif Nat.blt pc 90 then (bif Nat.beq pc 89 then some (.istore_n 3, 1, 0, 0) else none) else (bif Nat.beq pc 90 then some (.goto (-37), 3, 53, 0) else none)) else (bif Nat.blt pc 94 then (bif Nat.beq pc 93 then some (.iload_n 2, 1, 0, 0) else none) else (bif Nat.beq pc 94 then some (.aload_n 0, 1, 0, 0) else none))) else (bif Nat.blt pc 101 then (bif Nat.blt pc 98 then (bif Nat.beq pc 95 then some (.getfield 170, 3, 6, 20) else none) else (bif Nat.beq pc 98 then some (.if_icmp .ge (32), 3, 130, 0) else none)) else (bif Nat.blt pc 102 then (bif Nat.beq pc 101 then some (.aload_n 0, 1, 0, 0) else none) else (bif Nat.blt pc 103 then (bif Nat.beq pc 102 then some (.aload_n 0, 1, 0, 0) else none) else (bif Nat.beq pc 103 then some (.getfield 60, 3, 6, 24) else none))))) else (bif Nat.blt pc 114 then (bif Nat.blt pc 108 then (bif Nat.blt pc 107 then (bif Nat.beq pc 106 then some (.iload_n 2, 1, 0, 0) else none) else (bif Nat.beq pc 107 then some (.iaload, 1, 0, 0) else none)) else (bif Nat.blt pc 111 then (bif Nat.beq pc 108 then some (.invokevirtual 173, 3, 79, 2) else none) else (bif Nat.beq pc 111 then some (.ifCond .ne (19), 3, 130, 0) else none))) else (bif Nat.blt pc 118 then (bif Nat.blt pc 115 then (bif Nat.beq pc 114 then some (.aload_n 0, 1, 0, 0) else none) else (bif Nat.beq pc 115 then some (.getfield 67, 3, 6, 26) else none)) else (bif Nat.blt pc 119 then (bif Nat.beq pc 118 then some (.aload_n 0, 1, 0, 0) else none) else (bif Nat.blt pc 122 then (bif Nat.beq pc 119 then some (.getfield 60, 3, 6, 24) else none) else (bif Nat.beq pc 122 then some (.iload_n 2, 1, 0, 0) else none)))))))) else (bif Nat.blt pc 180 then (bif Nat.blt pc 149 then (bif Nat.blt pc 131 then (bif Nat.blt pc 127 then (bif Nat.blt pc 125 then (bif Nat.blt pc 124 then (bif Nat.beq pc 123 then some (.iaload, 1, 0, 0) else none) else (bif Nat.beq pc 124 then some (.dup2, 1, 0, 0) else none)) else (bif Nat.blt pc 126 then (bif Nat.beq pc 125 then some (.iaload, 1, 0, 0) else none) else (bif Nat.beq pc 126 then some (.iconst 1, 1, 0, 0) else none))) else (bif Nat.blt pc 129 then (bif Nat.blt pc 128 then (bif Nat.beq pc 127 then some (.iadd, 1, 0, 0) else none) else (bif Nat.beq pc 128 then some (.iastore, 1, 0, 0) else none)) else (bif Nat.blt pc 130 then (bif Nat.beq pc 129 then some (.return_, 1, 0, 0) else none) else (bif Nat.beq pc 130 then some (.aload_n 0, 1, 0, 0) else none)))) else (bif Nat.blt pc 139 then (bif Nat.blt pc 136 then (bif Nat.blt pc 134 then (bif Nat.beq pc 131 then some (.getfield 170, 3, 6, 20) else none) else (bif Nat.beq pc 134 then some (.istore 4, 2, 0, 0) else none)) else (bif Nat.blt pc 138 then (bif Nat.beq pc 136 then some (.iload 4, 2, 0, 0) else none) else (bif Nat.beq pc 138 then some (.iload_n 2, 1, 0, 0) else none))) else (bif Nat.blt pc 143 then (bif Nat.blt pc 142 then (bif Nat.beq pc 139 then some (.if_icmp .le (25), 3, 164, 0) else none) else (bif Nat.beq pc 142 then some (.aload_n 0, 1, 0, 0) else none)) else (bif Nat.blt pc 146 then (bif Nat.beq pc 143 then some (.getfield 60, 3, 6, 24) else none) else (bif Nat.blt pc 148 then (bif Nat.beq pc 146 then some (.iload 4, 2, 0, 0) else none) else (bif Nat.beq pc 148 then some (.aload_n 0, 1, 0, 0) else none)))))) else (bif Nat.blt pc 165 then (bif Nat.blt pc 156 then (bif Nat.blt pc 154 then (bif Nat.blt pc 152 then (bif Nat.beq pc 149 then some (.getfield 60, 3, 6, 24) else none) else (bif Nat.beq pc 152 then some (.iload 4, 2, 0, 0) else none)) else (bif Nat.blt pc 155 then (bif Nat.beq pc 154 then some (.iconst 1, 1, 0, 0) else none) else (bif Nat.beq pc 155 then some (.isub, 1, 0, 0) else none))) else (bif Nat.blt pc 158 then (bif Nat.blt pc 157 then (bif Nat.beq pc 156 then some (.iaload, 1, 0, 0) else none) else (bif Nat.beq pc 157 then some (.iastore, 1, 0, 0) else none)) else (bif Nat.blt pc 161 then (bif Nat.beq pc 158 then some (.iinc 4 (-1), 3, 0, 0) else none) else (bif Nat.blt pc 164 then (bif Nat.beq pc 161 then some (.goto (-25), 3, 136, 0) else none) else (bif Nat.beq pc 164 then some (.aload_n 0, 1, 0, 0) else none))))) else (bif Nat.blt pc 173 then (bif Nat.blt pc 169 then (bif Nat.blt pc 168 then (bif Nat.beq pc 165 then some (.getfield 60, 3, 6, 24) else none) else (bif Nat.beq pc 168 then some (.iload_n 2, 1, 0, 0) else none)) else (bif Nat.blt pc 170 then (bif Nat.beq pc 169 then some (.aload_n 0, 1, 0, 0) else none) else (bif Nat.beq pc 170 then some (.getfield 170, 3, 6, 20) else none))) else (bif Nat.blt pc 175 then (bif Nat.blt pc 174 then (bif Nat.beq pc 173 then some (.iastore, 1, 0, 0) else none) else (bif Nat.beq pc 174 then some (.iconst 0, 1, 0, 0) else none)) else (bif Nat.blt pc 177 then (bif Nat.beq pc 175 then some (.istore 4, 2, 0, 0) else none) else (bif Nat.blt pc 179 then (bif Nat.beq pc 177 then some (.iload 4, 2, 0, 0) else none) else (bif Nat.beq pc 179 then some (.aload_n 0, 1, 0, 0) else none))))))) else (bif Nat.blt pc 215 then (bif Nat.blt pc 199 then (bif Nat.blt pc 190 then (bif Nat.blt pc 186 then (bif Nat.blt pc 183 then (bif Nat.beq pc 180 then some (.getfield 167, 3, 6, 23) else none) else (bif Nat.beq pc 183 then some (.if_icmp .ge (31), 3, 214, 0) else none)) else (bif Nat.blt pc 187 then (bif Nat.beq pc 186 then some (.aload_n 0, 1, 0, 0) else none) else (bif Nat.beq pc 187 then some (.getfield 64, 3, 6, 25) else none))) else (bif Nat.blt pc 193 then (bif Nat.blt pc 192 then (bif Nat.beq pc 190 then some (.bipush 12, 2, 0, 0) else none) else (bif Nat.beq pc 192 then some (.aload_n 0, 1, 0, 0) else none)) else (bif Nat.blt pc 196 then (bif Nat.beq pc 193 then some (.getfield 170, 3, 6, 20) else none) else (bif Nat.blt pc 197 then (bif Nat.beq pc 196 then some (.imul, 1, 0, 0) else none) else (bif Nat.beq pc 197 then some (.iload 4, 2, 0, 0) else none))))) else (bif Nat.blt pc 206 then (bif Nat.blt pc 201 then (bif Nat.blt pc 200 then (bif Nat.beq pc 199 then some (.iadd, 1, 0, 0) else none) else (bif Nat.beq pc 200 then some (.aload_n 0, 1, 0, 0) else none)) else (bif Nat.blt pc 204 then (bif Nat.beq pc 201 then some (.getfield 73, 3, 6, 28) else none) else (bif Nat.beq pc 204 then some (.iload 4, 2, 0, 0) else none))) else (bif Nat.blt pc 208 then (bif Nat.blt pc 207 then (bif Nat.beq pc 206 then some (.iaload, 1, 0, 0) else none) else (bif Nat.beq pc 207 then some (.iastore, 1, 0, 0) else none)) else (bif Nat.blt pc 211 then (bif Nat.beq pc 208 then some (.iinc 4 1, 3, 0, 0) else none) else (bif Nat.blt pc 214 then (bif Nat.beq pc 211 then some (.goto (-34), 3, 177, 0) else none) else (bif Nat.beq pc 214 then some (.aload_n 0, 1, 0, 0) else none)))))) else (bif Nat.blt pc 232 then (bif Nat.blt pc 223 then (bif Nat.blt pc 219 then (bif Nat.blt pc 218 then (bif Nat.beq pc 215 then some (.getfield 67, 3, 6, 26) else none) else (bif Nat.beq pc 218 then some (.aload_n 0, 1, 0, 0) else none)) else (bif Nat.blt pc 222 then (bif Nat.beq pc 219 then some (.getfield 170, 3, 6, 20) else none) else (bif Nat.beq pc 222 then some (.iconst 1, 1, 0, 0) else none))) else (bif Nat.blt pc 225 then (bif Nat.blt pc 224 then (bif Nat.beq pc 223 then some (.iastore, 1, 0, 0) else none) else (bif Nat.beq pc 224 then some (.aload_n 0, 1, 0, 0) else none)) else (bif Nat.blt pc 228 then (bif Nat.beq pc 225 then some (.getfield 70, 3, 6, 27) else none) else (bif Nat.blt pc 229 then (bif Nat.beq pc 228 then some (.aload_n 0, 1, 0, 0) else none) else (bif Nat.beq pc 229 then some (.getfield 170, 3, 6, 20) else none))))) else (bif Nat.blt pc 236 then (bif Nat.blt pc 234 then (bif Nat.blt pc 233 then (bif Nat.beq pc 232 then some (.iload_n 1, 1, 0, 0) else none) else (bif Nat.beq pc 233 then some (.iastore, 1, 0, 0) else none)) else (bif Nat.blt pc 235 then (bif Nat.beq pc 234 then some (.aload_n 0, 1, 0, 0) else none) else (bif Nat.beq pc 235 then some (.dup, 1, 0, 0) else none))) else (bif Nat.blt pc 240 then (bif Nat.blt pc 239 then (bif Nat.beq pc 236 then some (.getfield 170, 3, 6, 20) else none) else (bif Nat.beq pc 239 then some (.iconst 1, 1, 0, 0) else none)) else (bif Nat.blt pc 241 then (bif Nat.beq pc 240 then some (.iadd, 1, 0, 0) else none) else (bif Nat.blt pc 244 then (bif Nat.beq pc 241 then some (.putfield 170, 3, 6, 20) else none) else (bif Nat.beq pc 244 then some (.return_, 1, 0, 0) else none))))))))) else none
theorem oxn_80 : ∀ pc, 245 ≤ pc → oxi_80 pc = none := fun pc h => by unfold oxi_80; rw [show Nat.blt pc 245 = false from ox_blt h]; rfl
theorem oxd_80 : ∀ pc e, oxi_80 pc = some e → decode prog_9_method_31_code pc = .ok (e.1, e.2.1) := ox_tab 245 oxn_80 (by decide +kernel)
theorem oxc_80 : ∀ pc e, oxi_80 pc = some e → ox_chk 6 pc e = true := ox_tab2 245 oxn_80 (by decide +kernel)
/-- OrderAxiomsModel.run()I -/
def oxi_81 (pc : Nat) : Option (Instr × Nat × Nat × Nat) := bif Nat.blt pc 102 then (bif Nat.blt pc 50 then (bif Nat.blt pc 26 then (bif Nat.blt pc 13 then (bif Nat.blt pc 5 then (bif Nat.blt pc 1 then (bif Nat.beq pc 0 then some (.aload_n 0, 1, 0, 0) else none) else (bif Nat.blt pc 4 then (bif Nat.beq pc 1 then some (.invokevirtual 176, 3, 65, 1) else none) else (bif Nat.beq pc 4 then some (.istore_n 1, 1, 0, 0) else none))) else (bif Nat.blt pc 7 then (bif Nat.blt pc 6 then (bif Nat.beq pc 5 then some (.aload_n 0, 1, 0, 0) else none) else (bif Nat.beq pc 6 then some (.iload_n 1, 1, 0, 0) else none)) else (bif Nat.blt pc 10 then (bif Nat.beq pc 7 then some (.sipush 5000, 3, 0, 0) else none) else (bif Nat.beq pc 10 then some (.if_icmp .le (7), 3, 17, 0) else none)))) else (bif Nat.blt pc 18 then (bif Nat.blt pc 14 then (bif Nat.beq pc 13 then some (.iconst 1, 1, 0, 0) else none) else (bif Nat.blt pc 17 then (bif Nat.beq pc 14 then some (.goto (4), 3, 18, 0) else none) else (bif Nat.beq pc 17 then some (.iconst 0, 1, 0, 0) else none))) else (bif Nat.blt pc 22 then (bif Nat.blt pc 19 then (bif Nat.beq pc 18 then some (.iconst 0, 1, 0, 0) else none) else (bif Nat.beq pc 19 then some (.invokevirtual 97, 3, 52, 3) else none)) else (bif Nat.blt pc 25 then (bif Nat.beq pc 22 then some (.ifCond .eq (5), 3, 27, 0) else none) else (bif Nat.beq pc 25 then some (.iconst 0, 1, 0, 0) else none))))) else (bif Nat.blt pc 37 then (bif Nat.blt pc 29 then (bif Nat.blt pc 27 then (bif Nat.beq pc 26 then some (.ireturn, 1, 0, 0) else none) else (bif Nat.blt pc 28 then (bif Nat.beq pc 27 then some (.aload_n 0, 1, 0, 0) else none) else (bif Nat.beq pc 28 then some (.iconst 0, 1, 0, 0) else none))) else (bif Nat.blt pc 33 then (bif Nat.blt pc 32 then (bif Nat.beq pc 29 then some (.putfield 170, 3, 6, 20) else none) else (bif Nat.beq pc 32 then some (.aload_n 0, 1, 0, 0) else none)) else (bif Nat.blt pc 34 then (bif Nat.beq pc 33 then some (.iload_n 1, 1, 0, 0) else none) else (bif Nat.beq pc 34 then some (.putfield 179, 3, 6, 21) else none)))) else (bif Nat.blt pc 42 then (bif Nat.blt pc 38 then (bif Nat.beq pc 37 then some (.aload_n 0, 1, 0, 0) else none) else (bif Nat.blt pc 39 then (bif Nat.beq pc 38 then some (.iconst 0, 1, 0, 0) else none) else (bif Nat.beq pc 39 then some (.putfield 182, 3, 6, 22) else none))) else (bif Nat.blt pc 44 then (bif Nat.blt pc 43 then (bif Nat.beq pc 42 then some (.aload_n 0, 1, 0, 0) else none) else (bif Nat.beq pc 43 then some (.aload_n 0, 1, 0, 0) else none)) else (bif Nat.blt pc 47 then (bif Nat.beq pc 44 then some (.invokevirtual 132, 3, 63, 1) else none) else (bif Nat.beq pc 47 then some (.putfield 167, 3, 6, 23) else none)))))) else (bif Nat.blt pc 76 then (bif Nat.blt pc 59 then (bif Nat.blt pc 53 then (bif Nat.blt pc 51 then (bif Nat.beq pc 50 then some (.iconst 0, 1, 0, 0) else none) else (bif Nat.blt pc 52 then (bif Nat.beq pc 51 then some (.istore_n 2, 1, 0, 0) else none) else (bif Nat.beq pc 52 then some (.iload_n 2, 1, 0, 0) else none))) else (bif Nat.blt pc 57 then (bif Nat.blt pc 54 then (bif Nat.beq pc 53 then some (.iload_n 1, 1, 0, 0) else none) else (bif Nat.beq pc 54 then some (.if_icmp .ge (43), 3, 97, 0) else none)) else (bif Nat.blt pc 58 then (bif Nat.beq pc 57 then some (.aload_n 0, 1, 0, 0) else none) else (bif Nat.beq pc 58 then some (.iload_n 2, 1, 0, 0) else none)))) else (bif Nat.blt pc 66 then (bif Nat.blt pc 62 then (bif Nat.beq pc 59 then some (.invokevirtual 185, 3, 68, 2) else none) else (bif Nat.blt pc 63 then (bif Nat.beq pc 62 then some (.aload_n 0, 1, 0, 0) else none) else (bif Nat.beq pc 63 then some (.invokevirtual 188, 3, 76, 1) else none))) else (bif Nat.blt pc 70 then (bif Nat.blt pc 67 then (bif Nat.beq pc 66 then some (.aload_n 0, 1, 0, 0) else none) else (bif Nat.beq pc 67 then some (.invokevirtual 191, 3, 78, 1) else none)) else (bif Nat.blt pc 73 then (bif Nat.beq pc 70 then some (.ifCond .lt (6), 3, 76, 0) else none) else (bif Nat.beq pc 73 then some (.goto (18), 3, 91, 0) else none))))) else (bif Nat.blt pc 87 then (bif Nat.blt pc 81 then (bif Nat.blt pc 77 then (bif Nat.beq pc 76 then some (.aload_n 0, 1, 0, 0) else none) else (bif Nat.blt pc 78 then (bif Nat.beq pc 77 then some (.dup, 1, 0, 0) else none) else (bif Nat.beq pc 78 then some (.getfield 182, 3, 6, 22) else none))) else (bif Nat.blt pc 83 then (bif Nat.blt pc 82 then (bif Nat.beq pc 81 then some (.iconst 1, 1, 0, 0) else none) else (bif Nat.beq pc 82 then some (.iadd, 1, 0, 0) else none)) else (bif Nat.blt pc 86 then (bif Nat.beq pc 83 then some (.putfield 182, 3, 6, 22) else none) else (bif Nat.beq pc 86 then some (.aload_n 0, 1, 0, 0) else none)))) else (bif Nat.blt pc 94 then (bif Nat.blt pc 88 then (bif Nat.beq pc 87 then some (.iload_n 2, 1, 0, 0) else none) else (bif Nat.blt pc 91 then (bif Nat.beq pc 88 then some (.invokevirtual 194, 3, 80, 2) else none) else (bif Nat.beq pc 91 then some (.iinc 2 1, 3, 0, 0) else none))) else (bif Nat.blt pc 98 then (bif Nat.blt pc 97 then (bif Nat.beq pc 94 then some (.goto (-42), 3, 52, 0) else none) else (bif Nat.beq pc 97 then some (.aload_n 0, 1, 0, 0) else none)) else (bif Nat.blt pc 101 then (bif Nat.beq pc 98 then some (.getfield 170, 3, 6, 20) else none) else (bif Nat.beq pc 101 then some (.ireturn, 1, 0, 0) else none))))))) else none
theorem oxn_81 : ∀ pc, 102 ≤ pc → oxi_81 pc = none := fun pc h => by unfold oxi_81; rw [show Nat.blt pc 102 = false from ox_blt h]; rfl
theorem oxd_81 : ∀ pc e, oxi_81 pc = some e → decode prog_9_method_32_code pc = .ok (e.1, e.2.1) := ox_tab 102 oxn_81 (by decide +kernel)
theorem oxc_81 : ∀ pc e, oxi_81 pc = some e → ox_chk 6 pc e = true := ox_tab2 102 oxn_81 (by decide +kernel)
/-- OrderAxiomsModel.outcome(II)I -/
def oxi_82 (pc : Nat) : Option (Instr × Nat × Nat × Nat) := bif Nat.blt pc 54 then (bif Nat.blt pc 29 then (bif Nat.blt pc 13 then (bif Nat.blt pc 3 then (bif Nat.blt pc 1 then (bif Nat.beq pc 0 then some (.aload_n 0, 1, 0, 0) else none) else (bif Nat.blt pc 2 then (bif Nat.beq pc 1 then some (.iload_n 1, 1, 0, 0) else none) else (bif Nat.beq pc 2 then some (.aload_n 0, 1, 0, 0) else none))) else (bif Nat.blt pc 9 then (bif Nat.blt pc 6 then (bif Nat.beq pc 3 then some (.getfield 170, 3, 6, 20) else none) else (bif Nat.beq pc 6 then some (.invokestatic 108, 3, 57, 2) else none)) else (bif Nat.blt pc 12 then (bif Nat.beq pc 9 then some (.ifCond .eq (14), 3, 23, 0) else none) else (bif Nat.beq pc 12 then some (.iload_n 2, 1, 0, 0) else none)))) else (bif Nat.blt pc 23 then (bif Nat.blt pc 17 then (bif Nat.blt pc 14 then (bif Nat.beq pc 13 then some (.aload_n 0, 1, 0, 0) else none) else (bif Nat.beq pc 14 then some (.getfield 167, 3, 6, 23) else none)) else (bif Nat.blt pc 20 then (bif Nat.beq pc 17 then some (.invokestatic 108, 3, 57, 2) else none) else (bif Nat.beq pc 20 then some (.ifCond .ne (7), 3, 27, 0) else none))) else (bif Nat.blt pc 27 then (bif Nat.blt pc 24 then (bif Nat.beq pc 23 then some (.iconst 1, 1, 0, 0) else none) else (bif Nat.beq pc 24 then some (.goto (4), 3, 28, 0) else none)) else (bif Nat.blt pc 28 then (bif Nat.beq pc 27 then some (.iconst 0, 1, 0, 0) else none) else (bif Nat.beq pc 28 then some (.iconst 0, 1, 0, 0) else none))))) else (bif Nat.blt pc 44 then (bif Nat.blt pc 37 then (bif Nat.blt pc 35 then (bif Nat.blt pc 32 then (bif Nat.beq pc 29 then some (.invokevirtual 97, 3, 52, 3) else none) else (bif Nat.beq pc 32 then some (.ifCond .eq (5), 3, 37, 0) else none)) else (bif Nat.blt pc 36 then (bif Nat.beq pc 35 then some (.iconst 0, 1, 0, 0) else none) else (bif Nat.beq pc 36 then some (.ireturn, 1, 0, 0) else none))) else (bif Nat.blt pc 41 then (bif Nat.blt pc 38 then (bif Nat.beq pc 37 then some (.aload_n 0, 1, 0, 0) else none) else (bif Nat.beq pc 38 then some (.getfield 64, 3, 6, 25) else none)) else (bif Nat.blt pc 43 then (bif Nat.beq pc 41 then some (.bipush 12, 2, 0, 0) else none) else (bif Nat.beq pc 43 then some (.aload_n 0, 1, 0, 0) else none)))) else (bif Nat.blt pc 50 then (bif Nat.blt pc 48 then (bif Nat.blt pc 47 then (bif Nat.beq pc 44 then some (.getfield 60, 3, 6, 24) else none) else (bif Nat.beq pc 47 then some (.iload_n 1, 1, 0, 0) else none)) else (bif Nat.blt pc 49 then (bif Nat.beq pc 48 then some (.iaload, 1, 0, 0) else none) else (bif Nat.beq pc 49 then some (.imul, 1, 0, 0) else none))) else (bif Nat.blt pc 52 then (bif Nat.blt pc 51 then (bif Nat.beq pc 50 then some (.iload_n 2, 1, 0, 0) else none) else (bif Nat.beq pc 51 then some (.iadd, 1, 0, 0) else none)) else (bif Nat.blt pc 53 then (bif Nat.beq pc 52 then some (.iaload, 1, 0, 0) else none) else (bif Nat.beq pc 53 then some (.ireturn, 1, 0, 0) else none)))))) else none
theorem oxn_82 : ∀ pc, 54 ≤ pc → oxi_82 pc = none := fun pc h => by unfold oxi_82; rw [show Nat.blt pc 54 = false from ox_blt h]; rfl
theorem oxd_82 : ∀ pc e, oxi_82 pc = some e → decode prog_9_method_33_code pc = .ok (e.1, e.2.1) := ox_tab 54 oxn_82 (by decide +kernel)
theorem oxc_82 : ∀ pc e, oxi_82 pc = some e → ox_chk 6 pc e = true := ox_tab2 54 oxn_82 (by decide +kernel)
/-- OrderAxiomsModel.witness(II)I -/
def oxi_83 (pc : Nat) : Option (Instr × Nat × Nat × Nat) := bif Nat.blt pc 64 then (bif Nat.blt pc 34 then (bif Nat.blt pc 17 then (bif Nat.blt pc 6 then (bif Nat.blt pc 2 then (bif Nat.blt pc 1 then (bif Nat.beq pc 0 then some (.aload_n 0, 1, 0, 0) else none) else (bif Nat.beq pc 1 then some (.iload_n 1, 1, 0, 0) else none)) else (bif Nat.blt pc 3 then (bif Nat.beq pc 2 then some (.aload_n 0, 1, 0, 0) else none) else (bif Nat.beq pc 3 then some (.getfield 170, 3, 6, 20) else none))) else (bif Nat.blt pc 12 then (bif Nat.blt pc 9 then (bif Nat.beq pc 6 then some (.invokestatic 108, 3, 57, 2) else none) else (bif Nat.beq pc 9 then some (.ifCond .eq (11), 3, 20, 0) else none)) else (bif Nat.blt pc 13 then (bif Nat.beq pc 12 then some (.iload_n 2, 1, 0, 0) else none) else (bif Nat.blt pc 14 then (bif Nat.beq pc 13 then some (.iconst 2, 1, 0, 0) else none) else (bif Nat.beq pc 14 then some (.invokestatic 108, 3, 57, 2) else none))))) else (bif Nat.blt pc 25 then (bif Nat.blt pc 21 then (bif Nat.blt pc 20 then (bif Nat.beq pc 17 then some (.ifCond .ne (7), 3, 24, 0) else none) else (bif Nat.beq pc 20 then some (.iconst 1, 1, 0, 0) else none)) else (bif Nat.blt pc 24 then (bif Nat.beq pc 21 then some (.goto (4), 3, 25, 0) else none) else (bif Nat.beq pc 24 then some (.iconst 0, 1, 0, 0) else none))) else (bif Nat.blt pc 29 then (bif Nat.blt pc 26 then (bif Nat.beq pc 25 then some (.iconst 0, 1, 0, 0) else none) else (bif Nat.beq pc 26 then some (.invokevirtual 97, 3, 52, 3) else none)) else (bif Nat.blt pc 32 then (bif Nat.beq pc 29 then some (.ifCond .eq (5), 3, 34, 0) else none) else (bif Nat.blt pc 33 then (bif Nat.beq pc 32 then some (.iconst 0, 1, 0, 0) else none) else (bif Nat.beq pc 33 then some (.ireturn, 1, 0, 0) else none)))))) else (bif Nat.blt pc 49 then (bif Nat.blt pc 42 then (bif Nat.blt pc 38 then (bif Nat.blt pc 35 then (bif Nat.beq pc 34 then some (.iload_n 2, 1, 0, 0) else none) else (bif Nat.beq pc 35 then some (.ifCond .ne (17), 3, 52, 0) else none)) else (bif Nat.blt pc 39 then (bif Nat.beq pc 38 then some (.aload_n 0, 1, 0, 0) else none) else (bif Nat.beq pc 39 then some (.getfield 67, 3, 6, 26) else none))) else (bif Nat.blt pc 46 then (bif Nat.blt pc 43 then (bif Nat.beq pc 42 then some (.aload_n 0, 1, 0, 0) else none) else (bif Nat.beq pc 43 then some (.getfield 60, 3, 6, 24) else none)) else (bif Nat.blt pc 47 then (bif Nat.beq pc 46 then some (.iload_n 1, 1, 0, 0) else none) else (bif Nat.blt pc 48 then (bif Nat.beq pc 47 then some (.iaload, 1, 0, 0) else none) else (bif Nat.beq pc 48 then some (.iaload, 1, 0, 0) else none))))) else (bif Nat.blt pc 57 then (bif Nat.blt pc 53 then (bif Nat.blt pc 52 then (bif Nat.beq pc 49 then some (.goto (14), 3, 63, 0) else none) else (bif Nat.beq pc 52 then some (.aload_n 0, 1, 0, 0) else none)) else (bif Nat.blt pc 56 then (bif Nat.beq pc 53 then some (.getfield 70, 3, 6, 27) else none) else (bif Nat.beq pc 56 then some (.aload_n 0, 1, 0, 0) else none))) else (bif Nat.blt pc 61 then (bif Nat.blt pc 60 then (bif Nat.beq pc 57 then some (.getfield 60, 3, 6, 24) else none) else (bif Nat.beq pc 60 then some (.iload_n 1, 1, 0, 0) else none)) else (bif Nat.blt pc 62 then (bif Nat.beq pc 61 then some (.iaload, 1, 0, 0) else none) else (bif Nat.blt pc 63 then (bif Nat.beq pc 62 then some (.iaload, 1, 0, 0) else none) else (bif Nat.beq pc 63 then some (.ireturn, 1, 0, 0) else none))))))) else none
theorem oxn_83 : ∀ pc, 64 ≤ pc → oxi_83 pc = none := fun pc h => by unfold oxi_83; rw [show Nat.blt pc 64 = false from ox_blt h]; rfl
theorem oxd_83 : ∀ pc e, oxi_83 pc = some e → decode prog_9_method_34_code pc = .ok (e.1, e.2.1) := ox_tab 64 oxn_83 (by decide +kernel)
theorem oxc_83 : ∀ pc e, oxi_83 pc = some e → ox_chk 6 pc e = true := ox_tab2 64 oxn_83 (by decide +kernel)
/-- OrderAxiomsModel.walk(I)V -/
def oxi_84 (pc : Nat) : Option (Instr × Nat × Nat × Nat) := bif Nat.blt pc 112 then (bif Nat.blt pc 54 then (bif Nat.blt pc 25 then (bif Nat.blt pc 14 then (bif Nat.blt pc 6 then (bif Nat.blt pc 2 then (bif Nat.blt pc 1 then (bif Nat.beq pc 0 then some (.iconst 0, 1, 0, 0) else none) else (bif Nat.beq pc 1 then some (.istore_n 2, 1, 0, 0) else none)) else (bif Nat.blt pc 3 then (bif Nat.beq pc 2 then some (.aload_n 0, 1, 0, 0) else none) else (bif Nat.beq pc 3 then some (.getfield 57, 3, 6, 19) else none))) else (bif Nat.blt pc 10 then (bif Nat.blt pc 9 then (bif Nat.beq pc 6 then some (.sipush 144, 3, 0, 0) else none) else (bif Nat.beq pc 9 then some (.aload_n 0, 1, 0, 0) else none)) else (bif Nat.blt pc 13 then (bif Nat.beq pc 10 then some (.getfield 197, 3, 6, 32) else none) else (bif Nat.beq pc 13 then some (.imul, 1, 0, 0) else none)))) else (bif Nat.blt pc 19 then (bif Nat.blt pc 17 then (bif Nat.blt pc 16 then (bif Nat.beq pc 14 then some (.bipush 12, 2, 0, 0) else none) else (bif Nat.beq pc 16 then some (.iload_n 2, 1, 0, 0) else none)) else (bif Nat.blt pc 18 then (bif Nat.beq pc 17 then some (.imul, 1, 0, 0) else none) else (bif Nat.beq pc 18 then some (.iadd, 1, 0, 0) else none))) else (bif Nat.blt pc 21 then (bif Nat.blt pc 20 then (bif Nat.beq pc 19 then some (.iload_n 2, 1, 0, 0) else none) else (bif Nat.beq pc 20 then some (.iadd, 1, 0, 0) else none)) else (bif Nat.blt pc 22 then (bif Nat.beq pc 21 then some (.baload, 1, 0, 0) else none) else (bif Nat.beq pc 22 then some (.ifCond .ne (9), 3, 31, 0) else none))))) else (bif Nat.blt pc 39 then (bif Nat.blt pc 33 then (bif Nat.blt pc 31 then (bif Nat.blt pc 28 then (bif Nat.beq pc 25 then some (.iinc 2 1, 3, 0, 0) else none) else (bif Nat.beq pc 28 then some (.goto (-26), 3, 2, 0) else none)) else (bif Nat.blt pc 32 then (bif Nat.beq pc 31 then some (.iload_n 2, 1, 0, 0) else none) else (bif Nat.beq pc 32 then some (.istore_n 3, 1, 0, 0) else none))) else (bif Nat.blt pc 36 then (bif Nat.blt pc 34 then (bif Nat.beq pc 33 then some (.iconst 0, 1, 0, 0) else none) else (bif Nat.beq pc 34 then some (.istore 4, 2, 0, 0) else none)) else (bif Nat.blt pc 38 then (bif Nat.beq pc 36 then some (.iload 4, 2, 0, 0) else none) else (bif Nat.beq pc 38 then some (.aload_n 0, 1, 0, 0) else none)))) else (bif Nat.blt pc 49 then (bif Nat.blt pc 45 then (bif Nat.blt pc 42 then (bif Nat.beq pc 39 then some (.getfield 197, 3, 6, 32) else none) else (bif Nat.beq pc 42 then some (.if_icmp .ge (69), 3, 111, 0) else none)) else (bif Nat.blt pc 46 then (bif Nat.beq pc 45 then some (.aload_n 0, 1, 0, 0) else none) else (bif Nat.beq pc 46 then some (.getfield 85, 3, 6, 36) else none))) else (bif Nat.blt pc 52 then (bif Nat.blt pc 51 then (bif Nat.beq pc 49 then some (.iload 4, 2, 0, 0) else none) else (bif Nat.beq pc 51 then some (.iload_n 2, 1, 0, 0) else none)) else (bif Nat.blt pc 53 then (bif Nat.beq pc 52 then some (.iastore, 1, 0, 0) else none) else (bif Nat.beq pc 53 then some (.iconst 0, 1, 0, 0) else none)))))) else (bif Nat.blt pc 83 then (bif Nat.blt pc 68 then (bif Nat.blt pc 59 then (bif Nat.blt pc 57 then (bif Nat.blt pc 56 then (bif Nat.beq pc 54 then some (.istore 5, 2, 0, 0) else none) else (bif Nat.beq pc 56 then some (.aload_n 0, 1, 0, 0) else none)) else (bif Nat.blt pc 58 then (bif Nat.beq pc 57 then some (.iload_n 1, 1, 0, 0) else none) else (bif Nat.beq pc 58 then some (.iload_n 2, 1, 0, 0) else none))) else (bif Nat.blt pc 64 then (bif Nat.blt pc 61 then (bif Nat.beq pc 59 then some (.iload 5, 2, 0, 0) else none) else (bif Nat.beq pc 61 then some (.invokevirtual 146, 3, 72, 4) else none)) else (bif Nat.blt pc 67 then (bif Nat.beq pc 64 then some (.ifCond .eq (32), 3, 96, 0) else none) else (bif Nat.beq pc 67 then some (.aload_n 0, 1, 0, 0) else none)))) else (bif Nat.blt pc 78 then (bif Nat.blt pc 74 then (bif Nat.blt pc 71 then (bif Nat.beq pc 68 then some (.getfield 57, 3, 6, 19) else none) else (bif Nat.beq pc 71 then some (.sipush 144, 3, 0, 0) else none)) else (bif Nat.blt pc 75 then (bif Nat.beq pc 74 then some (.aload_n 0, 1, 0, 0) else none) else (bif Nat.beq pc 75 then some (.getfield 197, 3, 6, 32) else none))) else (bif Nat.blt pc 80 then (bif Nat.blt pc 79 then (bif Nat.beq pc 78 then some (.iconst 1, 1, 0, 0) else none) else (bif Nat.beq pc 79 then some (.isub, 1, 0, 0) else none)) else (bif Nat.blt pc 82 then (bif Nat.beq pc 80 then some (.iload 4, 2, 0, 0) else none) else (bif Nat.beq pc 82 then some (.isub, 1, 0, 0) else none))))) else (bif Nat.blt pc 93 then (bif Nat.blt pc 89 then (bif Nat.blt pc 86 then (bif Nat.blt pc 84 then (bif Nat.beq pc 83 then some (.imul, 1, 0, 0) else none) else (bif Nat.beq pc 84 then some (.bipush 12, 2, 0, 0) else none)) else (bif Nat.blt pc 88 then (bif Nat.beq pc 86 then some (.iload 5, 2, 0, 0) else none) else (bif Nat.beq pc 88 then some (.imul, 1, 0, 0) else none))) else (bif Nat.blt pc 91 then (bif Nat.blt pc 90 then (bif Nat.beq pc 89 then some (.iadd, 1, 0, 0) else none) else (bif Nat.beq pc 90 then some (.iload_n 3, 1, 0, 0) else none)) else (bif Nat.blt pc 92 then (bif Nat.beq pc 91 then some (.iadd, 1, 0, 0) else none) else (bif Nat.beq pc 92 then some (.baload, 1, 0, 0) else none)))) else (bif Nat.blt pc 104 then (bif Nat.blt pc 99 then (bif Nat.blt pc 96 then (bif Nat.beq pc 93 then some (.ifCond .ne (9), 3, 102, 0) else none) else (bif Nat.beq pc 96 then some (.iinc 5 1, 3, 0, 0) else none)) else (bif Nat.blt pc 102 then (bif Nat.beq pc 99 then some (.goto (-43), 3, 56, 0) else none) else (bif Nat.beq pc 102 then some (.iload 5, 2, 0, 0) else none))) else (bif Nat.blt pc 108 then (bif Nat.blt pc 105 then (bif Nat.beq pc 104 then some (.istore_n 2, 1, 0, 0) else none) else (bif Nat.beq pc 105 then some (.iinc 4 1, 3, 0, 0) else none)) else (bif Nat.blt pc 111 then (bif Nat.beq pc 108 then some (.goto (-72), 3, 36, 0) else none) else (bif Nat.beq pc 111 then some (.return_, 1, 0, 0) else none))))))) else none
theorem oxn_84 : ∀ pc, 112 ≤ pc → oxi_84 pc = none := fun pc h => by unfold oxi_84; rw [show Nat.blt pc 112 = false from ox_blt h]; rfl
theorem oxd_84 : ∀ pc e, oxi_84 pc = some e → decode prog_9_method_35_code pc = .ok (e.1, e.2.1) := ox_tab 112 oxn_84 (by decide +kernel)
theorem oxc_84 : ∀ pc e, oxi_84 pc = some e → ox_chk 6 pc e = true := ox_tab2 112 oxn_84 (by decide +kernel)
/-- OrderAxiomsModel.look(I)I -/
def oxi_85 (pc : Nat) : Option (Instr × Nat × Nat × Nat) := bif Nat.blt pc 243 then (bif Nat.blt pc 116 then (bif Nat.blt pc 56 then (bif Nat.blt pc 28 then (bif Nat.blt pc 14 then (bif Nat.blt pc 6 then (bif Nat.blt pc 4 then (bif Nat.blt pc 1 then (bif Nat.beq pc 0 then some (.aload_n 0, 1, 0, 0) else none) else (bif Nat.beq pc 1 then some (.invokevirtual 176, 3, 65, 1) else none)) else (bif Nat.blt pc 5 then (bif Nat.beq pc 4 then some (.istore_n 2, 1, 0, 0) else none) else (bif Nat.beq pc 5 then some (.iload_n 2, 1, 0, 0) else none))) else (bif Nat.blt pc 12 then (bif Nat.blt pc 9 then (bif Nat.beq pc 6 then some (.sipush 5000, 3, 0, 0) else none) else (bif Nat.beq pc 9 then some (.if_icmp .le (10), 3, 19, 0) else none)) else (bif Nat.blt pc 13 then (bif Nat.beq pc 12 then some (.aload_n 0, 1, 0, 0) else none) else (bif Nat.beq pc 13 then some (.iconst 2, 1, 0, 0) else none)))) else (bif Nat.blt pc 20 then (bif Nat.blt pc 18 then (bif Nat.blt pc 17 then (bif Nat.beq pc 14 then some (.putfield 91, 3, 6, 0) else none) else (bif Nat.beq pc 17 then some (.iconst 0, 1, 0, 0) else none)) else (bif Nat.blt pc 19 then (bif Nat.beq pc 18 then some (.ireturn, 1, 0, 0) else none) else (bif Nat.beq pc 19 then some (.aload_n 0, 1, 0, 0) else none))) else (bif Nat.blt pc 22 then (bif Nat.blt pc 21 then (bif Nat.beq pc 20 then some (.iload_n 1, 1, 0, 0) else none) else (bif Nat.beq pc 21 then some (.iload_n 2, 1, 0, 0) else none)) else (bif Nat.blt pc 25 then (bif Nat.beq pc 22 then some (.invokestatic 108, 3, 57, 2) else none) else (bif Nat.beq pc 25 then some (.ifCond .ne (7), 3, 32, 0) else none))))) else (bif Nat.blt pc 42 then (bif Nat.blt pc 34 then (bif Nat.blt pc 32 then (bif Nat.blt pc 29 then (bif Nat.beq pc 28 then some (.iconst 1, 1, 0, 0) else none) else (bif Nat.beq pc 29 then some (.goto (4), 3, 33, 0) else none)) else (bif Nat.blt pc 33 then (bif Nat.beq pc 32 then some (.iconst 0, 1, 0, 0) else none) else (bif Nat.beq pc 33 then some (.iconst 0, 1, 0, 0) else none))) else (bif Nat.blt pc 40 then (bif Nat.blt pc 37 then (bif Nat.beq pc 34 then some (.invokevirtual 97, 3, 52, 3) else none) else (bif Nat.beq pc 37 then some (.ifCond .eq (5), 3, 42, 0) else none)) else (bif Nat.blt pc 41 then (bif Nat.beq pc 40 then some (.iconst 0, 1, 0, 0) else none) else (bif Nat.beq pc 41 then some (.ireturn, 1, 0, 0) else none)))) else (bif Nat.blt pc 48 then (bif Nat.blt pc 44 then (bif Nat.blt pc 43 then (bif Nat.beq pc 42 then some (.aload_n 0, 1, 0, 0) else none) else (bif Nat.beq pc 43 then some (.iload_n 1, 1, 0, 0) else none)) else (bif Nat.blt pc 47 then (bif Nat.beq pc 44 then some (.invokevirtual 185, 3, 68, 2) else none) else (bif Nat.beq pc 47 then some (.aload_n 0, 1, 0, 0) else none))) else (bif Nat.blt pc 52 then (bif Nat.blt pc 51 then (bif Nat.beq pc 48 then some (.invokevirtual 188, 3, 76, 1) else none) else (bif Nat.beq pc 51 then some (.aload_n 0, 1, 0, 0) else none)) else (bif Nat.blt pc 55 then (bif Nat.beq pc 52 then some (.invokevirtual 191, 3, 78, 1) else none) else (bif Nat.beq pc 55 then some (.istore_n 3, 1, 0, 0) else none)))))) else (bif Nat.blt pc 84 then (bif Nat.blt pc 70 then (bif Nat.blt pc 62 then (bif Nat.blt pc 58 then (bif Nat.blt pc 57 then (bif Nat.beq pc 56 then some (.aload_n 0, 1, 0, 0) else none) else (bif Nat.beq pc 57 then some (.iload_n 3, 1, 0, 0) else none)) else (bif Nat.blt pc 61 then (bif Nat.beq pc 58 then some (.ifCond .ge (7), 3, 65, 0) else none) else (bif Nat.beq pc 61 then some (.iconst 0, 1, 0, 0) else none))) else (bif Nat.blt pc 66 then (bif Nat.blt pc 65 then (bif Nat.beq pc 62 then some (.goto (13), 3, 75, 0) else none) else (bif Nat.beq pc 65 then some (.aload_n 0, 1, 0, 0) else none)) else (bif Nat.blt pc 67 then (bif Nat.beq pc 66 then some (.aload_n 0, 1, 0, 0) else none) else (bif Nat.beq pc 67 then some (.getfield 39, 3, 6, 13) else none)))) else (bif Nat.blt pc 78 then (bif Nat.blt pc 72 then (bif Nat.blt pc 71 then (bif Nat.beq pc 70 then some (.iload_n 3, 1, 0, 0) else none) else (bif Nat.beq pc 71 then some (.iaload, 1, 0, 0) else none)) else (bif Nat.blt pc 75 then (bif Nat.beq pc 72 then some (.invokevirtual 164, 3, 77, 2) else none) else (bif Nat.beq pc 75 then some (.putfield 197, 3, 6, 32) else none))) else (bif Nat.blt pc 82 then (bif Nat.blt pc 79 then (bif Nat.beq pc 78 then some (.iload_n 3, 1, 0, 0) else none) else (bif Nat.beq pc 79 then some (.ifCond .lt (13), 3, 92, 0) else none)) else (bif Nat.blt pc 83 then (bif Nat.beq pc 82 then some (.aload_n 0, 1, 0, 0) else none) else (bif Nat.beq pc 83 then some (.aload_n 0, 1, 0, 0) else none))))) else (bif Nat.blt pc 100 then (bif Nat.blt pc 92 then (bif Nat.blt pc 88 then (bif Nat.blt pc 87 then (bif Nat.beq pc 84 then some (.getfield 39, 3, 6, 13) else none) else (bif Nat.beq pc 87 then some (.iload_n 3, 1, 0, 0) else none)) else (bif Nat.blt pc 89 then (bif Nat.beq pc 88 then some (.iaload, 1, 0, 0) else none) else (bif Nat.beq pc 89 then some (.invokevirtual 200, 3, 84, 2) else none))) else (bif Nat.blt pc 94 then (bif Nat.blt pc 93 then (bif Nat.beq pc 92 then some (.aload_n 0, 1, 0, 0) else none) else (bif Nat.beq pc 93 then some (.aload_n 0, 1, 0, 0) else none)) else (bif Nat.blt pc 97 then (bif Nat.beq pc 94 then some (.getfield 101, 3, 6, 2) else none) else (bif Nat.beq pc 97 then some (.putfield 203, 3, 6, 29) else none)))) else (bif Nat.blt pc 108 then (bif Nat.blt pc 102 then (bif Nat.blt pc 101 then (bif Nat.beq pc 100 then some (.aload_n 0, 1, 0, 0) else none) else (bif Nat.beq pc 101 then some (.aload_n 0, 1, 0, 0) else none)) else (bif Nat.blt pc 105 then (bif Nat.beq pc 102 then some (.invokevirtual 132, 3, 63, 1) else none) else (bif Nat.beq pc 105 then some (.putfield 206, 3, 6, 30) else none))) else (bif Nat.blt pc 110 then (bif Nat.blt pc 109 then (bif Nat.beq pc 108 then some (.aload_n 0, 1, 0, 0) else none) else (bif Nat.beq pc 109 then some (.aload_n 0, 1, 0, 0) else none)) else (bif Nat.blt pc 113 then (bif Nat.beq pc 110 then some (.getfield 26, 3, 6, 8) else none) else (bif Nat.beq pc 113 then some (.putfield 209, 3, 6, 31) else none))))))) else (bif Nat.blt pc 179 then (bif Nat.blt pc 147 then (bif Nat.blt pc 132 then (bif Nat.blt pc 123 then (bif Nat.blt pc 119 then (bif Nat.blt pc 117 then (bif Nat.beq pc 116 then some (.iconst 0, 1, 0, 0) else none) else (bif Nat.beq pc 117 then some (.istore 4, 2, 0, 0) else none)) else (bif Nat.blt pc 121 then (bif Nat.beq pc 119 then some (.iload 4, 2, 0, 0) else none) else (bif Nat.beq pc 121 then some (.bipush 12, 2, 0, 0) else none))) else (bif Nat.blt pc 127 then (bif Nat.blt pc 126 then (bif Nat.beq pc 123 then some (.if_icmp .ge (23), 3, 146, 0) else none) else (bif Nat.beq pc 126 then some (.aload_n 0, 1, 0, 0) else none)) else (bif Nat.blt pc 130 then (bif Nat.beq pc 127 then some (.getfield 76, 3, 6, 33) else none) else (bif Nat.beq pc 130 then some (.iload 4, 2, 0, 0) else none)))) else (bif Nat.blt pc 139 then (bif Nat.blt pc 136 then (bif Nat.blt pc 133 then (bif Nat.beq pc 132 then some (.aload_n 0, 1, 0, 0) else none) else (bif Nat.beq pc 133 then some (.getfield 42, 3, 6, 14) else none)) else (bif Nat.blt pc 138 then (bif Nat.beq pc 136 then some (.iload 4, 2, 0, 0) else none) else (bif Nat.beq pc 138 then some (.iaload, 1, 0, 0) else none))) else (bif Nat.blt pc 143 then (bif Nat.blt pc 140 then (bif Nat.beq pc 139 then some (.iastore, 1, 0, 0) else none) else (bif Nat.beq pc 140 then some (.iinc 4 1, 3, 0, 0) else none)) else (bif Nat.blt pc 146 then (bif Nat.beq pc 143 then some (.goto (-24), 3, 119, 0) else none) else (bif Nat.beq pc 146 then some (.iconst 0, 1, 0, 0) else none))))) else (bif Nat.blt pc 163 then (bif Nat.blt pc 156 then (bif Nat.blt pc 151 then (bif Nat.blt pc 149 then (bif Nat.beq pc 147 then some (.istore 4, 2, 0, 0) else none) else (bif Nat.beq pc 149 then some (.iload 4, 2, 0, 0) else none)) else (bif Nat.blt pc 153 then (bif Nat.beq pc 151 then some (.bipush 48, 2, 0, 0) else none) else (bif Nat.beq pc 153 then some (.if_icmp .ge (23), 3, 176, 0) else none))) else (bif Nat.blt pc 160 then (bif Nat.blt pc 157 then (bif Nat.beq pc 156 then some (.aload_n 0, 1, 0, 0) else none) else (bif Nat.beq pc 157 then some (.getfield 79, 3, 6, 34) else none)) else (bif Nat.blt pc 162 then (bif Nat.beq pc 160 then some (.iload 4, 2, 0, 0) else none) else (bif Nat.beq pc 162 then some (.aload_n 0, 1, 0, 0) else none)))) else (bif Nat.blt pc 170 then (bif Nat.blt pc 168 then (bif Nat.blt pc 166 then (bif Nat.beq pc 163 then some (.getfield 45, 3, 6, 15) else none) else (bif Nat.beq pc 166 then some (.iload 4, 2, 0, 0) else none)) else (bif Nat.blt pc 169 then (bif Nat.beq pc 168 then some (.iaload, 1, 0, 0) else none) else (bif Nat.beq pc 169 then some (.iastore, 1, 0, 0) else none))) else (bif Nat.blt pc 176 then (bif Nat.blt pc 173 then (bif Nat.beq pc 170 then some (.iinc 4 1, 3, 0, 0) else none) else (bif Nat.beq pc 173 then some (.goto (-24), 3, 149, 0) else none)) else (bif Nat.blt pc 177 then (bif Nat.beq pc 176 then some (.iconst 0, 1, 0, 0) else none) else (bif Nat.beq pc 177 then some (.istore 4, 2, 0, 0) else none)))))) else (bif Nat.blt pc 210 then (bif Nat.blt pc 195 then (bif Nat.blt pc 186 then (bif Nat.blt pc 182 then (bif Nat.blt pc 181 then (bif Nat.beq pc 179 then some (.iload 4, 2, 0, 0) else none) else (bif Nat.beq pc 181 then some (.iconst 4, 1, 0, 0) else none)) else (bif Nat.blt pc 185 then (bif Nat.beq pc 182 then some (.if_icmp .ge (23), 3, 205, 0) else none) else (bif Nat.beq pc 185 then some (.aload_n 0, 1, 0, 0) else none))) else (bif Nat.blt pc 191 then (bif Nat.blt pc 189 then (bif Nat.beq pc 186 then some (.getfield 82, 3, 6, 35) else none) else (bif Nat.beq pc 189 then some (.iload 4, 2, 0, 0) else none)) else (bif Nat.blt pc 192 then (bif Nat.beq pc 191 then some (.aload_n 0, 1, 0, 0) else none) else (bif Nat.beq pc 192 then some (.getfield 48, 3, 6, 16) else none)))) else (bif Nat.blt pc 202 then (bif Nat.blt pc 198 then (bif Nat.blt pc 197 then (bif Nat.beq pc 195 then some (.iload 4, 2, 0, 0) else none) else (bif Nat.beq pc 197 then some (.iaload, 1, 0, 0) else none)) else (bif Nat.blt pc 199 then (bif Nat.beq pc 198 then some (.iastore, 1, 0, 0) else none) else (bif Nat.beq pc 199 then some (.iinc 4 1, 3, 0, 0) else none))) else (bif Nat.blt pc 206 then (bif Nat.blt pc 205 then (bif Nat.beq pc 202 then some (.goto (-23), 3, 179, 0) else none) else (bif Nat.beq pc 205 then some (.iconst 0, 1, 0, 0) else none)) else (bif Nat.blt pc 208 then (bif Nat.beq pc 206 then some (.istore 4, 2, 0, 0) else none) else (bif Nat.beq pc 208 then some (.iload 4, 2, 0, 0) else none))))) else (bif Nat.blt pc 227 then (bif Nat.blt pc 218 then (bif Nat.blt pc 214 then (bif Nat.blt pc 213 then (bif Nat.beq pc 210 then some (.sipush 144, 3, 0, 0) else none) else (bif Nat.beq pc 213 then some (.aload_n 0, 1, 0, 0) else none)) else (bif Nat.blt pc 217 then (bif Nat.beq pc 214 then some (.getfield 26, 3, 6, 8) else none) else (bif Nat.beq pc 217 then some (.imul, 1, 0, 0) else none))) else (bif Nat.blt pc 222 then (bif Nat.blt pc 221 then (bif Nat.beq pc 218 then some (.if_icmp .ge (23), 3, 241, 0) else none) else (bif Nat.beq pc 221 then some (.aload_n 0, 1, 0, 0) else none)) else (bif Nat.blt pc 225 then (bif Nat.beq pc 222 then some (.getfield 88, 3, 6, 37) else none) else (bif Nat.beq pc 225 then some (.iload 4, 2, 0, 0) else none)))) else (bif Nat.blt pc 234 then (bif Nat.blt pc 231 then (bif Nat.blt pc 228 then (bif Nat.beq pc 227 then some (.aload_n 0, 1, 0, 0) else none) else (bif Nat.beq pc 228 then some (.getfield 54, 3, 6, 18) else none)) else (bif Nat.blt pc 233 then (bif Nat.beq pc 231 then some (.iload 4, 2, 0, 0) else none) else (bif Nat.beq pc 233 then some (.baload, 1, 0, 0) else none))) else (bif Nat.blt pc 238 then (bif Nat.blt pc 235 then (bif Nat.beq pc 234 then some (.bastore, 1, 0, 0) else none) else (bif Nat.beq pc 235 then some (.iinc 4 1, 3, 0, 0) else none)) else (bif Nat.blt pc 241 then (bif Nat.beq pc 238 then some (.goto (-30), 3, 208, 0) else none) else (bif Nat.blt pc 242 then (bif Nat.beq pc 241 then some (.iload_n 3, 1, 0, 0) else none) else (bif Nat.beq pc 242 then some (.ireturn, 1, 0, 0) else none))))))))) else none
theorem oxn_85 : ∀ pc, 243 ≤ pc → oxi_85 pc = none := fun pc h => by unfold oxi_85; rw [show Nat.blt pc 243 = false from ox_blt h]; rfl
theorem oxd_85 : ∀ pc e, oxi_85 pc = some e → decode prog_9_method_36_code pc = .ok (e.1, e.2.1) := ox_tab 243 oxn_85 (by decide +kernel)
theorem oxc_85 : ∀ pc e, oxi_85 pc = some e → ox_chk 6 pc e = true := ox_tab2 243 oxn_85 (by decide +kernel)
/-- OrderAxiomsModel.source(I)I -/
def oxi_86 (pc : Nat) : Option (Instr × Nat × Nat × Nat) := bif Nat.blt pc 35 then (bif Nat.blt pc 17 then (bif Nat.blt pc 6 then (bif Nat.blt pc 2 then (bif Nat.blt pc 1 then (bif Nat.beq pc 0 then some (.aload_n 0, 1, 0, 0) else none) else (bif Nat.beq pc 1 then some (.iload_n 1, 1, 0, 0) else none)) else (bif Nat.blt pc 3 then (bif Nat.beq pc 2 then some (.aload_n 0, 1, 0, 0) else none) else (bif Nat.beq pc 3 then some (.getfield 206, 3, 6, 30) else none))) else (bif Nat.blt pc 12 then (bif Nat.blt pc 9 then (bif Nat.beq pc 6 then some (.invokestatic 108, 3, 57, 2) else none) else (bif Nat.beq pc 9 then some (.ifCond .ne (7), 3, 16, 0) else none)) else (bif Nat.blt pc 13 then (bif Nat.beq pc 12 then some (.iconst 1, 1, 0, 0) else none) else (bif Nat.blt pc 16 then (bif Nat.beq pc 13 then some (.goto (4), 3, 17, 0) else none) else (bif Nat.beq pc 16 then some (.iconst 0, 1, 0, 0) else none))))) else (bif Nat.blt pc 28 then (bif Nat.blt pc 21 then (bif Nat.blt pc 18 then (bif Nat.beq pc 17 then some (.iconst 0, 1, 0, 0) else none) else (bif Nat.beq pc 18 then some (.invokevirtual 97, 3, 52, 3) else none)) else (bif Nat.blt pc 24 then (bif Nat.beq pc 21 then some (.ifCond .eq (7), 3, 28, 0) else none) else (bif Nat.blt pc 25 then (bif Nat.beq pc 24 then some (.iconst 0, 1, 0, 0) else none) else (bif Nat.beq pc 25 then some (.goto (9), 3, 34, 0) else none)))) else (bif Nat.blt pc 32 then (bif Nat.blt pc 29 then (bif Nat.beq pc 28 then some (.aload_n 0, 1, 0, 0) else none) else (bif Nat.beq pc 29 then some (.getfield 76, 3, 6, 33) else none)) else (bif Nat.blt pc 33 then (bif Nat.beq pc 32 then some (.iload_n 1, 1, 0, 0) else none) else (bif Nat.blt pc 34 then (bif Nat.beq pc 33 then some (.iaload, 1, 0, 0) else none) else (bif Nat.beq pc 34 then some (.ireturn, 1, 0, 0) else none)))))) else none
theorem oxn_86 : ∀ pc, 35 ≤ pc → oxi_86 pc = none := fun pc h => by unfold oxi_86; rw [show Nat.blt pc 35 = false from ox_blt h]; rfl
theorem oxd_86 : ∀ pc e, oxi_86 pc = some e → decode prog_9_method_37_code pc = .ok (e.1, e.2.1) := ox_tab 35 oxn_86 (by decide +kernel)
theorem oxc_86 : ∀ pc e, oxi_86 pc = some e → ox_chk 6 pc e = true := ox_tab2 35 oxn_86 (by decide +kernel)
/-- OrderAxiomsModel.order(II)I -/
def oxi_87 (pc : Nat) : Option (Instr × Nat × Nat × Nat) := bif Nat.blt pc 60 then (bif Nat.blt pc 31 then (bif Nat.blt pc 12 then (bif Nat.blt pc 6 then (bif Nat.blt pc 2 then (bif Nat.blt pc 1 then (bif Nat.beq pc 0 then some (.aload_n 0, 1, 0, 0) else none) else (bif Nat.beq pc 1 then some (.iload_n 1, 1, 0, 0) else none)) else (bif Nat.blt pc 3 then (bif Nat.beq pc 2 then some (.iconst 4, 1, 0, 0) else none) else (bif Nat.beq pc 3 then some (.invokestatic 108, 3, 57, 2) else none))) else (bif Nat.blt pc 10 then (bif Nat.blt pc 9 then (bif Nat.beq pc 6 then some (.ifCond .eq (28), 3, 34, 0) else none) else (bif Nat.beq pc 9 then some (.iload_n 2, 1, 0, 0) else none)) else (bif Nat.blt pc 11 then (bif Nat.beq pc 10 then some (.iload_n 1, 1, 0, 0) else none) else (bif Nat.beq pc 11 then some (.iconst 4, 1, 0, 0) else none)))) else (bif Nat.blt pc 22 then (bif Nat.blt pc 18 then (bif Nat.blt pc 15 then (bif Nat.beq pc 12 then some (.invokestatic 108, 3, 57, 2) else none) else (bif Nat.beq pc 15 then some (.ifCond .eq (12), 3, 27, 0) else none)) else (bif Nat.blt pc 19 then (bif Nat.beq pc 18 then some (.aload_n 0, 1, 0, 0) else none) else (bif Nat.beq pc 19 then some (.getfield 82, 3, 6, 35) else none))) else (bif Nat.blt pc 24 then (bif Nat.blt pc 23 then (bif Nat.beq pc 22 then some (.iload_n 1, 1, 0, 0) else none) else (bif Nat.beq pc 23 then some (.iaload, 1, 0, 0) else none)) else (bif Nat.blt pc 27 then (bif Nat.beq pc 24 then some (.goto (4), 3, 28, 0) else none) else (bif Nat.blt pc 28 then (bif Nat.beq pc 27 then some (.iconst 0, 1, 0, 0) else none) else (bif Nat.beq pc 28 then some (.invokestatic 108, 3, 57, 2) else none)))))) else (bif Nat.blt pc 48 then (bif Nat.blt pc 39 then (bif Nat.blt pc 35 then (bif Nat.blt pc 34 then (bif Nat.beq pc 31 then some (.ifCond .ne (7), 3, 38, 0) else none) else (bif Nat.beq pc 34 then some (.iconst 1, 1, 0, 0) else none)) else (bif Nat.blt pc 38 then (bif Nat.beq pc 35 then some (.goto (4), 3, 39, 0) else none) else (bif Nat.beq pc 38 then some (.iconst 0, 1, 0, 0) else none))) else (bif Nat.blt pc 43 then (bif Nat.blt pc 40 then (bif Nat.beq pc 39 then some (.iconst 0, 1, 0, 0) else none) else (bif Nat.beq pc 40 then some (.invokevirtual 97, 3, 52, 3) else none)) else (bif Nat.blt pc 46 then (bif Nat.beq pc 43 then some (.ifCond .eq (5), 3, 48, 0) else none) else (bif Nat.blt pc 47 then (bif Nat.beq pc 46 then some (.iconst 0, 1, 0, 0) else none) else (bif Nat.beq pc 47 then some (.ireturn, 1, 0, 0) else none))))) else (bif Nat.blt pc 55 then (bif Nat.blt pc 52 then (bif Nat.blt pc 49 then (bif Nat.beq pc 48 then some (.aload_n 0, 1, 0, 0) else none) else (bif Nat.beq pc 49 then some (.getfield 79, 3, 6, 34) else none)) else (bif Nat.blt pc 54 then (bif Nat.beq pc 52 then some (.bipush 12, 2, 0, 0) else none) else (bif Nat.beq pc 54 then some (.iload_n 1, 1, 0, 0) else none))) else (bif Nat.blt pc 57 then (bif Nat.blt pc 56 then (bif Nat.beq pc 55 then some (.imul, 1, 0, 0) else none) else (bif Nat.beq pc 56 then some (.iload_n 2, 1, 0, 0) else none)) else (bif Nat.blt pc 58 then (bif Nat.beq pc 57 then some (.iadd, 1, 0, 0) else none) else (bif Nat.blt pc 59 then (bif Nat.beq pc 58 then some (.iaload, 1, 0, 0) else none) else (bif Nat.beq pc 59 then some (.ireturn, 1, 0, 0) else none))))))) else none
theorem oxn_87 : ∀ pc, 60 ≤ pc → oxi_87 pc = none := fun pc h => by unfold oxi_87; rw [show Nat.blt pc 60 = false from ox_blt h]; rfl
theorem oxd_87 : ∀ pc e, oxi_87 pc = some e → decode prog_9_method_38_code pc = .ok (e.1, e.2.1) := ox_tab 60 oxn_87 (by decide +kernel)
theorem oxc_87 : ∀ pc e, oxi_87 pc = some e → ox_chk 6 pc e = true := ox_tab2 60 oxn_87 (by decide +kernel)
/-- OrderAxiomsModel.related(III)Z -/
def oxi_88 (pc : Nat) : Option (Instr × Nat × Nat × Nat) := bif Nat.blt pc 66 then (bif Nat.blt pc 38 then (bif Nat.blt pc 17 then (bif Nat.blt pc 6 then (bif Nat.blt pc 2 then (bif Nat.blt pc 1 then (bif Nat.beq pc 0 then some (.aload_n 0, 1, 0, 0) else none) else (bif Nat.beq pc 1 then some (.iload_n 1, 1, 0, 0) else none)) else (bif Nat.blt pc 3 then (bif Nat.beq pc 2 then some (.aload_n 0, 1, 0, 0) else none) else (bif Nat.beq pc 3 then some (.getfield 209, 3, 6, 31) else none))) else (bif Nat.blt pc 12 then (bif Nat.blt pc 9 then (bif Nat.beq pc 6 then some (.invokestatic 108, 3, 57, 2) else none) else (bif Nat.beq pc 9 then some (.ifCond .eq (25), 3, 34, 0) else none)) else (bif Nat.blt pc 13 then (bif Nat.beq pc 12 then some (.iload_n 2, 1, 0, 0) else none) else (bif Nat.blt pc 14 then (bif Nat.beq pc 13 then some (.aload_n 0, 1, 0, 0) else none) else (bif Nat.beq pc 14 then some (.getfield 203, 3, 6, 29) else none))))) else (bif Nat.blt pc 25 then (bif Nat.blt pc 23 then (bif Nat.blt pc 20 then (bif Nat.beq pc 17 then some (.invokestatic 108, 3, 57, 2) else none) else (bif Nat.beq pc 20 then some (.ifCond .eq (14), 3, 34, 0) else none)) else (bif Nat.blt pc 24 then (bif Nat.beq pc 23 then some (.iload_n 3, 1, 0, 0) else none) else (bif Nat.beq pc 24 then some (.aload_n 0, 1, 0, 0) else none))) else (bif Nat.blt pc 31 then (bif Nat.blt pc 28 then (bif Nat.beq pc 25 then some (.getfield 203, 3, 6, 29) else none) else (bif Nat.beq pc 28 then some (.invokestatic 108, 3, 57, 2) else none)) else (bif Nat.blt pc 34 then (bif Nat.beq pc 31 then some (.ifCond .ne (7), 3, 38, 0) else none) else (bif Nat.blt pc 35 then (bif Nat.beq pc 34 then some (.iconst 1, 1, 0, 0) else none) else (bif Nat.beq pc 35 then some (.goto (4), 3, 39, 0) else none)))))) else (bif Nat.blt pc 55 then (bif Nat.blt pc 46 then (bif Nat.blt pc 40 then (bif Nat.blt pc 39 then (bif Nat.beq pc 38 then some (.iconst 0, 1, 0, 0) else none) else (bif Nat.beq pc 39 then some (.iconst 0, 1, 0, 0) else none)) else (bif Nat.blt pc 43 then (bif Nat.beq pc 40 then some (.invokevirtual 97, 3, 52, 3) else none) else (bif Nat.beq pc 43 then some (.ifCond .eq (5), 3, 48, 0) else none))) else (bif Nat.blt pc 48 then (bif Nat.blt pc 47 then (bif Nat.beq pc 46 then some (.iconst 0, 1, 0, 0) else none) else (bif Nat.beq pc 47 then some (.ireturn, 1, 0, 0) else none)) else (bif Nat.blt pc 49 then (bif Nat.beq pc 48 then some (.aload_n 0, 1, 0, 0) else none) else (bif Nat.blt pc 52 then (bif Nat.beq pc 49 then some (.getfield 88, 3, 6, 37) else none) else (bif Nat.beq pc 52 then some (.sipush 144, 3, 0, 0) else none))))) else (bif Nat.blt pc 61 then (bif Nat.blt pc 57 then (bif Nat.blt pc 56 then (bif Nat.beq pc 55 then some (.iload_n 1, 1, 0, 0) else none) else (bif Nat.beq pc 56 then some (.imul, 1, 0, 0) else none)) else (bif Nat.blt pc 59 then (bif Nat.beq pc 57 then some (.bipush 12, 2, 0, 0) else none) else (bif Nat.blt pc 60 then (bif Nat.beq pc 59 then some (.iload_n 2, 1, 0, 0) else none) else (bif Nat.beq pc 60 then some (.imul, 1, 0, 0) else none)))) else (bif Nat.blt pc 63 then (bif Nat.blt pc 62 then (bif Nat.beq pc 61 then some (.iadd, 1, 0, 0) else none) else (bif Nat.beq pc 62 then some (.iload_n 3, 1, 0, 0) else none)) else (bif Nat.blt pc 64 then (bif Nat.beq pc 63 then some (.iadd, 1, 0, 0) else none) else (bif Nat.blt pc 65 then (bif Nat.beq pc 64 then some (.baload, 1, 0, 0) else none) else (bif Nat.beq pc 65 then some (.ireturn, 1, 0, 0) else none))))))) else none
theorem oxn_88 : ∀ pc, 66 ≤ pc → oxi_88 pc = none := fun pc h => by unfold oxi_88; rw [show Nat.blt pc 66 = false from ox_blt h]; rfl
theorem oxd_88 : ∀ pc e, oxi_88 pc = some e → decode prog_9_method_39_code pc = .ok (e.1, e.2.1) := ox_tab 66 oxn_88 (by decide +kernel)
theorem oxc_88 : ∀ pc e, oxi_88 pc = some e → ox_chk 6 pc e = true := ox_tab2 66 oxn_88 (by decide +kernel)
/-- OrderAxiomsModel.ring()I -/
def oxi_89 (pc : Nat) : Option (Instr × Nat × Nat × Nat) := bif Nat.blt pc 10 then (bif Nat.blt pc 5 then (bif Nat.blt pc 1 then (bif Nat.beq pc 0 then some (.aload_n 0, 1, 0, 0) else none) else (bif Nat.blt pc 2 then (bif Nat.beq pc 1 then some (.iconst 0, 1, 0, 0) else none) else (bif Nat.beq pc 2 then some (.putfield 91, 3, 6, 0) else none))) else (bif Nat.blt pc 6 then (bif Nat.beq pc 5 then some (.aload_n 0, 1, 0, 0) else none) else (bif Nat.blt pc 9 then (bif Nat.beq pc 6 then some (.getfield 197, 3, 6, 32) else none) else (bif Nat.beq pc 9 then some (.ireturn, 1, 0, 0) else none)))) else none
theorem oxn_89 : ∀ pc, 10 ≤ pc → oxi_89 pc = none := fun pc h => by unfold oxi_89; rw [show Nat.blt pc 10 = false from ox_blt h]; rfl
theorem oxd_89 : ∀ pc e, oxi_89 pc = some e → decode prog_9_method_40_code pc = .ok (e.1, e.2.1) := ox_tab 10 oxn_89 (by decide +kernel)
theorem oxc_89 : ∀ pc e, oxi_89 pc = some e → ox_chk 6 pc e = true := ox_tab2 10 oxn_89 (by decide +kernel)
/-- OrderAxiomsModel.ringAt(I)I -/
def oxi_90 (pc : Nat) : Option (Instr × Nat × Nat × Nat) := bif Nat.blt pc 35 then (bif Nat.blt pc 17 then (bif Nat.blt pc 6 then (bif Nat.blt pc 2 then (bif Nat.blt pc 1 then (bif Nat.beq pc 0 then some (.aload_n 0, 1, 0, 0) else none) else (bif Nat.beq pc 1 then some (.iload_n 1, 1, 0, 0) else none)) else (bif Nat.blt pc 3 then (bif Nat.beq pc 2 then some (.aload_n 0, 1, 0, 0) else none) else (bif Nat.beq pc 3 then some (.getfield 197, 3, 6, 32) else none))) else (bif Nat.blt pc 12 then (bif Nat.blt pc 9 then (bif Nat.beq pc 6 then some (.invokestatic 108, 3, 57, 2) else none) else (bif Nat.beq pc 9 then some (.ifCond .ne (7), 3, 16, 0) else none)) else (bif Nat.blt pc 13 then (bif Nat.beq pc 12 then some (.iconst 1, 1, 0, 0) else none) else (bif Nat.blt pc 16 then (bif Nat.beq pc 13 then some (.goto (4), 3, 17, 0) else none) else (bif Nat.beq pc 16 then some (.iconst 0, 1, 0, 0) else none))))) else (bif Nat.blt pc 28 then (bif Nat.blt pc 21 then (bif Nat.blt pc 18 then (bif Nat.beq pc 17 then some (.iconst 0, 1, 0, 0) else none) else (bif Nat.beq pc 18 then some (.invokevirtual 97, 3, 52, 3) else none)) else (bif Nat.blt pc 24 then (bif Nat.beq pc 21 then some (.ifCond .eq (7), 3, 28, 0) else none) else (bif Nat.blt pc 25 then (bif Nat.beq pc 24 then some (.iconst 0, 1, 0, 0) else none) else (bif Nat.beq pc 25 then some (.goto (9), 3, 34, 0) else none)))) else (bif Nat.blt pc 32 then (bif Nat.blt pc 29 then (bif Nat.beq pc 28 then some (.aload_n 0, 1, 0, 0) else none) else (bif Nat.beq pc 29 then some (.getfield 85, 3, 6, 36) else none)) else (bif Nat.blt pc 33 then (bif Nat.beq pc 32 then some (.iload_n 1, 1, 0, 0) else none) else (bif Nat.blt pc 34 then (bif Nat.beq pc 33 then some (.iaload, 1, 0, 0) else none) else (bif Nat.beq pc 34 then some (.ireturn, 1, 0, 0) else none)))))) else none
theorem oxn_90 : ∀ pc, 35 ≤ pc → oxi_90 pc = none := fun pc h => by unfold oxi_90; rw [show Nat.blt pc 35 = false from ox_blt h]; rfl
theorem oxd_90 : ∀ pc e, oxi_90 pc = some e → decode prog_9_method_41_code pc = .ok (e.1, e.2.1) := ox_tab 35 oxn_90 (by decide +kernel)
theorem oxc_90 : ∀ pc e, oxi_90 pc = some e → ox_chk 6 pc e = true := ox_tab2 35 oxn_90 (by decide +kernel)
/-- OrderAxiomsModel.count(I)I -/
def oxi_91 (pc : Nat) : Option (Instr × Nat × Nat × Nat) := bif Nat.blt pc 94 then (bif Nat.blt pc 68 then (bif Nat.blt pc 56 then (bif Nat.blt pc 5 then (bif Nat.blt pc 1 then (bif Nat.beq pc 0 then some (.aload_n 0, 1, 0, 0) else none) else (bif Nat.blt pc 2 then (bif Nat.beq pc 1 then some (.iconst 0, 1, 0, 0) else none) else (bif Nat.beq pc 2 then some (.putfield 91, 3, 6, 0) else none))) else (bif Nat.blt pc 52 then (bif Nat.blt pc 6 then (bif Nat.beq pc 5 then some (.iload_n 1, 1, 0, 0) else none) else (bif Nat.beq pc 6 then some (.tableswitch (86) (0) (7) #[46, 51, 56, 61, 66, 71, 76, 81], 46, 0, 0) else none)) else (bif Nat.blt pc 53 then (bif Nat.beq pc 52 then some (.aload_n 0, 1, 0, 0) else none) else (bif Nat.beq pc 53 then some (.getfield 94, 3, 6, 1) else none)))) else (bif Nat.blt pc 62 then (bif Nat.blt pc 58 then (bif Nat.blt pc 57 then (bif Nat.beq pc 56 then some (.ireturn, 1, 0, 0) else none) else (bif Nat.beq pc 57 then some (.aload_n 0, 1, 0, 0) else none)) else (bif Nat.blt pc 61 then (bif Nat.beq pc 58 then some (.getfield 101, 3, 6, 2) else none) else (bif Nat.beq pc 61 then some (.ireturn, 1, 0, 0) else none))) else (bif Nat.blt pc 66 then (bif Nat.blt pc 63 then (bif Nat.beq pc 62 then some (.aload_n 0, 1, 0, 0) else none) else (bif Nat.beq pc 63 then some (.invokevirtual 132, 3, 63, 1) else none)) else (bif Nat.blt pc 67 then (bif Nat.beq pc 66 then some (.ireturn, 1, 0, 0) else none) else (bif Nat.beq pc 67 then some (.aload_n 0, 1, 0, 0) else none))))) else (bif Nat.blt pc 82 then (bif Nat.blt pc 76 then (bif Nat.blt pc 72 then (bif Nat.blt pc 71 then (bif Nat.beq pc 68 then some (.getfield 26, 3, 6, 8) else none) else (bif Nat.beq pc 71 then some (.ireturn, 1, 0, 0) else none)) else (bif Nat.blt pc 73 then (bif Nat.beq pc 72 then some (.aload_n 0, 1, 0, 0) else none) else (bif Nat.beq pc 73 then some (.getfield 116, 3, 6, 12) else none))) else (bif Nat.blt pc 78 then (bif Nat.blt pc 77 then (bif Nat.beq pc 76 then some (.ireturn, 1, 0, 0) else none) else (bif Nat.beq pc 77 then some (.aload_n 0, 1, 0, 0) else none)) else (bif Nat.blt pc 81 then (bif Nat.beq pc 78 then some (.getfield 170, 3, 6, 20) else none) else (bif Nat.beq pc 81 then some (.ireturn, 1, 0, 0) else none)))) else (bif Nat.blt pc 88 then (bif Nat.blt pc 86 then (bif Nat.blt pc 83 then (bif Nat.beq pc 82 then some (.aload_n 0, 1, 0, 0) else none) else (bif Nat.beq pc 83 then some (.getfield 179, 3, 6, 21) else none)) else (bif Nat.blt pc 87 then (bif Nat.beq pc 86 then some (.ireturn, 1, 0, 0) else none) else (bif Nat.beq pc 87 then some (.aload_n 0, 1, 0, 0) else none))) else (bif Nat.blt pc 92 then (bif Nat.blt pc 91 then (bif Nat.beq pc 88 then some (.getfield 182, 3, 6, 22) else none) else (bif Nat.beq pc 91 then some (.ireturn, 1, 0, 0) else none)) else (bif Nat.blt pc 93 then (bif Nat.beq pc 92 then some (.iconst (-1), 1, 0, 0) else none) else (bif Nat.beq pc 93 then some (.ireturn, 1, 0, 0) else none)))))) else none
theorem oxn_91 : ∀ pc, 94 ≤ pc → oxi_91 pc = none := fun pc h => by unfold oxi_91; rw [show Nat.blt pc 94 = false from ox_blt h]; rfl
theorem oxd_91 : ∀ pc e, oxi_91 pc = some e → decode prog_9_method_42_code pc = .ok (e.1, e.2.1) := ox_tab 94 oxn_91 (by decide +kernel)
theorem oxc_91 : ∀ pc e, oxi_91 pc = some e → ox_chk 6 pc e = true := ox_tab2 94 oxn_91 (by decide +kernel)
/-- OrderAxiomsModel.clear()I -/
def oxi_92 (pc : Nat) : Option (Instr × Nat × Nat × Nat) := bif Nat.blt pc 22 then (bif Nat.blt pc 11 then (bif Nat.blt pc 5 then (bif Nat.blt pc 1 then (bif Nat.beq pc 0 then some (.aload_n 0, 1, 0, 0) else none) else (bif Nat.blt pc 2 then (bif Nat.beq pc 1 then some (.iconst 0, 1, 0, 0) else none) else (bif Nat.beq pc 2 then some (.putfield 91, 3, 6, 0) else none))) else (bif Nat.blt pc 9 then (bif Nat.blt pc 6 then (bif Nat.beq pc 5 then some (.aload_n 0, 1, 0, 0) else none) else (bif Nat.beq pc 6 then some (.getfield 101, 3, 6, 2) else none)) else (bif Nat.blt pc 10 then (bif Nat.beq pc 9 then some (.istore_n 1, 1, 0, 0) else none) else (bif Nat.beq pc 10 then some (.aload_n 0, 1, 0, 0) else none)))) else (bif Nat.blt pc 16 then (bif Nat.blt pc 12 then (bif Nat.beq pc 11 then some (.iconst 0, 1, 0, 0) else none) else (bif Nat.blt pc 15 then (bif Nat.beq pc 12 then some (.putfield 101, 3, 6, 2) else none) else (bif Nat.beq pc 15 then some (.aload_n 0, 1, 0, 0) else none))) else (bif Nat.blt pc 20 then (bif Nat.blt pc 17 then (bif Nat.beq pc 16 then some (.iconst 0, 1, 0, 0) else none) else (bif Nat.beq pc 17 then some (.putfield 94, 3, 6, 1) else none)) else (bif Nat.blt pc 21 then (bif Nat.beq pc 20 then some (.iload_n 1, 1, 0, 0) else none) else (bif Nat.beq pc 21 then some (.ireturn, 1, 0, 0) else none))))) else none
theorem oxn_92 : ∀ pc, 22 ≤ pc → oxi_92 pc = none := fun pc h => by unfold oxi_92; rw [show Nat.blt pc 22 = false from ox_blt h]; rfl
theorem oxd_92 : ∀ pc e, oxi_92 pc = some e → decode prog_9_method_43_code pc = .ok (e.1, e.2.1) := ox_tab 22 oxn_92 (by decide +kernel)
theorem oxc_92 : ∀ pc e, oxi_92 pc = some e → ox_chk 6 pc e = true := ox_tab2 22 oxn_92 (by decide +kernel)
/-- OrderAxioms$Rows.fillEach([I[I[III)V -/
def oxi_93 (pc : Nat) : Option (Instr × Nat × Nat × Nat) := bif Nat.blt pc 73 then (bif Nat.blt pc 38 then (bif Nat.blt pc 20 then (bif Nat.blt pc 10 then (bif Nat.blt pc 3 then (bif Nat.blt pc 1 then (bif Nat.beq pc 0 then some (.iconst 0, 1, 0, 0) else none) else (bif Nat.beq pc 1 then some (.istore 5, 2, 0, 0) else none)) else (bif Nat.blt pc 5 then (bif Nat.beq pc 3 then some (.iload 5, 2, 0, 0) else none) else (bif Nat.blt pc 7 then (bif Nat.beq pc 5 then some (.iload 4, 2, 0, 0) else none) else (bif Nat.beq pc 7 then some (.if_icmp .ge (65), 3, 72, 0) else none)))) else (bif Nat.blt pc 15 then (bif Nat.blt pc 11 then (bif Nat.beq pc 10 then some (.iload_n 3, 1, 0, 0) else none) else (bif Nat.blt pc 14 then (bif Nat.beq pc 11 then some (.ifCond .ne (19), 3, 30, 0) else none) else (bif Nat.beq pc 14 then some (.aload_n 0, 1, 0, 0) else none))) else (bif Nat.blt pc 17 then (bif Nat.beq pc 15 then some (.iload 5, 2, 0, 0) else none) else (bif Nat.blt pc 18 then (bif Nat.beq pc 17 then some (.aload_n 1, 1, 0, 0) else none) else (bif Nat.beq pc 18 then some (.iload 5, 2, 0, 0) else none))))) else (bif Nat.blt pc 27 then (bif Nat.blt pc 24 then (bif Nat.blt pc 21 then (bif Nat.beq pc 20 then some (.iaload, 1, 0, 0) else none) else (bif Nat.blt pc 22 then (bif Nat.beq pc 21 then some (.aload_n 2, 1, 0, 0) else none) else (bif Nat.beq pc 22 then some (.iload 5, 2, 0, 0) else none))) else (bif Nat.blt pc 25 then (bif Nat.beq pc 24 then some (.iaload, 1, 0, 0) else none) else (bif Nat.blt pc 26 then (bif Nat.beq pc 25 then some (.ior, 1, 0, 0) else none) else (bif Nat.beq pc 26 then some (.iastore, 1, 0, 0) else none)))) else (bif Nat.blt pc 32 then (bif Nat.blt pc 30 then (bif Nat.beq pc 27 then some (.goto (39), 3, 66, 0) else none) else (bif Nat.blt pc 31 then (bif Nat.beq pc 30 then some (.iload_n 3, 1, 0, 0) else none) else (bif Nat.beq pc 31 then some (.iconst 1, 1, 0, 0) else none))) else (bif Nat.blt pc 35 then (bif Nat.beq pc 32 then some (.if_icmp .ne (19), 3, 51, 0) else none) else (bif Nat.blt pc 36 then (bif Nat.beq pc 35 then some (.aload_n 0, 1, 0, 0) else none) else (bif Nat.beq pc 36 then some (.iload 5, 2, 0, 0) else none)))))) else (bif Nat.blt pc 55 then (bif Nat.blt pc 46 then (bif Nat.blt pc 42 then (bif Nat.blt pc 39 then (bif Nat.beq pc 38 then some (.aload_n 1, 1, 0, 0) else none) else (bif Nat.blt pc 41 then (bif Nat.beq pc 39 then some (.iload 5, 2, 0, 0) else none) else (bif Nat.beq pc 41 then some (.iaload, 1, 0, 0) else none))) else (bif Nat.blt pc 43 then (bif Nat.beq pc 42 then some (.aload_n 2, 1, 0, 0) else none) else (bif Nat.blt pc 45 then (bif Nat.beq pc 43 then some (.iload 5, 2, 0, 0) else none) else (bif Nat.beq pc 45 then some (.iaload, 1, 0, 0) else none)))) else (bif Nat.blt pc 51 then (bif Nat.blt pc 47 then (bif Nat.beq pc 46 then some (.iand, 1, 0, 0) else none) else (bif Nat.blt pc 48 then (bif Nat.beq pc 47 then some (.iastore, 1, 0, 0) else none) else (bif Nat.beq pc 48 then some (.goto (18), 3, 66, 0) else none))) else (bif Nat.blt pc 52 then (bif Nat.beq pc 51 then some (.aload_n 0, 1, 0, 0) else none) else (bif Nat.blt pc 54 then (bif Nat.beq pc 52 then some (.iload 5, 2, 0, 0) else none) else (bif Nat.beq pc 54 then some (.aload_n 1, 1, 0, 0) else none))))) else (bif Nat.blt pc 63 then (bif Nat.blt pc 59 then (bif Nat.blt pc 57 then (bif Nat.beq pc 55 then some (.iload 5, 2, 0, 0) else none) else (bif Nat.blt pc 58 then (bif Nat.beq pc 57 then some (.iaload, 1, 0, 0) else none) else (bif Nat.beq pc 58 then some (.aload_n 2, 1, 0, 0) else none))) else (bif Nat.blt pc 61 then (bif Nat.beq pc 59 then some (.iload 5, 2, 0, 0) else none) else (bif Nat.blt pc 62 then (bif Nat.beq pc 61 then some (.iaload, 1, 0, 0) else none) else (bif Nat.beq pc 62 then some (.iconst (-1), 1, 0, 0) else none)))) else (bif Nat.blt pc 66 then (bif Nat.blt pc 64 then (bif Nat.beq pc 63 then some (.ixor, 1, 0, 0) else none) else (bif Nat.blt pc 65 then (bif Nat.beq pc 64 then some (.iand, 1, 0, 0) else none) else (bif Nat.beq pc 65 then some (.iastore, 1, 0, 0) else none))) else (bif Nat.blt pc 69 then (bif Nat.beq pc 66 then some (.iinc 5 1, 3, 0, 0) else none) else (bif Nat.blt pc 72 then (bif Nat.beq pc 69 then some (.goto (-66), 3, 3, 0) else none) else (bif Nat.beq pc 72 then some (.return_, 1, 0, 0) else none))))))) else none
theorem oxn_93 : ∀ pc, 73 ≤ pc → oxi_93 pc = none := fun pc h => by unfold oxi_93; rw [show Nat.blt pc 73 = false from ox_blt h]; rfl
theorem oxd_93 : ∀ pc e, oxi_93 pc = some e → decode prog_7_method_2_code pc = .ok (e.1, e.2.1) := ox_tab 73 oxn_93 (by decide +kernel)
theorem oxc_93 : ∀ pc e, oxi_93 pc = some e → ox_chk 7 pc e = true := ox_tab2 73 oxn_93 (by decide +kernel)
/-- OrderAxioms$Rows.fillJoin([I[I[II)V -/
def oxi_94 (pc : Nat) : Option (Instr × Nat × Nat × Nat) := bif Nat.blt pc 59 then (bif Nat.blt pc 28 then (bif Nat.blt pc 14 then (bif Nat.blt pc 6 then (bif Nat.blt pc 3 then (bif Nat.blt pc 1 then (bif Nat.beq pc 0 then some (.iconst 0, 1, 0, 0) else none) else (bif Nat.beq pc 1 then some (.istore 4, 2, 0, 0) else none)) else (bif Nat.blt pc 5 then (bif Nat.beq pc 3 then some (.iload 4, 2, 0, 0) else none) else (bif Nat.beq pc 5 then some (.iload_n 3, 1, 0, 0) else none))) else (bif Nat.blt pc 10 then (bif Nat.blt pc 9 then (bif Nat.beq pc 6 then some (.if_icmp .ge (52), 3, 58, 0) else none) else (bif Nat.beq pc 9 then some (.aload_n 0, 1, 0, 0) else none)) else (bif Nat.blt pc 12 then (bif Nat.beq pc 10 then some (.iload 4, 2, 0, 0) else none) else (bif Nat.blt pc 13 then (bif Nat.beq pc 12 then some (.iconst 0, 1, 0, 0) else none) else (bif Nat.beq pc 13 then some (.iastore, 1, 0, 0) else none))))) else (bif Nat.blt pc 20 then (bif Nat.blt pc 17 then (bif Nat.blt pc 15 then (bif Nat.beq pc 14 then some (.iconst 0, 1, 0, 0) else none) else (bif Nat.beq pc 15 then some (.istore 5, 2, 0, 0) else none)) else (bif Nat.blt pc 19 then (bif Nat.beq pc 17 then some (.iload 5, 2, 0, 0) else none) else (bif Nat.beq pc 19 then some (.iload_n 3, 1, 0, 0) else none))) else (bif Nat.blt pc 24 then (bif Nat.blt pc 23 then (bif Nat.beq pc 20 then some (.if_icmp .ge (32), 3, 52, 0) else none) else (bif Nat.beq pc 23 then some (.aload_n 1, 1, 0, 0) else none)) else (bif Nat.blt pc 26 then (bif Nat.beq pc 24 then some (.iload 4, 2, 0, 0) else none) else (bif Nat.blt pc 27 then (bif Nat.beq pc 26 then some (.iaload, 1, 0, 0) else none) else (bif Nat.beq pc 27 then some (.iconst 1, 1, 0, 0) else none)))))) else (bif Nat.blt pc 41 then (bif Nat.blt pc 35 then (bif Nat.blt pc 31 then (bif Nat.blt pc 30 then (bif Nat.beq pc 28 then some (.iload 5, 2, 0, 0) else none) else (bif Nat.beq pc 30 then some (.ishl, 1, 0, 0) else none)) else (bif Nat.blt pc 32 then (bif Nat.beq pc 31 then some (.iand, 1, 0, 0) else none) else (bif Nat.beq pc 32 then some (.ifCond .eq (14), 3, 46, 0) else none))) else (bif Nat.blt pc 38 then (bif Nat.blt pc 36 then (bif Nat.beq pc 35 then some (.aload_n 0, 1, 0, 0) else none) else (bif Nat.beq pc 36 then some (.iload 4, 2, 0, 0) else none)) else (bif Nat.blt pc 39 then (bif Nat.beq pc 38 then some (.dup2, 1, 0, 0) else none) else (bif Nat.blt pc 40 then (bif Nat.beq pc 39 then some (.iaload, 1, 0, 0) else none) else (bif Nat.beq pc 40 then some (.aload_n 2, 1, 0, 0) else none))))) else (bif Nat.blt pc 46 then (bif Nat.blt pc 44 then (bif Nat.blt pc 43 then (bif Nat.beq pc 41 then some (.iload 5, 2, 0, 0) else none) else (bif Nat.beq pc 43 then some (.iaload, 1, 0, 0) else none)) else (bif Nat.blt pc 45 then (bif Nat.beq pc 44 then some (.ior, 1, 0, 0) else none) else (bif Nat.beq pc 45 then some (.iastore, 1, 0, 0) else none))) else (bif Nat.blt pc 52 then (bif Nat.blt pc 49 then (bif Nat.beq pc 46 then some (.iinc 5 1, 3, 0, 0) else none) else (bif Nat.beq pc 49 then some (.goto (-32), 3, 17, 0) else none)) else (bif Nat.blt pc 55 then (bif Nat.beq pc 52 then some (.iinc 4 1, 3, 0, 0) else none) else (bif Nat.blt pc 58 then (bif Nat.beq pc 55 then some (.goto (-52), 3, 3, 0) else none) else (bif Nat.beq pc 58 then some (.return_, 1, 0, 0) else none))))))) else none
theorem oxn_94 : ∀ pc, 59 ≤ pc → oxi_94 pc = none := fun pc h => by unfold oxi_94; rw [show Nat.blt pc 59 = false from ox_blt h]; rfl
theorem oxd_94 : ∀ pc e, oxi_94 pc = some e → decode prog_7_method_3_code pc = .ok (e.1, e.2.1) := ox_tab 59 oxn_94 (by decide +kernel)
theorem oxc_94 : ∀ pc e, oxi_94 pc = some e → ox_chk 7 pc e = true := ox_tab2 59 oxn_94 (by decide +kernel)
/-- OrderAxioms$Rows.fillTurn([I[II)V -/
def oxi_95 (pc : Nat) : Option (Instr × Nat × Nat × Nat) := bif Nat.blt pc 54 then (bif Nat.blt pc 25 then (bif Nat.blt pc 11 then (bif Nat.blt pc 4 then (bif Nat.blt pc 2 then (bif Nat.blt pc 1 then (bif Nat.beq pc 0 then some (.iconst 0, 1, 0, 0) else none) else (bif Nat.beq pc 1 then some (.istore_n 3, 1, 0, 0) else none)) else (bif Nat.blt pc 3 then (bif Nat.beq pc 2 then some (.iload_n 3, 1, 0, 0) else none) else (bif Nat.beq pc 3 then some (.iload_n 2, 1, 0, 0) else none))) else (bif Nat.blt pc 8 then (bif Nat.blt pc 7 then (bif Nat.beq pc 4 then some (.if_icmp .ge (49), 3, 53, 0) else none) else (bif Nat.beq pc 7 then some (.aload_n 0, 1, 0, 0) else none)) else (bif Nat.blt pc 9 then (bif Nat.beq pc 8 then some (.iload_n 3, 1, 0, 0) else none) else (bif Nat.blt pc 10 then (bif Nat.beq pc 9 then some (.iconst 0, 1, 0, 0) else none) else (bif Nat.beq pc 10 then some (.iastore, 1, 0, 0) else none))))) else (bif Nat.blt pc 17 then (bif Nat.blt pc 14 then (bif Nat.blt pc 12 then (bif Nat.beq pc 11 then some (.iconst 0, 1, 0, 0) else none) else (bif Nat.beq pc 12 then some (.istore 4, 2, 0, 0) else none)) else (bif Nat.blt pc 16 then (bif Nat.beq pc 14 then some (.iload 4, 2, 0, 0) else none) else (bif Nat.beq pc 16 then some (.iload_n 2, 1, 0, 0) else none))) else (bif Nat.blt pc 21 then (bif Nat.blt pc 20 then (bif Nat.beq pc 17 then some (.if_icmp .ge (30), 3, 47, 0) else none) else (bif Nat.beq pc 20 then some (.aload_n 1, 1, 0, 0) else none)) else (bif Nat.blt pc 23 then (bif Nat.beq pc 21 then some (.iload 4, 2, 0, 0) else none) else (bif Nat.blt pc 24 then (bif Nat.beq pc 23 then some (.iaload, 1, 0, 0) else none) else (bif Nat.beq pc 24 then some (.iconst 1, 1, 0, 0) else none)))))) else (bif Nat.blt pc 36 then (bif Nat.blt pc 31 then (bif Nat.blt pc 27 then (bif Nat.blt pc 26 then (bif Nat.beq pc 25 then some (.iload_n 3, 1, 0, 0) else none) else (bif Nat.beq pc 26 then some (.ishl, 1, 0, 0) else none)) else (bif Nat.blt pc 28 then (bif Nat.beq pc 27 then some (.iand, 1, 0, 0) else none) else (bif Nat.beq pc 28 then some (.ifCond .eq (13), 3, 41, 0) else none))) else (bif Nat.blt pc 33 then (bif Nat.blt pc 32 then (bif Nat.beq pc 31 then some (.aload_n 0, 1, 0, 0) else none) else (bif Nat.beq pc 32 then some (.iload_n 3, 1, 0, 0) else none)) else (bif Nat.blt pc 34 then (bif Nat.beq pc 33 then some (.dup2, 1, 0, 0) else none) else (bif Nat.blt pc 35 then (bif Nat.beq pc 34 then some (.iaload, 1, 0, 0) else none) else (bif Nat.beq pc 35 then some (.iconst 1, 1, 0, 0) else none))))) else (bif Nat.blt pc 41 then (bif Nat.blt pc 39 then (bif Nat.blt pc 38 then (bif Nat.beq pc 36 then some (.iload 4, 2, 0, 0) else none) else (bif Nat.beq pc 38 then some (.ishl, 1, 0, 0) else none)) else (bif Nat.blt pc 40 then (bif Nat.beq pc 39 then some (.ior, 1, 0, 0) else none) else (bif Nat.beq pc 40 then some (.iastore, 1, 0, 0) else none))) else (bif Nat.blt pc 47 then (bif Nat.blt pc 44 then (bif Nat.beq pc 41 then some (.iinc 4 1, 3, 0, 0) else none) else (bif Nat.beq pc 44 then some (.goto (-30), 3, 14, 0) else none)) else (bif Nat.blt pc 50 then (bif Nat.beq pc 47 then some (.iinc 3 1, 3, 0, 0) else none) else (bif Nat.blt pc 53 then (bif Nat.beq pc 50 then some (.goto (-48), 3, 2, 0) else none) else (bif Nat.beq pc 53 then some (.return_, 1, 0, 0) else none))))))) else none
theorem oxn_95 : ∀ pc, 54 ≤ pc → oxi_95 pc = none := fun pc h => by unfold oxi_95; rw [show Nat.blt pc 54 = false from ox_blt h]; rfl
theorem oxd_95 : ∀ pc e, oxi_95 pc = some e → decode prog_7_method_4_code pc = .ok (e.1, e.2.1) := ox_tab 54 oxn_95 (by decide +kernel)
theorem oxc_95 : ∀ pc e, oxi_95 pc = some e → ox_chk 7 pc e = true := ox_tab2 54 oxn_95 (by decide +kernel)
/-- OrderAxioms$Rows.fillClosure([I[II)V -/
def oxi_96 (pc : Nat) : Option (Instr × Nat × Nat × Nat) := bif Nat.blt pc 69 then (bif Nat.blt pc 32 then (bif Nat.blt pc 13 then (bif Nat.blt pc 7 then (bif Nat.blt pc 2 then (bif Nat.blt pc 1 then (bif Nat.beq pc 0 then some (.iconst 0, 1, 0, 0) else none) else (bif Nat.beq pc 1 then some (.istore_n 3, 1, 0, 0) else none)) else (bif Nat.blt pc 3 then (bif Nat.beq pc 2 then some (.iload_n 3, 1, 0, 0) else none) else (bif Nat.blt pc 4 then (bif Nat.beq pc 3 then some (.iload_n 2, 1, 0, 0) else none) else (bif Nat.beq pc 4 then some (.if_icmp .ge (15), 3, 19, 0) else none)))) else (bif Nat.blt pc 10 then (bif Nat.blt pc 8 then (bif Nat.beq pc 7 then some (.aload_n 0, 1, 0, 0) else none) else (bif Nat.blt pc 9 then (bif Nat.beq pc 8 then some (.iload_n 3, 1, 0, 0) else none) else (bif Nat.beq pc 9 then some (.aload_n 1, 1, 0, 0) else none))) else (bif Nat.blt pc 11 then (bif Nat.beq pc 10 then some (.iload_n 3, 1, 0, 0) else none) else (bif Nat.blt pc 12 then (bif Nat.beq pc 11 then some (.iaload, 1, 0, 0) else none) else (bif Nat.beq pc 12 then some (.iastore, 1, 0, 0) else none))))) else (bif Nat.blt pc 22 then (bif Nat.blt pc 19 then (bif Nat.blt pc 16 then (bif Nat.beq pc 13 then some (.iinc 3 1, 3, 0, 0) else none) else (bif Nat.beq pc 16 then some (.goto (-14), 3, 2, 0) else none)) else (bif Nat.blt pc 20 then (bif Nat.beq pc 19 then some (.iconst 0, 1, 0, 0) else none) else (bif Nat.blt pc 21 then (bif Nat.beq pc 20 then some (.istore_n 3, 1, 0, 0) else none) else (bif Nat.beq pc 21 then some (.iload_n 3, 1, 0, 0) else none)))) else (bif Nat.blt pc 27 then (bif Nat.blt pc 23 then (bif Nat.beq pc 22 then some (.iload_n 2, 1, 0, 0) else none) else (bif Nat.blt pc 26 then (bif Nat.beq pc 23 then some (.if_icmp .ge (45), 3, 68, 0) else none) else (bif Nat.beq pc 26 then some (.iconst 0, 1, 0, 0) else none))) else (bif Nat.blt pc 29 then (bif Nat.beq pc 27 then some (.istore 4, 2, 0, 0) else none) else (bif Nat.blt pc 31 then (bif Nat.beq pc 29 then some (.iload 4, 2, 0, 0) else none) else (bif Nat.beq pc 31 then some (.iload_n 2, 1, 0, 0) else none)))))) else (bif Nat.blt pc 49 then (bif Nat.blt pc 40 then (bif Nat.blt pc 36 then (bif Nat.blt pc 35 then (bif Nat.beq pc 32 then some (.if_icmp .ge (30), 3, 62, 0) else none) else (bif Nat.beq pc 35 then some (.aload_n 0, 1, 0, 0) else none)) else (bif Nat.blt pc 38 then (bif Nat.beq pc 36 then some (.iload 4, 2, 0, 0) else none) else (bif Nat.blt pc 39 then (bif Nat.beq pc 38 then some (.iaload, 1, 0, 0) else none) else (bif Nat.beq pc 39 then some (.iconst 1, 1, 0, 0) else none)))) else (bif Nat.blt pc 43 then (bif Nat.blt pc 41 then (bif Nat.beq pc 40 then some (.iload_n 3, 1, 0, 0) else none) else (bif Nat.blt pc 42 then (bif Nat.beq pc 41 then some (.ishl, 1, 0, 0) else none) else (bif Nat.beq pc 42 then some (.iand, 1, 0, 0) else none))) else (bif Nat.blt pc 46 then (bif Nat.beq pc 43 then some (.ifCond .eq (13), 3, 56, 0) else none) else (bif Nat.blt pc 47 then (bif Nat.beq pc 46 then some (.aload_n 0, 1, 0, 0) else none) else (bif Nat.beq pc 47 then some (.iload 4, 2, 0, 0) else none))))) else (bif Nat.blt pc 55 then (bif Nat.blt pc 52 then (bif Nat.blt pc 50 then (bif Nat.beq pc 49 then some (.dup2, 1, 0, 0) else none) else (bif Nat.blt pc 51 then (bif Nat.beq pc 50 then some (.iaload, 1, 0, 0) else none) else (bif Nat.beq pc 51 then some (.aload_n 0, 1, 0, 0) else none))) else (bif Nat.blt pc 53 then (bif Nat.beq pc 52 then some (.iload_n 3, 1, 0, 0) else none) else (bif Nat.blt pc 54 then (bif Nat.beq pc 53 then some (.iaload, 1, 0, 0) else none) else (bif Nat.beq pc 54 then some (.ior, 1, 0, 0) else none)))) else (bif Nat.blt pc 62 then (bif Nat.blt pc 56 then (bif Nat.beq pc 55 then some (.iastore, 1, 0, 0) else none) else (bif Nat.blt pc 59 then (bif Nat.beq pc 56 then some (.iinc 4 1, 3, 0, 0) else none) else (bif Nat.beq pc 59 then some (.goto (-30), 3, 29, 0) else none))) else (bif Nat.blt pc 65 then (bif Nat.beq pc 62 then some (.iinc 3 1, 3, 0, 0) else none) else (bif Nat.blt pc 68 then (bif Nat.beq pc 65 then some (.goto (-44), 3, 21, 0) else none) else (bif Nat.beq pc 68 then some (.return_, 1, 0, 0) else none))))))) else none
theorem oxn_96 : ∀ pc, 69 ≤ pc → oxi_96 pc = none := fun pc h => by unfold oxi_96; rw [show Nat.blt pc 69 = false from ox_blt h]; rfl
theorem oxd_96 : ∀ pc e, oxi_96 pc = some e → decode prog_7_method_5_code pc = .ok (e.1, e.2.1) := ox_tab 69 oxn_96 (by decide +kernel)
theorem oxc_96 : ∀ pc e, oxi_96 pc = some e → ox_chk 7 pc e = true := ox_tab2 69 oxn_96 (by decide +kernel)
/-- OrderAxioms$Rows.hasRing([II)Z -/
def oxi_97 (pc : Nat) : Option (Instr × Nat × Nat × Nat) := bif Nat.blt pc 70 then (bif Nat.blt pc 33 then (bif Nat.blt pc 13 then (bif Nat.blt pc 5 then (bif Nat.blt pc 2 then (bif Nat.blt pc 1 then (bif Nat.beq pc 0 then some (.iconst 1, 1, 0, 0) else none) else (bif Nat.beq pc 1 then some (.iload_n 1, 1, 0, 0) else none)) else (bif Nat.blt pc 3 then (bif Nat.beq pc 2 then some (.ishl, 1, 0, 0) else none) else (bif Nat.blt pc 4 then (bif Nat.beq pc 3 then some (.iconst 1, 1, 0, 0) else none) else (bif Nat.beq pc 4 then some (.isub, 1, 0, 0) else none)))) else (bif Nat.blt pc 8 then (bif Nat.blt pc 6 then (bif Nat.beq pc 5 then some (.istore_n 2, 1, 0, 0) else none) else (bif Nat.blt pc 7 then (bif Nat.beq pc 6 then some (.iconst 0, 1, 0, 0) else none) else (bif Nat.beq pc 7 then some (.istore_n 3, 1, 0, 0) else none))) else (bif Nat.blt pc 9 then (bif Nat.beq pc 8 then some (.iload_n 3, 1, 0, 0) else none) else (bif Nat.blt pc 10 then (bif Nat.beq pc 9 then some (.iload_n 1, 1, 0, 0) else none) else (bif Nat.beq pc 10 then some (.if_icmp .ge (58), 3, 68, 0) else none))))) else (bif Nat.blt pc 22 then (bif Nat.blt pc 18 then (bif Nat.blt pc 14 then (bif Nat.beq pc 13 then some (.iload_n 2, 1, 0, 0) else none) else (bif Nat.blt pc 17 then (bif Nat.beq pc 14 then some (.ifCond .eq (54), 3, 68, 0) else none) else (bif Nat.beq pc 17 then some (.iload_n 2, 1, 0, 0) else none))) else (bif Nat.blt pc 20 then (bif Nat.beq pc 18 then some (.istore 4, 2, 0, 0) else none) else (bif Nat.blt pc 21 then (bif Nat.beq pc 20 then some (.iload_n 1, 1, 0, 0) else none) else (bif Nat.beq pc 21 then some (.iconst 1, 1, 0, 0) else none)))) else (bif Nat.blt pc 27 then (bif Nat.blt pc 23 then (bif Nat.beq pc 22 then some (.isub, 1, 0, 0) else none) else (bif Nat.blt pc 25 then (bif Nat.beq pc 23 then some (.istore 5, 2, 0, 0) else none) else (bif Nat.beq pc 25 then some (.iload 5, 2, 0, 0) else none))) else (bif Nat.blt pc 30 then (bif Nat.beq pc 27 then some (.ifCond .lt (27), 3, 54, 0) else none) else (bif Nat.blt pc 31 then (bif Nat.beq pc 30 then some (.aload_n 0, 1, 0, 0) else none) else (bif Nat.beq pc 31 then some (.iload 5, 2, 0, 0) else none)))))) else (bif Nat.blt pc 47 then (bif Nat.blt pc 40 then (bif Nat.blt pc 35 then (bif Nat.blt pc 34 then (bif Nat.beq pc 33 then some (.iaload, 1, 0, 0) else none) else (bif Nat.beq pc 34 then some (.iload_n 2, 1, 0, 0) else none)) else (bif Nat.blt pc 36 then (bif Nat.beq pc 35 then some (.iand, 1, 0, 0) else none) else (bif Nat.blt pc 39 then (bif Nat.beq pc 36 then some (.ifCond .ne (12), 3, 48, 0) else none) else (bif Nat.beq pc 39 then some (.iload_n 2, 1, 0, 0) else none)))) else (bif Nat.blt pc 44 then (bif Nat.blt pc 41 then (bif Nat.beq pc 40 then some (.iconst 1, 1, 0, 0) else none) else (bif Nat.blt pc 43 then (bif Nat.beq pc 41 then some (.iload 5, 2, 0, 0) else none) else (bif Nat.beq pc 43 then some (.ishl, 1, 0, 0) else none))) else (bif Nat.blt pc 45 then (bif Nat.beq pc 44 then some (.iconst (-1), 1, 0, 0) else none) else (bif Nat.blt pc 46 then (bif Nat.beq pc 45 then some (.ixor, 1, 0, 0) else none) else (bif Nat.beq pc 46 then some (.iand, 1, 0, 0) else none))))) else (bif Nat.blt pc 60 then (bif Nat.blt pc 54 then (bif Nat.blt pc 48 then (bif Nat.beq pc 47 then some (.istore_n 2, 1, 0, 0) else none) else (bif Nat.blt pc 51 then (bif Nat.beq pc 48 then some (.iinc 5 (-1), 3, 0, 0) else none) else (bif Nat.beq pc 51 then some (.goto (-26), 3, 25, 0) else none))) else (bif Nat.blt pc 55 then (bif Nat.beq pc 54 then some (.iload_n 2, 1, 0, 0) else none) else (bif Nat.blt pc 57 then (bif Nat.beq pc 55 then some (.iload 4, 2, 0, 0) else none) else (bif Nat.beq pc 57 then some (.if_icmp .ne (5), 3, 62, 0) else none)))) else (bif Nat.blt pc 65 then (bif Nat.blt pc 61 then (bif Nat.beq pc 60 then some (.iconst 1, 1, 0, 0) else none) else (bif Nat.blt pc 62 then (bif Nat.beq pc 61 then some (.ireturn, 1, 0, 0) else none) else (bif Nat.beq pc 62 then some (.iinc 3 1, 3, 0, 0) else none))) else (bif Nat.blt pc 68 then (bif Nat.beq pc 65 then some (.goto (-57), 3, 8, 0) else none) else (bif Nat.blt pc 69 then (bif Nat.beq pc 68 then some (.iconst 0, 1, 0, 0) else none) else (bif Nat.beq pc 69 then some (.ireturn, 1, 0, 0) else none))))))) else none
theorem oxn_97 : ∀ pc, 70 ≤ pc → oxi_97 pc = none := fun pc h => by unfold oxi_97; rw [show Nat.blt pc 70 = false from ox_blt h]; rfl
theorem oxd_97 : ∀ pc e, oxi_97 pc = some e → decode prog_7_method_6_code pc = .ok (e.1, e.2.1) := ox_tab 70 oxn_97 (by decide +kernel)
theorem oxc_97 : ∀ pc e, oxi_97 pc = some e → ox_chk 7 pc e = true := ox_tab2 70 oxn_97 (by decide +kernel)
/-- OrderAxioms$Rows.leadingInto([III)I -/
def oxi_98 (pc : Nat) : Option (Instr × Nat × Nat × Nat) := bif Nat.blt pc 35 then (bif Nat.blt pc 16 then (bif Nat.blt pc 7 then (bif Nat.blt pc 2 then (bif Nat.blt pc 1 then (bif Nat.beq pc 0 then some (.iconst 0, 1, 0, 0) else none) else (bif Nat.beq pc 1 then some (.istore_n 3, 1, 0, 0) else none)) else (bif Nat.blt pc 3 then (bif Nat.beq pc 2 then some (.iconst 0, 1, 0, 0) else none) else (bif Nat.blt pc 5 then (bif Nat.beq pc 3 then some (.istore 4, 2, 0, 0) else none) else (bif Nat.beq pc 5 then some (.iload 4, 2, 0, 0) else none)))) else (bif Nat.blt pc 12 then (bif Nat.blt pc 8 then (bif Nat.beq pc 7 then some (.iload_n 2, 1, 0, 0) else none) else (bif Nat.blt pc 11 then (bif Nat.beq pc 8 then some (.if_icmp .ge (25), 3, 33, 0) else none) else (bif Nat.beq pc 11 then some (.aload_n 0, 1, 0, 0) else none))) else (bif Nat.blt pc 14 then (bif Nat.beq pc 12 then some (.iload 4, 2, 0, 0) else none) else (bif Nat.blt pc 15 then (bif Nat.beq pc 14 then some (.iaload, 1, 0, 0) else none) else (bif Nat.beq pc 15 then some (.iload_n 1, 1, 0, 0) else none))))) else (bif Nat.blt pc 25 then (bif Nat.blt pc 21 then (bif Nat.blt pc 17 then (bif Nat.beq pc 16 then some (.iand, 1, 0, 0) else none) else (bif Nat.blt pc 20 then (bif Nat.beq pc 17 then some (.ifCond .eq (10), 3, 27, 0) else none) else (bif Nat.beq pc 20 then some (.iload_n 3, 1, 0, 0) else none))) else (bif Nat.blt pc 22 then (bif Nat.beq pc 21 then some (.iconst 1, 1, 0, 0) else none) else (bif Nat.blt pc 24 then (bif Nat.beq pc 22 then some (.iload 4, 2, 0, 0) else none) else (bif Nat.beq pc 24 then some (.ishl, 1, 0, 0) else none)))) else (bif Nat.blt pc 30 then (bif Nat.blt pc 26 then (bif Nat.beq pc 25 then some (.ior, 1, 0, 0) else none) else (bif Nat.blt pc 27 then (bif Nat.beq pc 26 then some (.istore_n 3, 1, 0, 0) else none) else (bif Nat.beq pc 27 then some (.iinc 4 1, 3, 0, 0) else none))) else (bif Nat.blt pc 33 then (bif Nat.beq pc 30 then some (.goto (-25), 3, 5, 0) else none) else (bif Nat.blt pc 34 then (bif Nat.beq pc 33 then some (.iload_n 3, 1, 0, 0) else none) else (bif Nat.beq pc 34 then some (.ireturn, 1, 0, 0) else none)))))) else none
theorem oxn_98 : ∀ pc, 35 ≤ pc → oxi_98 pc = none := fun pc h => by unfold oxi_98; rw [show Nat.blt pc 35 = false from ox_blt h]; rfl
theorem oxd_98 : ∀ pc e, oxi_98 pc = some e → decode prog_7_method_7_code pc = .ok (e.1, e.2.1) := ox_tab 35 oxn_98 (by decide +kernel)
theorem oxc_98 : ∀ pc e, oxi_98 pc = some e → ox_chk 7 pc e = true := ox_tab2 35 oxn_98 (by decide +kernel)
/-- OrderAxioms$Rows.memberAt(II)I -/
def oxi_99 (pc : Nat) : Option (Instr × Nat × Nat × Nat) := bif Nat.blt pc 36 then (bif Nat.blt pc 14 then (bif Nat.blt pc 5 then (bif Nat.blt pc 2 then (bif Nat.blt pc 1 then (bif Nat.beq pc 0 then some (.iconst 0, 1, 0, 0) else none) else (bif Nat.beq pc 1 then some (.istore_n 2, 1, 0, 0) else none)) else (bif Nat.blt pc 3 then (bif Nat.beq pc 2 then some (.iconst 0, 1, 0, 0) else none) else (bif Nat.blt pc 4 then (bif Nat.beq pc 3 then some (.istore_n 3, 1, 0, 0) else none) else (bif Nat.beq pc 4 then some (.iload_n 3, 1, 0, 0) else none)))) else (bif Nat.blt pc 11 then (bif Nat.blt pc 7 then (bif Nat.beq pc 5 then some (.bipush 12, 2, 0, 0) else none) else (bif Nat.blt pc 10 then (bif Nat.beq pc 7 then some (.if_icmp .ge (27), 3, 34, 0) else none) else (bif Nat.beq pc 10 then some (.iload_n 0, 1, 0, 0) else none))) else (bif Nat.blt pc 12 then (bif Nat.beq pc 11 then some (.iconst 1, 1, 0, 0) else none) else (bif Nat.blt pc 13 then (bif Nat.beq pc 12 then some (.iload_n 3, 1, 0, 0) else none) else (bif Nat.beq pc 13 then some (.ishl, 1, 0, 0) else none))))) else (bif Nat.blt pc 24 then (bif Nat.blt pc 19 then (bif Nat.blt pc 15 then (bif Nat.beq pc 14 then some (.iand, 1, 0, 0) else none) else (bif Nat.blt pc 18 then (bif Nat.beq pc 15 then some (.ifCond .eq (13), 3, 28, 0) else none) else (bif Nat.beq pc 18 then some (.iload_n 2, 1, 0, 0) else none))) else (bif Nat.blt pc 20 then (bif Nat.beq pc 19 then some (.iload_n 1, 1, 0, 0) else none) else (bif Nat.blt pc 23 then (bif Nat.beq pc 20 then some (.if_icmp .ne (5), 3, 25, 0) else none) else (bif Nat.beq pc 23 then some (.iload_n 3, 1, 0, 0) else none)))) else (bif Nat.blt pc 31 then (bif Nat.blt pc 25 then (bif Nat.beq pc 24 then some (.ireturn, 1, 0, 0) else none) else (bif Nat.blt pc 28 then (bif Nat.beq pc 25 then some (.iinc 2 1, 3, 0, 0) else none) else (bif Nat.beq pc 28 then some (.iinc 3 1, 3, 0, 0) else none))) else (bif Nat.blt pc 34 then (bif Nat.beq pc 31 then some (.goto (-27), 3, 4, 0) else none) else (bif Nat.blt pc 35 then (bif Nat.beq pc 34 then some (.iconst 0, 1, 0, 0) else none) else (bif Nat.beq pc 35 then some (.ireturn, 1, 0, 0) else none)))))) else none
theorem oxn_99 : ∀ pc, 36 ≤ pc → oxi_99 pc = none := fun pc h => by unfold oxi_99; rw [show Nat.blt pc 36 = false from ox_blt h]; rfl
theorem oxd_99 : ∀ pc e, oxi_99 pc = some e → decode prog_7_method_8_code pc = .ok (e.1, e.2.1) := ox_tab 36 oxn_99 (by decide +kernel)
theorem oxc_99 : ∀ pc e, oxi_99 pc = some e → ox_chk 7 pc e = true := ox_tab2 36 oxn_99 (by decide +kernel)
end
section
/-- OrderAxiomsLaw.thread(LOrderAxioms;[J)I -/
def oxi_100 (pc : Nat) : Option (Instr × Nat × Nat × Nat) := bif Nat.blt pc 16 then (bif Nat.blt pc 8 then (bif Nat.blt pc 3 then (bif Nat.blt pc 1 then (bif Nat.beq pc 0 then some (.aload_n 1, 1, 0, 0) else none) else (bif Nat.blt pc 2 then (bif Nat.beq pc 1 then some (.iconst 0, 1, 0, 0) else none) else (bif Nat.beq pc 2 then some (.aload_n 0, 1, 0, 0) else none))) else (bif Nat.blt pc 6 then (bif Nat.beq pc 3 then some (.invokevirtual 7, 3, 32, 1) else none) else (bif Nat.blt pc 7 then (bif Nat.beq pc 6 then some (.i2l, 1, 0, 0) else none) else (bif Nat.beq pc 7 then some (.lastore, 1, 0, 0) else none)))) else (bif Nat.blt pc 13 then (bif Nat.blt pc 11 then (bif Nat.beq pc 8 then some (.goto (6), 3, 14, 0) else none) else (bif Nat.blt pc 12 then (bif Nat.beq pc 11 then some (.astore_n 2, 1, 0, 0) else none) else (bif Nat.beq pc 12 then some (.iconst 1, 1, 0, 0) else none))) else (bif Nat.blt pc 14 then (bif Nat.beq pc 13 then some (.ireturn, 1, 0, 0) else none) else (bif Nat.blt pc 15 then (bif Nat.beq pc 14 then some (.iconst 0, 1, 0, 0) else none) else (bif Nat.beq pc 15 then some (.ireturn, 1, 0, 0) else none))))) else none
theorem oxn_100 : ∀ pc, 16 ≤ pc → oxi_100 pc = none := fun pc h => by unfold oxi_100; rw [show Nat.blt pc 16 = false from ox_blt h]; rfl
theorem oxd_100 : ∀ pc e, oxi_100 pc = some e → decode method_3_code pc = .ok (e.1, e.2.1) := ox_tab 16 oxn_100 (by decide +kernel)
theorem oxc_100 : ∀ pc e, oxi_100 pc = some e → ox_chk 8 pc e = true := ox_tab2 16 oxn_100 (by decide +kernel)
/-- OrderAxiomsLaw.event(LOrderAxioms;IIII[J)I -/
def oxi_101 (pc : Nat) : Option (Instr × Nat × Nat × Nat) := bif Nat.blt pc 27 then (bif Nat.blt pc 13 then (bif Nat.blt pc 5 then (bif Nat.blt pc 3 then (bif Nat.blt pc 2 then (bif Nat.beq pc 0 then some (.aload 5, 2, 0, 0) else none) else (bif Nat.beq pc 2 then some (.iconst 0, 1, 0, 0) else none)) else (bif Nat.blt pc 4 then (bif Nat.beq pc 3 then some (.aload_n 0, 1, 0, 0) else none) else (bif Nat.beq pc 4 then some (.iload_n 1, 1, 0, 0) else none))) else (bif Nat.blt pc 7 then (bif Nat.blt pc 6 then (bif Nat.beq pc 5 then some (.iload_n 2, 1, 0, 0) else none) else (bif Nat.beq pc 6 then some (.iload_n 3, 1, 0, 0) else none)) else (bif Nat.blt pc 9 then (bif Nat.beq pc 7 then some (.iload 4, 2, 0, 0) else none) else (bif Nat.blt pc 12 then (bif Nat.beq pc 9 then some (.invokevirtual 15, 3, 33, 5) else none) else (bif Nat.beq pc 12 then some (.i2l, 1, 0, 0) else none))))) else (bif Nat.blt pc 21 then (bif Nat.blt pc 17 then (bif Nat.blt pc 14 then (bif Nat.beq pc 13 then some (.lastore, 1, 0, 0) else none) else (bif Nat.beq pc 14 then some (.goto (11), 3, 25, 0) else none)) else (bif Nat.blt pc 19 then (bif Nat.beq pc 17 then some (.astore 6, 2, 0, 0) else none) else (bif Nat.blt pc 20 then (bif Nat.beq pc 19 then some (.iconst 1, 1, 0, 0) else none) else (bif Nat.beq pc 20 then some (.ireturn, 1, 0, 0) else none)))) else (bif Nat.blt pc 24 then (bif Nat.blt pc 23 then (bif Nat.beq pc 21 then some (.astore 6, 2, 0, 0) else none) else (bif Nat.beq pc 23 then some (.iconst 2, 1, 0, 0) else none)) else (bif Nat.blt pc 25 then (bif Nat.beq pc 24 then some (.ireturn, 1, 0, 0) else none) else (bif Nat.blt pc 26 then (bif Nat.beq pc 25 then some (.iconst 0, 1, 0, 0) else none) else (bif Nat.beq pc 26 then some (.ireturn, 1, 0, 0) else none)))))) else none
theorem oxn_101 : ∀ pc, 27 ≤ pc → oxi_101 pc = none := fun pc h => by unfold oxi_101; rw [show Nat.blt pc 27 = false from ox_blt h]; rfl
theorem oxd_101 : ∀ pc e, oxi_101 pc = some e → decode method_4_code pc = .ok (e.1, e.2.1) := ox_tab 27 oxn_101 (by decide +kernel)
theorem oxc_101 : ∀ pc e, oxi_101 pc = some e → ox_chk 8 pc e = true := ox_tab2 27 oxn_101 (by decide +kernel)
/-- OrderAxiomsLaw.depends(LOrderAxioms;II[J)I -/
def oxi_102 (pc : Nat) : Option (Instr × Nat × Nat × Nat) := bif Nat.blt pc 26 then (bif Nat.blt pc 12 then (bif Nat.blt pc 4 then (bif Nat.blt pc 2 then (bif Nat.blt pc 1 then (bif Nat.beq pc 0 then some (.aload_n 3, 1, 0, 0) else none) else (bif Nat.beq pc 1 then some (.iconst 0, 1, 0, 0) else none)) else (bif Nat.blt pc 3 then (bif Nat.beq pc 2 then some (.aload_n 0, 1, 0, 0) else none) else (bif Nat.beq pc 3 then some (.iload_n 1, 1, 0, 0) else none))) else (bif Nat.blt pc 8 then (bif Nat.blt pc 5 then (bif Nat.beq pc 4 then some (.iload_n 2, 1, 0, 0) else none) else (bif Nat.beq pc 5 then some (.invokevirtual 21, 3, 34, 3) else none)) else (bif Nat.blt pc 11 then (bif Nat.beq pc 8 then some (.ifCond .eq (7), 3, 15, 0) else none) else (bif Nat.beq pc 11 then some (.lconst 1, 1, 0, 0) else none)))) else (bif Nat.blt pc 20 then (bif Nat.blt pc 16 then (bif Nat.blt pc 15 then (bif Nat.beq pc 12 then some (.goto (4), 3, 16, 0) else none) else (bif Nat.beq pc 15 then some (.lconst 0, 1, 0, 0) else none)) else (bif Nat.blt pc 17 then (bif Nat.beq pc 16 then some (.lastore, 1, 0, 0) else none) else (bif Nat.beq pc 17 then some (.goto (7), 3, 24, 0) else none))) else (bif Nat.blt pc 23 then (bif Nat.blt pc 22 then (bif Nat.beq pc 20 then some (.astore 4, 2, 0, 0) else none) else (bif Nat.beq pc 22 then some (.iconst 1, 1, 0, 0) else none)) else (bif Nat.blt pc 24 then (bif Nat.beq pc 23 then some (.ireturn, 1, 0, 0) else none) else (bif Nat.blt pc 25 then (bif Nat.beq pc 24 then some (.iconst 0, 1, 0, 0) else none) else (bif Nat.beq pc 25 then some (.ireturn, 1, 0, 0) else none)))))) else none
theorem oxn_102 : ∀ pc, 26 ≤ pc → oxi_102 pc = none := fun pc h => by unfold oxi_102; rw [show Nat.blt pc 26 = false from ox_blt h]; rfl
theorem oxd_102 : ∀ pc e, oxi_102 pc = some e → decode method_5_code pc = .ok (e.1, e.2.1) := ox_tab 26 oxn_102 (by decide +kernel)
theorem oxc_102 : ∀ pc e, oxi_102 pc = some e → ox_chk 8 pc e = true := ox_tab2 26 oxn_102 (by decide +kernel)
/-- OrderAxiomsLaw.make(LOrderAxioms;III[J)I -/
def oxi_103 (pc : Nat) : Option (Instr × Nat × Nat × Nat) := bif Nat.blt pc 25 then (bif Nat.blt pc 12 then (bif Nat.blt pc 5 then (bif Nat.blt pc 3 then (bif Nat.blt pc 2 then (bif Nat.beq pc 0 then some (.aload 4, 2, 0, 0) else none) else (bif Nat.beq pc 2 then some (.iconst 0, 1, 0, 0) else none)) else (bif Nat.blt pc 4 then (bif Nat.beq pc 3 then some (.aload_n 0, 1, 0, 0) else none) else (bif Nat.beq pc 4 then some (.iload_n 1, 1, 0, 0) else none))) else (bif Nat.blt pc 7 then (bif Nat.blt pc 6 then (bif Nat.beq pc 5 then some (.iload_n 2, 1, 0, 0) else none) else (bif Nat.beq pc 6 then some (.iload_n 3, 1, 0, 0) else none)) else (bif Nat.blt pc 10 then (bif Nat.beq pc 7 then some (.invokevirtual 25, 3, 35, 4) else none) else (bif Nat.blt pc 11 then (bif Nat.beq pc 10 then some (.i2l, 1, 0, 0) else none) else (bif Nat.beq pc 11 then some (.lastore, 1, 0, 0) else none))))) else (bif Nat.blt pc 19 then (bif Nat.blt pc 17 then (bif Nat.blt pc 15 then (bif Nat.beq pc 12 then some (.goto (11), 3, 23, 0) else none) else (bif Nat.beq pc 15 then some (.astore 5, 2, 0, 0) else none)) else (bif Nat.blt pc 18 then (bif Nat.beq pc 17 then some (.iconst 1, 1, 0, 0) else none) else (bif Nat.beq pc 18 then some (.ireturn, 1, 0, 0) else none))) else (bif Nat.blt pc 22 then (bif Nat.blt pc 21 then (bif Nat.beq pc 19 then some (.astore 5, 2, 0, 0) else none) else (bif Nat.beq pc 21 then some (.iconst 2, 1, 0, 0) else none)) else (bif Nat.blt pc 23 then (bif Nat.beq pc 22 then some (.ireturn, 1, 0, 0) else none) else (bif Nat.blt pc 24 then (bif Nat.beq pc 23 then some (.iconst 0, 1, 0, 0) else none) else (bif Nat.beq pc 24 then some (.ireturn, 1, 0, 0) else none)))))) else none
theorem oxn_103 : ∀ pc, 25 ≤ pc → oxi_103 pc = none := fun pc h => by unfold oxi_103; rw [show Nat.blt pc 25 = false from ox_blt h]; rfl
theorem oxd_103 : ∀ pc e, oxi_103 pc = some e → decode method_6_code pc = .ok (e.1, e.2.1) := ox_tab 25 oxn_103 (by decide +kernel)
theorem oxc_103 : ∀ pc e, oxi_103 pc = some e → ox_chk 8 pc e = true := ox_tab2 25 oxn_103 (by decide +kernel)
/-- OrderAxiomsLaw.rule(LOrderAxioms;I[J)I -/
def oxi_104 (pc : Nat) : Option (Instr × Nat × Nat × Nat) := bif Nat.blt pc 20 then (bif Nat.blt pc 12 then (bif Nat.blt pc 4 then (bif Nat.blt pc 2 then (bif Nat.blt pc 1 then (bif Nat.beq pc 0 then some (.aload_n 2, 1, 0, 0) else none) else (bif Nat.beq pc 1 then some (.iconst 0, 1, 0, 0) else none)) else (bif Nat.blt pc 3 then (bif Nat.beq pc 2 then some (.aload_n 0, 1, 0, 0) else none) else (bif Nat.beq pc 3 then some (.iload_n 1, 1, 0, 0) else none))) else (bif Nat.blt pc 8 then (bif Nat.blt pc 7 then (bif Nat.beq pc 4 then some (.invokevirtual 29, 3, 36, 2) else none) else (bif Nat.beq pc 7 then some (.i2l, 1, 0, 0) else none)) else (bif Nat.blt pc 9 then (bif Nat.beq pc 8 then some (.lastore, 1, 0, 0) else none) else (bif Nat.beq pc 9 then some (.goto (9), 3, 18, 0) else none)))) else (bif Nat.blt pc 16 then (bif Nat.blt pc 14 then (bif Nat.blt pc 13 then (bif Nat.beq pc 12 then some (.astore_n 3, 1, 0, 0) else none) else (bif Nat.beq pc 13 then some (.iconst 1, 1, 0, 0) else none)) else (bif Nat.blt pc 15 then (bif Nat.beq pc 14 then some (.ireturn, 1, 0, 0) else none) else (bif Nat.beq pc 15 then some (.astore_n 3, 1, 0, 0) else none))) else (bif Nat.blt pc 18 then (bif Nat.blt pc 17 then (bif Nat.beq pc 16 then some (.iconst 2, 1, 0, 0) else none) else (bif Nat.beq pc 17 then some (.ireturn, 1, 0, 0) else none)) else (bif Nat.blt pc 19 then (bif Nat.beq pc 18 then some (.iconst 0, 1, 0, 0) else none) else (bif Nat.beq pc 19 then some (.ireturn, 1, 0, 0) else none))))) else none
theorem oxn_104 : ∀ pc, 20 ≤ pc → oxi_104 pc = none := fun pc h => by unfold oxi_104; rw [show Nat.blt pc 20 = false from ox_blt h]; rfl
theorem oxd_104 : ∀ pc e, oxi_104 pc = some e → decode method_7_code pc = .ok (e.1, e.2.1) := ox_tab 20 oxn_104 (by decide +kernel)
theorem oxc_104 : ∀ pc e, oxi_104 pc = some e → ox_chk 8 pc e = true := ox_tab2 20 oxn_104 (by decide +kernel)
/-- OrderAxiomsLaw.given(LOrderAxioms;I[J)I -/
def oxi_105 (pc : Nat) : Option (Instr × Nat × Nat × Nat) := bif Nat.blt pc 17 then (bif Nat.blt pc 8 then (bif Nat.blt pc 3 then (bif Nat.blt pc 1 then (bif Nat.beq pc 0 then some (.aload_n 2, 1, 0, 0) else none) else (bif Nat.blt pc 2 then (bif Nat.beq pc 1 then some (.iconst 0, 1, 0, 0) else none) else (bif Nat.beq pc 2 then some (.aload_n 0, 1, 0, 0) else none))) else (bif Nat.blt pc 4 then (bif Nat.beq pc 3 then some (.iload_n 1, 1, 0, 0) else none) else (bif Nat.blt pc 7 then (bif Nat.beq pc 4 then some (.invokevirtual 33, 3, 37, 2) else none) else (bif Nat.beq pc 7 then some (.i2l, 1, 0, 0) else none)))) else (bif Nat.blt pc 13 then (bif Nat.blt pc 9 then (bif Nat.beq pc 8 then some (.lastore, 1, 0, 0) else none) else (bif Nat.blt pc 12 then (bif Nat.beq pc 9 then some (.goto (6), 3, 15, 0) else none) else (bif Nat.beq pc 12 then some (.astore_n 3, 1, 0, 0) else none))) else (bif Nat.blt pc 15 then (bif Nat.blt pc 14 then (bif Nat.beq pc 13 then some (.iconst 1, 1, 0, 0) else none) else (bif Nat.beq pc 14 then some (.ireturn, 1, 0, 0) else none)) else (bif Nat.blt pc 16 then (bif Nat.beq pc 15 then some (.iconst 0, 1, 0, 0) else none) else (bif Nat.beq pc 16 then some (.ireturn, 1, 0, 0) else none))))) else none
theorem oxn_105 : ∀ pc, 17 ≤ pc → oxi_105 pc = none := fun pc h => by unfold oxi_105; rw [show Nat.blt pc 17 = false from ox_blt h]; rfl
theorem oxd_105 : ∀ pc e, oxi_105 pc = some e → decode method_8_code pc = .ok (e.1, e.2.1) := ox_tab 17 oxn_105 (by decide +kernel)
theorem oxc_105 : ∀ pc e, oxi_105 pc = some e → ox_chk 8 pc e = true := ox_tab2 17 oxn_105 (by decide +kernel)
/-- OrderAxiomsLaw.run(LOrderAxioms;[J)I -/
def oxi_106 (pc : Nat) : Option (Instr × Nat × Nat × Nat) := bif Nat.blt pc 16 then (bif Nat.blt pc 8 then (bif Nat.blt pc 3 then (bif Nat.blt pc 1 then (bif Nat.beq pc 0 then some (.aload_n 1, 1, 0, 0) else none) else (bif Nat.blt pc 2 then (bif Nat.beq pc 1 then some (.iconst 0, 1, 0, 0) else none) else (bif Nat.beq pc 2 then some (.aload_n 0, 1, 0, 0) else none))) else (bif Nat.blt pc 6 then (bif Nat.beq pc 3 then some (.invokevirtual 36, 3, 38, 1) else none) else (bif Nat.blt pc 7 then (bif Nat.beq pc 6 then some (.i2l, 1, 0, 0) else none) else (bif Nat.beq pc 7 then some (.lastore, 1, 0, 0) else none)))) else (bif Nat.blt pc 13 then (bif Nat.blt pc 11 then (bif Nat.beq pc 8 then some (.goto (6), 3, 14, 0) else none) else (bif Nat.blt pc 12 then (bif Nat.beq pc 11 then some (.astore_n 2, 1, 0, 0) else none) else (bif Nat.beq pc 12 then some (.iconst 1, 1, 0, 0) else none))) else (bif Nat.blt pc 14 then (bif Nat.beq pc 13 then some (.ireturn, 1, 0, 0) else none) else (bif Nat.blt pc 15 then (bif Nat.beq pc 14 then some (.iconst 0, 1, 0, 0) else none) else (bif Nat.beq pc 15 then some (.ireturn, 1, 0, 0) else none))))) else none
theorem oxn_106 : ∀ pc, 16 ≤ pc → oxi_106 pc = none := fun pc h => by unfold oxi_106; rw [show Nat.blt pc 16 = false from ox_blt h]; rfl
theorem oxd_106 : ∀ pc e, oxi_106 pc = some e → decode method_9_code pc = .ok (e.1, e.2.1) := ox_tab 16 oxn_106 (by decide +kernel)
theorem oxc_106 : ∀ pc e, oxi_106 pc = some e → ox_chk 8 pc e = true := ox_tab2 16 oxn_106 (by decide +kernel)
/-- OrderAxiomsLaw.outcome(LOrderAxioms;II[J)I -/
def oxi_107 (pc : Nat) : Option (Instr × Nat × Nat × Nat) := bif Nat.blt pc 19 then (bif Nat.blt pc 9 then (bif Nat.blt pc 3 then (bif Nat.blt pc 1 then (bif Nat.beq pc 0 then some (.aload_n 3, 1, 0, 0) else none) else (bif Nat.blt pc 2 then (bif Nat.beq pc 1 then some (.iconst 0, 1, 0, 0) else none) else (bif Nat.beq pc 2 then some (.aload_n 0, 1, 0, 0) else none))) else (bif Nat.blt pc 5 then (bif Nat.blt pc 4 then (bif Nat.beq pc 3 then some (.iload_n 1, 1, 0, 0) else none) else (bif Nat.beq pc 4 then some (.iload_n 2, 1, 0, 0) else none)) else (bif Nat.blt pc 8 then (bif Nat.beq pc 5 then some (.invokevirtual 39, 3, 39, 3) else none) else (bif Nat.beq pc 8 then some (.i2l, 1, 0, 0) else none)))) else (bif Nat.blt pc 15 then (bif Nat.blt pc 10 then (bif Nat.beq pc 9 then some (.lastore, 1, 0, 0) else none) else (bif Nat.blt pc 13 then (bif Nat.beq pc 10 then some (.goto (7), 3, 17, 0) else none) else (bif Nat.beq pc 13 then some (.astore 4, 2, 0, 0) else none))) else (bif Nat.blt pc 17 then (bif Nat.blt pc 16 then (bif Nat.beq pc 15 then some (.iconst 1, 1, 0, 0) else none) else (bif Nat.beq pc 16 then some (.ireturn, 1, 0, 0) else none)) else (bif Nat.blt pc 18 then (bif Nat.beq pc 17 then some (.iconst 0, 1, 0, 0) else none) else (bif Nat.beq pc 18 then some (.ireturn, 1, 0, 0) else none))))) else none
theorem oxn_107 : ∀ pc, 19 ≤ pc → oxi_107 pc = none := fun pc h => by unfold oxi_107; rw [show Nat.blt pc 19 = false from ox_blt h]; rfl
theorem oxd_107 : ∀ pc e, oxi_107 pc = some e → decode method_10_code pc = .ok (e.1, e.2.1) := ox_tab 19 oxn_107 (by decide +kernel)
theorem oxc_107 : ∀ pc e, oxi_107 pc = some e → ox_chk 8 pc e = true := ox_tab2 19 oxn_107 (by decide +kernel)
/-- OrderAxiomsLaw.witness(LOrderAxioms;II[J)I -/
def oxi_108 (pc : Nat) : Option (Instr × Nat × Nat × Nat) := bif Nat.blt pc 19 then (bif Nat.blt pc 9 then (bif Nat.blt pc 3 then (bif Nat.blt pc 1 then (bif Nat.beq pc 0 then some (.aload_n 3, 1, 0, 0) else none) else (bif Nat.blt pc 2 then (bif Nat.beq pc 1 then some (.iconst 0, 1, 0, 0) else none) else (bif Nat.beq pc 2 then some (.aload_n 0, 1, 0, 0) else none))) else (bif Nat.blt pc 5 then (bif Nat.blt pc 4 then (bif Nat.beq pc 3 then some (.iload_n 1, 1, 0, 0) else none) else (bif Nat.beq pc 4 then some (.iload_n 2, 1, 0, 0) else none)) else (bif Nat.blt pc 8 then (bif Nat.beq pc 5 then some (.invokevirtual 45, 3, 40, 3) else none) else (bif Nat.beq pc 8 then some (.i2l, 1, 0, 0) else none)))) else (bif Nat.blt pc 15 then (bif Nat.blt pc 10 then (bif Nat.beq pc 9 then some (.lastore, 1, 0, 0) else none) else (bif Nat.blt pc 13 then (bif Nat.beq pc 10 then some (.goto (7), 3, 17, 0) else none) else (bif Nat.beq pc 13 then some (.astore 4, 2, 0, 0) else none))) else (bif Nat.blt pc 17 then (bif Nat.blt pc 16 then (bif Nat.beq pc 15 then some (.iconst 1, 1, 0, 0) else none) else (bif Nat.beq pc 16 then some (.ireturn, 1, 0, 0) else none)) else (bif Nat.blt pc 18 then (bif Nat.beq pc 17 then some (.iconst 0, 1, 0, 0) else none) else (bif Nat.beq pc 18 then some (.ireturn, 1, 0, 0) else none))))) else none
theorem oxn_108 : ∀ pc, 19 ≤ pc → oxi_108 pc = none := fun pc h => by unfold oxi_108; rw [show Nat.blt pc 19 = false from ox_blt h]; rfl
theorem oxd_108 : ∀ pc e, oxi_108 pc = some e → decode method_11_code pc = .ok (e.1, e.2.1) := ox_tab 19 oxn_108 (by decide +kernel)
theorem oxc_108 : ∀ pc e, oxi_108 pc = some e → ox_chk 8 pc e = true := ox_tab2 19 oxn_108 (by decide +kernel)
/-- OrderAxiomsLaw.look(LOrderAxioms;I[J)I -/
def oxi_109 (pc : Nat) : Option (Instr × Nat × Nat × Nat) := bif Nat.blt pc 20 then (bif Nat.blt pc 12 then (bif Nat.blt pc 4 then (bif Nat.blt pc 2 then (bif Nat.blt pc 1 then (bif Nat.beq pc 0 then some (.aload_n 2, 1, 0, 0) else none) else (bif Nat.beq pc 1 then some (.iconst 0, 1, 0, 0) else none)) else (bif Nat.blt pc 3 then (bif Nat.beq pc 2 then some (.aload_n 0, 1, 0, 0) else none) else (bif Nat.beq pc 3 then some (.iload_n 1, 1, 0, 0) else none))) else (bif Nat.blt pc 8 then (bif Nat.blt pc 7 then (bif Nat.beq pc 4 then some (.invokevirtual 48, 3, 41, 2) else none) else (bif Nat.beq pc 7 then some (.i2l, 1, 0, 0) else none)) else (bif Nat.blt pc 9 then (bif Nat.beq pc 8 then some (.lastore, 1, 0, 0) else none) else (bif Nat.beq pc 9 then some (.goto (9), 3, 18, 0) else none)))) else (bif Nat.blt pc 16 then (bif Nat.blt pc 14 then (bif Nat.blt pc 13 then (bif Nat.beq pc 12 then some (.astore_n 3, 1, 0, 0) else none) else (bif Nat.beq pc 13 then some (.iconst 1, 1, 0, 0) else none)) else (bif Nat.blt pc 15 then (bif Nat.beq pc 14 then some (.ireturn, 1, 0, 0) else none) else (bif Nat.beq pc 15 then some (.astore_n 3, 1, 0, 0) else none))) else (bif Nat.blt pc 18 then (bif Nat.blt pc 17 then (bif Nat.beq pc 16 then some (.iconst 2, 1, 0, 0) else none) else (bif Nat.beq pc 17 then some (.ireturn, 1, 0, 0) else none)) else (bif Nat.blt pc 19 then (bif Nat.beq pc 18 then some (.iconst 0, 1, 0, 0) else none) else (bif Nat.beq pc 19 then some (.ireturn, 1, 0, 0) else none))))) else none
theorem oxn_109 : ∀ pc, 20 ≤ pc → oxi_109 pc = none := fun pc h => by unfold oxi_109; rw [show Nat.blt pc 20 = false from ox_blt h]; rfl
theorem oxd_109 : ∀ pc e, oxi_109 pc = some e → decode method_12_code pc = .ok (e.1, e.2.1) := ox_tab 20 oxn_109 (by decide +kernel)
theorem oxc_109 : ∀ pc e, oxi_109 pc = some e → ox_chk 8 pc e = true := ox_tab2 20 oxn_109 (by decide +kernel)
/-- OrderAxiomsLaw.source(LOrderAxioms;I[J)I -/
def oxi_110 (pc : Nat) : Option (Instr × Nat × Nat × Nat) := bif Nat.blt pc 17 then (bif Nat.blt pc 8 then (bif Nat.blt pc 3 then (bif Nat.blt pc 1 then (bif Nat.beq pc 0 then some (.aload_n 2, 1, 0, 0) else none) else (bif Nat.blt pc 2 then (bif Nat.beq pc 1 then some (.iconst 0, 1, 0, 0) else none) else (bif Nat.beq pc 2 then some (.aload_n 0, 1, 0, 0) else none))) else (bif Nat.blt pc 4 then (bif Nat.beq pc 3 then some (.iload_n 1, 1, 0, 0) else none) else (bif Nat.blt pc 7 then (bif Nat.beq pc 4 then some (.invokevirtual 51, 3, 42, 2) else none) else (bif Nat.beq pc 7 then some (.i2l, 1, 0, 0) else none)))) else (bif Nat.blt pc 13 then (bif Nat.blt pc 9 then (bif Nat.beq pc 8 then some (.lastore, 1, 0, 0) else none) else (bif Nat.blt pc 12 then (bif Nat.beq pc 9 then some (.goto (6), 3, 15, 0) else none) else (bif Nat.beq pc 12 then some (.astore_n 3, 1, 0, 0) else none))) else (bif Nat.blt pc 15 then (bif Nat.blt pc 14 then (bif Nat.beq pc 13 then some (.iconst 1, 1, 0, 0) else none) else (bif Nat.beq pc 14 then some (.ireturn, 1, 0, 0) else none)) else (bif Nat.blt pc 16 then (bif Nat.beq pc 15 then some (.iconst 0, 1, 0, 0) else none) else (bif Nat.beq pc 16 then some (.ireturn, 1, 0, 0) else none))))) else none
theorem oxn_110 : ∀ pc, 17 ≤ pc → oxi_110 pc = none := fun pc h => by unfold oxi_110; rw [show Nat.blt pc 17 = false from ox_blt h]; rfl
theorem oxd_110 : ∀ pc e, oxi_110 pc = some e → decode method_13_code pc = .ok (e.1, e.2.1) := ox_tab 17 oxn_110 (by decide +kernel)
theorem oxc_110 : ∀ pc e, oxi_110 pc = some e → ox_chk 8 pc e = true := ox_tab2 17 oxn_110 (by decide +kernel)
/-- OrderAxiomsLaw.order(LOrderAxioms;II[J)I -/
def oxi_111 (pc : Nat) : Option (Instr × Nat × Nat × Nat) := bif Nat.blt pc 19 then (bif Nat.blt pc 9 then (bif Nat.blt pc 3 then (bif Nat.blt pc 1 then (bif Nat.beq pc 0 then some (.aload_n 3, 1, 0, 0) else none) else (bif Nat.blt pc 2 then (bif Nat.beq pc 1 then some (.iconst 0, 1, 0, 0) else none) else (bif Nat.beq pc 2 then some (.aload_n 0, 1, 0, 0) else none))) else (bif Nat.blt pc 5 then (bif Nat.blt pc 4 then (bif Nat.beq pc 3 then some (.iload_n 1, 1, 0, 0) else none) else (bif Nat.beq pc 4 then some (.iload_n 2, 1, 0, 0) else none)) else (bif Nat.blt pc 8 then (bif Nat.beq pc 5 then some (.invokevirtual 54, 3, 43, 3) else none) else (bif Nat.beq pc 8 then some (.i2l, 1, 0, 0) else none)))) else (bif Nat.blt pc 15 then (bif Nat.blt pc 10 then (bif Nat.beq pc 9 then some (.lastore, 1, 0, 0) else none) else (bif Nat.blt pc 13 then (bif Nat.beq pc 10 then some (.goto (7), 3, 17, 0) else none) else (bif Nat.beq pc 13 then some (.astore 4, 2, 0, 0) else none))) else (bif Nat.blt pc 17 then (bif Nat.blt pc 16 then (bif Nat.beq pc 15 then some (.iconst 1, 1, 0, 0) else none) else (bif Nat.beq pc 16 then some (.ireturn, 1, 0, 0) else none)) else (bif Nat.blt pc 18 then (bif Nat.beq pc 17 then some (.iconst 0, 1, 0, 0) else none) else (bif Nat.beq pc 18 then some (.ireturn, 1, 0, 0) else none))))) else none
theorem oxn_111 : ∀ pc, 19 ≤ pc → oxi_111 pc = none := fun pc h => by unfold oxi_111; rw [show Nat.blt pc 19 = false from ox_blt h]; rfl
theorem oxd_111 : ∀ pc e, oxi_111 pc = some e → decode method_14_code pc = .ok (e.1, e.2.1) := ox_tab 19 oxn_111 (by decide +kernel)
theorem oxc_111 : ∀ pc e, oxi_111 pc = some e → ox_chk 8 pc e = true := ox_tab2 19 oxn_111 (by decide +kernel)
/-- OrderAxiomsLaw.related(LOrderAxioms;III[J)I -/
def oxi_112 (pc : Nat) : Option (Instr × Nat × Nat × Nat) := bif Nat.blt pc 28 then (bif Nat.blt pc 14 then (bif Nat.blt pc 5 then (bif Nat.blt pc 3 then (bif Nat.blt pc 2 then (bif Nat.beq pc 0 then some (.aload 4, 2, 0, 0) else none) else (bif Nat.beq pc 2 then some (.iconst 0, 1, 0, 0) else none)) else (bif Nat.blt pc 4 then (bif Nat.beq pc 3 then some (.aload_n 0, 1, 0, 0) else none) else (bif Nat.beq pc 4 then some (.iload_n 1, 1, 0, 0) else none))) else (bif Nat.blt pc 7 then (bif Nat.blt pc 6 then (bif Nat.beq pc 5 then some (.iload_n 2, 1, 0, 0) else none) else (bif Nat.beq pc 6 then some (.iload_n 3, 1, 0, 0) else none)) else (bif Nat.blt pc 10 then (bif Nat.beq pc 7 then some (.invokevirtual 57, 3, 44, 4) else none) else (bif Nat.blt pc 13 then (bif Nat.beq pc 10 then some (.ifCond .eq (7), 3, 17, 0) else none) else (bif Nat.beq pc 13 then some (.lconst 1, 1, 0, 0) else none))))) else (bif Nat.blt pc 22 then (bif Nat.blt pc 18 then (bif Nat.blt pc 17 then (bif Nat.beq pc 14 then some (.goto (4), 3, 18, 0) else none) else (bif Nat.beq pc 17 then some (.lconst 0, 1, 0, 0) else none)) else (bif Nat.blt pc 19 then (bif Nat.beq pc 18 then some (.lastore, 1, 0, 0) else none) else (bif Nat.beq pc 19 then some (.goto (7), 3, 26, 0) else none))) else (bif Nat.blt pc 25 then (bif Nat.blt pc 24 then (bif Nat.beq pc 22 then some (.astore 5, 2, 0, 0) else none) else (bif Nat.beq pc 24 then some (.iconst 1, 1, 0, 0) else none)) else (bif Nat.blt pc 26 then (bif Nat.beq pc 25 then some (.ireturn, 1, 0, 0) else none) else (bif Nat.blt pc 27 then (bif Nat.beq pc 26 then some (.iconst 0, 1, 0, 0) else none) else (bif Nat.beq pc 27 then some (.ireturn, 1, 0, 0) else none)))))) else none
theorem oxn_112 : ∀ pc, 28 ≤ pc → oxi_112 pc = none := fun pc h => by unfold oxi_112; rw [show Nat.blt pc 28 = false from ox_blt h]; rfl
theorem oxd_112 : ∀ pc e, oxi_112 pc = some e → decode method_15_code pc = .ok (e.1, e.2.1) := ox_tab 28 oxn_112 (by decide +kernel)
theorem oxc_112 : ∀ pc e, oxi_112 pc = some e → ox_chk 8 pc e = true := ox_tab2 28 oxn_112 (by decide +kernel)
/-- OrderAxiomsLaw.ringAt(LOrderAxioms;I[J)I -/
def oxi_113 (pc : Nat) : Option (Instr × Nat × Nat × Nat) := bif Nat.blt pc 17 then (bif Nat.blt pc 8 then (bif Nat.blt pc 3 then (bif Nat.blt pc 1 then (bif Nat.beq pc 0 then some (.aload_n 2, 1, 0, 0) else none) else (bif Nat.blt pc 2 then (bif Nat.beq pc 1 then some (.iconst 0, 1, 0, 0) else none) else (bif Nat.beq pc 2 then some (.aload_n 0, 1, 0, 0) else none))) else (bif Nat.blt pc 4 then (bif Nat.beq pc 3 then some (.iload_n 1, 1, 0, 0) else none) else (bif Nat.blt pc 7 then (bif Nat.beq pc 4 then some (.invokevirtual 61, 3, 46, 2) else none) else (bif Nat.beq pc 7 then some (.i2l, 1, 0, 0) else none)))) else (bif Nat.blt pc 13 then (bif Nat.blt pc 9 then (bif Nat.beq pc 8 then some (.lastore, 1, 0, 0) else none) else (bif Nat.blt pc 12 then (bif Nat.beq pc 9 then some (.goto (6), 3, 15, 0) else none) else (bif Nat.beq pc 12 then some (.astore_n 3, 1, 0, 0) else none))) else (bif Nat.blt pc 15 then (bif Nat.blt pc 14 then (bif Nat.beq pc 13 then some (.iconst 1, 1, 0, 0) else none) else (bif Nat.beq pc 14 then some (.ireturn, 1, 0, 0) else none)) else (bif Nat.blt pc 16 then (bif Nat.beq pc 15 then some (.iconst 0, 1, 0, 0) else none) else (bif Nat.beq pc 16 then some (.ireturn, 1, 0, 0) else none))))) else none
theorem oxn_113 : ∀ pc, 17 ≤ pc → oxi_113 pc = none := fun pc h => by unfold oxi_113; rw [show Nat.blt pc 17 = false from ox_blt h]; rfl
theorem oxd_113 : ∀ pc e, oxi_113 pc = some e → decode method_16_code pc = .ok (e.1, e.2.1) := ox_tab 17 oxn_113 (by decide +kernel)
theorem oxc_113 : ∀ pc e, oxi_113 pc = some e → ox_chk 8 pc e = true := ox_tab2 17 oxn_113 (by decide +kernel)
/-- OrderAxiomsLaw.law([I)Z -/
def oxi_114 (pc : Nat) : Option (Instr × Nat × Nat × Nat) := bif Nat.blt pc 1085 then (bif Nat.blt pc 579 then (bif Nat.blt pc 327 then (bif Nat.blt pc 202 then (bif Nat.blt pc 149 then (bif Nat.blt pc 33 then (bif Nat.blt pc 19 then (bif Nat.blt pc 11 then (bif Nat.blt pc 4 then (bif Nat.blt pc 3 then (bif Nat.beq pc 0 then some (.new 8, 3, 99, 0) else none) else (bif Nat.beq pc 3 then some (.dup, 1, 0, 0) else none)) else (bif Nat.blt pc 7 then (bif Nat.beq pc 4 then some (.invokespecial 64, 3, 900, 0) else none) else (bif Nat.blt pc 8 then (bif Nat.beq pc 7 then some (.astore_n 1, 1, 0, 0) else none) else (bif Nat.beq pc 8 then some (.new 65, 3, 99, 0) else none)))) else (bif Nat.blt pc 15 then (bif Nat.blt pc 12 then (bif Nat.beq pc 11 then some (.dup, 1, 0, 0) else none) else (bif Nat.beq pc 12 then some (.invokespecial 67, 3, 900, 0) else none)) else (bif Nat.blt pc 16 then (bif Nat.beq pc 15 then some (.astore_n 2, 1, 0, 0) else none) else (bif Nat.blt pc 17 then (bif Nat.beq pc 16 then some (.iconst 1, 1, 0, 0) else none) else (bif Nat.beq pc 17 then some (.newarray .long, 2, 0, 0) else none))))) else (bif Nat.blt pc 26 then (bif Nat.blt pc 21 then (bif Nat.blt pc 20 then (bif Nat.beq pc 19 then some (.astore_n 3, 1, 0, 0) else none) else (bif Nat.beq pc 20 then some (.iconst 0, 1, 0, 0) else none)) else (bif Nat.blt pc 23 then (bif Nat.beq pc 21 then some (.istore 4, 2, 0, 0) else none) else (bif Nat.blt pc 25 then (bif Nat.beq pc 23 then some (.iload 4, 2, 0, 0) else none) else (bif Nat.beq pc 25 then some (.aload_n 0, 1, 0, 0) else none)))) else (bif Nat.blt pc 28 then (bif Nat.blt pc 27 then (bif Nat.beq pc 26 then some (.arraylength, 1, 0, 0) else none) else (bif Nat.beq pc 27 then some (.iconst 5, 1, 0, 0) else none)) else (bif Nat.blt pc 29 then (bif Nat.beq pc 28 then some (.isub, 1, 0, 0) else none) else (bif Nat.blt pc 32 then (bif Nat.beq pc 29 then some (.if_icmp .gt (1054), 3, 1083, 0) else none) else (bif Nat.beq pc 32 then some (.aload_n 0, 1, 0, 0) else none)))))) else (bif Nat.blt pc 128 then (bif Nat.blt pc 120 then (bif Nat.blt pc 36 then (bif Nat.blt pc 35 then (bif Nat.beq pc 33 then some (.iload 4, 2, 0, 0) else none) else (bif Nat.beq pc 35 then some (.iaload, 1, 0, 0) else none)) else (bif Nat.blt pc 38 then (bif Nat.beq pc 36 then some (.bipush 31, 2, 0, 0) else none) else (bif Nat.blt pc 39 then (bif Nat.beq pc 38 then some (.iand, 1, 0, 0) else none) else (bif Nat.beq pc 39 then some (.tableswitch (1038) (0) (16) #[81, 125, 217, 292, 372, 428, 484, 528, 596, 664, 720, 776, 844, 931, 944, 1000, 1025], 81, 0, 0) else none)))) else (bif Nat.blt pc 122 then (bif Nat.blt pc 121 then (bif Nat.beq pc 120 then some (.aload_n 1, 1, 0, 0) else none) else (bif Nat.beq pc 121 then some (.aload_n 3, 1, 0, 0) else none)) else (bif Nat.blt pc 125 then (bif Nat.beq pc 122 then some (.invokestatic 68, 3, 100, 2) else none) else (bif Nat.blt pc 127 then (bif Nat.beq pc 125 then some (.istore 5, 2, 0, 0) else none) else (bif Nat.beq pc 127 then some (.aload_n 2, 1, 0, 0) else none))))) else (bif Nat.blt pc 139 then (bif Nat.blt pc 133 then (bif Nat.blt pc 131 then (bif Nat.beq pc 128 then some (.invokevirtual 73, 3, 53, 1) else none) else (bif Nat.beq pc 131 then some (.istore 6, 2, 0, 0) else none)) else (bif Nat.blt pc 134 then (bif Nat.beq pc 133 then some (.aload_n 2, 1, 0, 0) else none) else (bif Nat.blt pc 137 then (bif Nat.beq pc 134 then some (.invokevirtual 74, 3, 51, 1) else none) else (bif Nat.beq pc 137 then some (.iload 5, 2, 0, 0) else none)))) else (bif Nat.blt pc 143 then (bif Nat.blt pc 142 then (bif Nat.beq pc 139 then some (.if_icmp .eq (5), 3, 144, 0) else none) else (bif Nat.beq pc 142 then some (.iconst 0, 1, 0, 0) else none)) else (bif Nat.blt pc 144 then (bif Nat.beq pc 143 then some (.ireturn, 1, 0, 0) else none) else (bif Nat.blt pc 146 then (bif Nat.beq pc 144 then some (.iload 5, 2, 0, 0) else none) else (bif Nat.beq pc 146 then some (.ifCond .ne (15), 3, 161, 0) else none))))))) else (bif Nat.blt pc 176 then (bif Nat.blt pc 164 then (bif Nat.blt pc 155 then (bif Nat.blt pc 151 then (bif Nat.blt pc 150 then (bif Nat.beq pc 149 then some (.aload_n 3, 1, 0, 0) else none) else (bif Nat.beq pc 150 then some (.iconst 0, 1, 0, 0) else none)) else (bif Nat.blt pc 152 then (bif Nat.beq pc 151 then some (.laload, 1, 0, 0) else none) else (bif Nat.blt pc 154 then (bif Nat.beq pc 152 then some (.iload 6, 2, 0, 0) else none) else (bif Nat.beq pc 154 then some (.i2l, 1, 0, 0) else none)))) else (bif Nat.blt pc 159 then (bif Nat.blt pc 156 then (bif Nat.beq pc 155 then some (.lcmp, 1, 0, 0) else none) else (bif Nat.beq pc 156 then some (.ifCond .eq (5), 3, 161, 0) else none)) else (bif Nat.blt pc 160 then (bif Nat.beq pc 159 then some (.iconst 0, 1, 0, 0) else none) else (bif Nat.blt pc 161 then (bif Nat.beq pc 160 then some (.ireturn, 1, 0, 0) else none) else (bif Nat.beq pc 161 then some (.goto (916), 3, 1077, 0) else none))))) else (bif Nat.blt pc 170 then (bif Nat.blt pc 166 then (bif Nat.blt pc 165 then (bif Nat.beq pc 164 then some (.aload_n 1, 1, 0, 0) else none) else (bif Nat.beq pc 165 then some (.aload_n 0, 1, 0, 0) else none)) else (bif Nat.blt pc 168 then (bif Nat.beq pc 166 then some (.iload 4, 2, 0, 0) else none) else (bif Nat.blt pc 169 then (bif Nat.beq pc 168 then some (.iconst 1, 1, 0, 0) else none) else (bif Nat.beq pc 169 then some (.iadd, 1, 0, 0) else none)))) else (bif Nat.blt pc 172 then (bif Nat.blt pc 171 then (bif Nat.beq pc 170 then some (.iaload, 1, 0, 0) else none) else (bif Nat.beq pc 171 then some (.aload_n 0, 1, 0, 0) else none)) else (bif Nat.blt pc 174 then (bif Nat.beq pc 172 then some (.iload 4, 2, 0, 0) else none) else (bif Nat.blt pc 175 then (bif Nat.beq pc 174 then some (.iconst 2, 1, 0, 0) else none) else (bif Nat.beq pc 175 then some (.iadd, 1, 0, 0) else none)))))) else (bif Nat.blt pc 188 then (bif Nat.blt pc 182 then (bif Nat.blt pc 178 then (bif Nat.blt pc 177 then (bif Nat.beq pc 176 then some (.iaload, 1, 0, 0) else none) else (bif Nat.beq pc 177 then some (.aload_n 0, 1, 0, 0) else none)) else (bif Nat.blt pc 180 then (bif Nat.beq pc 178 then some (.iload 4, 2, 0, 0) else none) else (bif Nat.blt pc 181 then (bif Nat.beq pc 180 then some (.iconst 3, 1, 0, 0) else none) else (bif Nat.beq pc 181 then some (.iadd, 1, 0, 0) else none)))) else (bif Nat.blt pc 184 then (bif Nat.blt pc 183 then (bif Nat.beq pc 182 then some (.iaload, 1, 0, 0) else none) else (bif Nat.beq pc 183 then some (.aload_n 0, 1, 0, 0) else none)) else (bif Nat.blt pc 186 then (bif Nat.beq pc 184 then some (.iload 4, 2, 0, 0) else none) else (bif Nat.blt pc 187 then (bif Nat.beq pc 186 then some (.iconst 4, 1, 0, 0) else none) else (bif Nat.beq pc 187 then some (.iadd, 1, 0, 0) else none))))) else (bif Nat.blt pc 196 then (bif Nat.blt pc 190 then (bif Nat.blt pc 189 then (bif Nat.beq pc 188 then some (.iaload, 1, 0, 0) else none) else (bif Nat.beq pc 189 then some (.aload_n 3, 1, 0, 0) else none)) else (bif Nat.blt pc 193 then (bif Nat.beq pc 190 then some (.invokestatic 77, 3, 101, 6) else none) else (bif Nat.blt pc 195 then (bif Nat.beq pc 193 then some (.istore 5, 2, 0, 0) else none) else (bif Nat.beq pc 195 then some (.aload_n 2, 1, 0, 0) else none)))) else (bif Nat.blt pc 199 then (bif Nat.blt pc 197 then (bif Nat.beq pc 196 then some (.aload_n 0, 1, 0, 0) else none) else (bif Nat.beq pc 197 then some (.iload 4, 2, 0, 0) else none)) else (bif Nat.blt pc 200 then (bif Nat.beq pc 199 then some (.iconst 1, 1, 0, 0) else none) else (bif Nat.blt pc 201 then (bif Nat.beq pc 200 then some (.iadd, 1, 0, 0) else none) else (bif Nat.beq pc 201 then some (.iaload, 1, 0, 0) else none)))))))) else (bif Nat.blt pc 262 then (bif Nat.blt pc 231 then (bif Nat.blt pc 214 then (bif Nat.blt pc 208 then (bif Nat.blt pc 205 then (bif Nat.blt pc 203 then (bif Nat.beq pc 202 then some (.aload_n 0, 1, 0, 0) else none) else (bif Nat.beq pc 203 then some (.iload 4, 2, 0, 0) else none)) else (bif Nat.blt pc 206 then (bif Nat.beq pc 205 then some (.iconst 2, 1, 0, 0) else none) else (bif Nat.blt pc 207 then (bif Nat.beq pc 206 then some (.iadd, 1, 0, 0) else none) else (bif Nat.beq pc 207 then some (.iaload, 1, 0, 0) else none)))) else (bif Nat.blt pc 211 then (bif Nat.blt pc 209 then (bif Nat.beq pc 208 then some (.aload_n 0, 1, 0, 0) else none) else (bif Nat.beq pc 209 then some (.iload 4, 2, 0, 0) else none)) else (bif Nat.blt pc 212 then (bif Nat.beq pc 211 then some (.iconst 3, 1, 0, 0) else none) else (bif Nat.blt pc 213 then (bif Nat.beq pc 212 then some (.iadd, 1, 0, 0) else none) else (bif Nat.beq pc 213 then some (.iaload, 1, 0, 0) else none))))) else (bif Nat.blt pc 220 then (bif Nat.blt pc 217 then (bif Nat.blt pc 215 then (bif Nat.beq pc 214 then some (.aload_n 0, 1, 0, 0) else none) else (bif Nat.beq pc 215 then some (.iload 4, 2, 0, 0) else none)) else (bif Nat.blt pc 218 then (bif Nat.beq pc 217 then some (.iconst 4, 1, 0, 0) else none) else (bif Nat.blt pc 219 then (bif Nat.beq pc 218 then some (.iadd, 1, 0, 0) else none) else (bif Nat.beq pc 219 then some (.iaload, 1, 0, 0) else none)))) else (bif Nat.blt pc 225 then (bif Nat.blt pc 223 then (bif Nat.beq pc 220 then some (.invokevirtual 80, 3, 54, 5) else none) else (bif Nat.beq pc 223 then some (.istore 6, 2, 0, 0) else none)) else (bif Nat.blt pc 226 then (bif Nat.beq pc 225 then some (.aload_n 2, 1, 0, 0) else none) else (bif Nat.blt pc 229 then (bif Nat.beq pc 226 then some (.invokevirtual 74, 3, 51, 1) else none) else (bif Nat.beq pc 229 then some (.iload 5, 2, 0, 0) else none)))))) else (bif Nat.blt pc 247 then (bif Nat.blt pc 241 then (bif Nat.blt pc 235 then (bif Nat.blt pc 234 then (bif Nat.beq pc 231 then some (.if_icmp .eq (5), 3, 236, 0) else none) else (bif Nat.beq pc 234 then some (.iconst 0, 1, 0, 0) else none)) else (bif Nat.blt pc 236 then (bif Nat.beq pc 235 then some (.ireturn, 1, 0, 0) else none) else (bif Nat.blt pc 238 then (bif Nat.beq pc 236 then some (.iload 5, 2, 0, 0) else none) else (bif Nat.beq pc 238 then some (.ifCond .ne (15), 3, 253, 0) else none)))) else (bif Nat.blt pc 243 then (bif Nat.blt pc 242 then (bif Nat.beq pc 241 then some (.aload_n 3, 1, 0, 0) else none) else (bif Nat.beq pc 242 then some (.iconst 0, 1, 0, 0) else none)) else (bif Nat.blt pc 244 then (bif Nat.beq pc 243 then some (.laload, 1, 0, 0) else none) else (bif Nat.blt pc 246 then (bif Nat.beq pc 244 then some (.iload 6, 2, 0, 0) else none) else (bif Nat.beq pc 246 then some (.i2l, 1, 0, 0) else none))))) else (bif Nat.blt pc 256 then (bif Nat.blt pc 251 then (bif Nat.blt pc 248 then (bif Nat.beq pc 247 then some (.lcmp, 1, 0, 0) else none) else (bif Nat.beq pc 248 then some (.ifCond .eq (5), 3, 253, 0) else none)) else (bif Nat.blt pc 252 then (bif Nat.beq pc 251 then some (.iconst 0, 1, 0, 0) else none) else (bif Nat.blt pc 253 then (bif Nat.beq pc 252 then some (.ireturn, 1, 0, 0) else none) else (bif Nat.beq pc 253 then some (.goto (824), 3, 1077, 0) else none)))) else (bif Nat.blt pc 258 then (bif Nat.blt pc 257 then (bif Nat.beq pc 256 then some (.aload_n 1, 1, 0, 0) else none) else (bif Nat.beq pc 257 then some (.aload_n 0, 1, 0, 0) else none)) else (bif Nat.blt pc 260 then (bif Nat.beq pc 258 then some (.iload 4, 2, 0, 0) else none) else (bif Nat.blt pc 261 then (bif Nat.beq pc 260 then some (.iconst 1, 1, 0, 0) else none) else (bif Nat.beq pc 261 then some (.iadd, 1, 0, 0) else none))))))) else (bif Nat.blt pc 288 then (bif Nat.blt pc 276 then (bif Nat.blt pc 268 then (bif Nat.blt pc 264 then (bif Nat.blt pc 263 then (bif Nat.beq pc 262 then some (.iaload, 1, 0, 0) else none) else (bif Nat.beq pc 263 then some (.aload_n 0, 1, 0, 0) else none)) else (bif Nat.blt pc 266 then (bif Nat.beq pc 264 then some (.iload 4, 2, 0, 0) else none) else (bif Nat.blt pc 267 then (bif Nat.beq pc 266 then some (.iconst 2, 1, 0, 0) else none) else (bif Nat.beq pc 267 then some (.iadd, 1, 0, 0) else none)))) else (bif Nat.blt pc 270 then (bif Nat.blt pc 269 then (bif Nat.beq pc 268 then some (.iaload, 1, 0, 0) else none) else (bif Nat.beq pc 269 then some (.aload_n 3, 1, 0, 0) else none)) else (bif Nat.blt pc 273 then (bif Nat.beq pc 270 then some (.invokestatic 81, 3, 102, 4) else none) else (bif Nat.blt pc 275 then (bif Nat.beq pc 273 then some (.istore 5, 2, 0, 0) else none) else (bif Nat.beq pc 275 then some (.aload_n 2, 1, 0, 0) else none))))) else (bif Nat.blt pc 282 then (bif Nat.blt pc 279 then (bif Nat.blt pc 277 then (bif Nat.beq pc 276 then some (.aload_n 0, 1, 0, 0) else none) else (bif Nat.beq pc 277 then some (.iload 4, 2, 0, 0) else none)) else (bif Nat.blt pc 280 then (bif Nat.beq pc 279 then some (.iconst 1, 1, 0, 0) else none) else (bif Nat.blt pc 281 then (bif Nat.beq pc 280 then some (.iadd, 1, 0, 0) else none) else (bif Nat.beq pc 281 then some (.iaload, 1, 0, 0) else none)))) else (bif Nat.blt pc 285 then (bif Nat.blt pc 283 then (bif Nat.beq pc 282 then some (.aload_n 0, 1, 0, 0) else none) else (bif Nat.beq pc 283 then some (.iload 4, 2, 0, 0) else none)) else (bif Nat.blt pc 286 then (bif Nat.beq pc 285 then some (.iconst 2, 1, 0, 0) else none) else (bif Nat.blt pc 287 then (bif Nat.beq pc 286 then some (.iadd, 1, 0, 0) else none) else (bif Nat.beq pc 287 then some (.iaload, 1, 0, 0) else none)))))) else (bif Nat.blt pc 309 then (bif Nat.blt pc 299 then (bif Nat.blt pc 293 then (bif Nat.blt pc 291 then (bif Nat.beq pc 288 then some (.invokevirtual 84, 3, 56, 3) else none) else (bif Nat.beq pc 291 then some (.istore 6, 2, 0, 0) else none)) else (bif Nat.blt pc 294 then (bif Nat.beq pc 293 then some (.aload_n 2, 1, 0, 0) else none) else (bif Nat.blt pc 297 then (bif Nat.beq pc 294 then some (.invokevirtual 74, 3, 51, 1) else none) else (bif Nat.beq pc 297 then some (.iload 5, 2, 0, 0) else none)))) else (bif Nat.blt pc 303 then (bif Nat.blt pc 302 then (bif Nat.beq pc 299 then some (.if_icmp .eq (5), 3, 304, 0) else none) else (bif Nat.beq pc 302 then some (.iconst 0, 1, 0, 0) else none)) else (bif Nat.blt pc 304 then (bif Nat.beq pc 303 then some (.ireturn, 1, 0, 0) else none) else (bif Nat.blt pc 306 then (bif Nat.beq pc 304 then some (.iload 5, 2, 0, 0) else none) else (bif Nat.beq pc 306 then some (.ifCond .ne (22), 3, 328, 0) else none))))) else (bif Nat.blt pc 317 then (bif Nat.blt pc 311 then (bif Nat.blt pc 310 then (bif Nat.beq pc 309 then some (.aload_n 3, 1, 0, 0) else none) else (bif Nat.beq pc 310 then some (.iconst 0, 1, 0, 0) else none)) else (bif Nat.blt pc 312 then (bif Nat.beq pc 311 then some (.laload, 1, 0, 0) else none) else (bif Nat.blt pc 314 then (bif Nat.beq pc 312 then some (.iload 6, 2, 0, 0) else none) else (bif Nat.beq pc 314 then some (.ifCond .eq (7), 3, 321, 0) else none)))) else (bif Nat.blt pc 322 then (bif Nat.blt pc 318 then (bif Nat.beq pc 317 then some (.lconst 1, 1, 0, 0) else none) else (bif Nat.blt pc 321 then (bif Nat.beq pc 318 then some (.goto (4), 3, 322, 0) else none) else (bif Nat.beq pc 321 then some (.lconst 0, 1, 0, 0) else none))) else (bif Nat.blt pc 323 then (bif Nat.beq pc 322 then some (.lcmp, 1, 0, 0) else none) else (bif Nat.blt pc 326 then (bif Nat.beq pc 323 then some (.ifCond .eq (5), 3, 328, 0) else none) else (bif Nat.beq pc 326 then some (.iconst 0, 1, 0, 0) else none))))))))) else (bif Nat.blt pc 449 then (bif Nat.blt pc 381 then (bif Nat.blt pc 354 then (bif Nat.blt pc 341 then (bif Nat.blt pc 335 then (bif Nat.blt pc 331 then (bif Nat.blt pc 328 then (bif Nat.beq pc 327 then some (.ireturn, 1, 0, 0) else none) else (bif Nat.beq pc 328 then some (.goto (749), 3, 1077, 0) else none)) else (bif Nat.blt pc 332 then (bif Nat.beq pc 331 then some (.aload_n 1, 1, 0, 0) else none) else (bif Nat.blt pc 333 then (bif Nat.beq pc 332 then some (.aload_n 0, 1, 0, 0) else none) else (bif Nat.beq pc 333 then some (.iload 4, 2, 0, 0) else none)))) else (bif Nat.blt pc 337 then (bif Nat.blt pc 336 then (bif Nat.beq pc 335 then some (.iconst 1, 1, 0, 0) else none) else (bif Nat.beq pc 336 then some (.iadd, 1, 0, 0) else none)) else (bif Nat.blt pc 338 then (bif Nat.beq pc 337 then some (.iaload, 1, 0, 0) else none) else (bif Nat.blt pc 339 then (bif Nat.beq pc 338 then some (.aload_n 0, 1, 0, 0) else none) else (bif Nat.beq pc 339 then some (.iload 4, 2, 0, 0) else none))))) else (bif Nat.blt pc 347 then (bif Nat.blt pc 343 then (bif Nat.blt pc 342 then (bif Nat.beq pc 341 then some (.iconst 2, 1, 0, 0) else none) else (bif Nat.beq pc 342 then some (.iadd, 1, 0, 0) else none)) else (bif Nat.blt pc 344 then (bif Nat.beq pc 343 then some (.iaload, 1, 0, 0) else none) else (bif Nat.blt pc 345 then (bif Nat.beq pc 344 then some (.aload_n 0, 1, 0, 0) else none) else (bif Nat.beq pc 345 then some (.iload 4, 2, 0, 0) else none)))) else (bif Nat.blt pc 349 then (bif Nat.blt pc 348 then (bif Nat.beq pc 347 then some (.iconst 3, 1, 0, 0) else none) else (bif Nat.beq pc 348 then some (.iadd, 1, 0, 0) else none)) else (bif Nat.blt pc 350 then (bif Nat.beq pc 349 then some (.iaload, 1, 0, 0) else none) else (bif Nat.blt pc 351 then (bif Nat.beq pc 350 then some (.aload_n 3, 1, 0, 0) else none) else (bif Nat.beq pc 351 then some (.invokestatic 85, 3, 103, 5) else none)))))) else (bif Nat.blt pc 367 then (bif Nat.blt pc 361 then (bif Nat.blt pc 357 then (bif Nat.blt pc 356 then (bif Nat.beq pc 354 then some (.istore 5, 2, 0, 0) else none) else (bif Nat.beq pc 356 then some (.aload_n 2, 1, 0, 0) else none)) else (bif Nat.blt pc 358 then (bif Nat.beq pc 357 then some (.aload_n 0, 1, 0, 0) else none) else (bif Nat.blt pc 360 then (bif Nat.beq pc 358 then some (.iload 4, 2, 0, 0) else none) else (bif Nat.beq pc 360 then some (.iconst 1, 1, 0, 0) else none)))) else (bif Nat.blt pc 363 then (bif Nat.blt pc 362 then (bif Nat.beq pc 361 then some (.iadd, 1, 0, 0) else none) else (bif Nat.beq pc 362 then some (.iaload, 1, 0, 0) else none)) else (bif Nat.blt pc 364 then (bif Nat.beq pc 363 then some (.aload_n 0, 1, 0, 0) else none) else (bif Nat.blt pc 366 then (bif Nat.beq pc 364 then some (.iload 4, 2, 0, 0) else none) else (bif Nat.beq pc 366 then some (.iconst 2, 1, 0, 0) else none))))) else (bif Nat.blt pc 373 then (bif Nat.blt pc 369 then (bif Nat.blt pc 368 then (bif Nat.beq pc 367 then some (.iadd, 1, 0, 0) else none) else (bif Nat.beq pc 368 then some (.iaload, 1, 0, 0) else none)) else (bif Nat.blt pc 370 then (bif Nat.beq pc 369 then some (.aload_n 0, 1, 0, 0) else none) else (bif Nat.blt pc 372 then (bif Nat.beq pc 370 then some (.iload 4, 2, 0, 0) else none) else (bif Nat.beq pc 372 then some (.iconst 3, 1, 0, 0) else none)))) else (bif Nat.blt pc 375 then (bif Nat.blt pc 374 then (bif Nat.beq pc 373 then some (.iadd, 1, 0, 0) else none) else (bif Nat.beq pc 374 then some (.iaload, 1, 0, 0) else none)) else (bif Nat.blt pc 378 then (bif Nat.beq pc 375 then some (.invokevirtual 88, 3, 59, 4) else none) else (bif Nat.blt pc 380 then (bif Nat.beq pc 378 then some (.istore 6, 2, 0, 0) else none) else (bif Nat.beq pc 380 then some (.aload_n 2, 1, 0, 0) else none))))))) else (bif Nat.blt pc 415 then (bif Nat.blt pc 399 then (bif Nat.blt pc 391 then (bif Nat.blt pc 386 then (bif Nat.blt pc 384 then (bif Nat.beq pc 381 then some (.invokevirtual 74, 3, 51, 1) else none) else (bif Nat.beq pc 384 then some (.iload 5, 2, 0, 0) else none)) else (bif Nat.blt pc 389 then (bif Nat.beq pc 386 then some (.if_icmp .eq (5), 3, 391, 0) else none) else (bif Nat.blt pc 390 then (bif Nat.beq pc 389 then some (.iconst 0, 1, 0, 0) else none) else (bif Nat.beq pc 390 then some (.ireturn, 1, 0, 0) else none)))) else (bif Nat.blt pc 396 then (bif Nat.blt pc 393 then (bif Nat.beq pc 391 then some (.iload 5, 2, 0, 0) else none) else (bif Nat.beq pc 393 then some (.ifCond .ne (15), 3, 408, 0) else none)) else (bif Nat.blt pc 397 then (bif Nat.beq pc 396 then some (.aload_n 3, 1, 0, 0) else none) else (bif Nat.blt pc 398 then (bif Nat.beq pc 397 then some (.iconst 0, 1, 0, 0) else none) else (bif Nat.beq pc 398 then some (.laload, 1, 0, 0) else none))))) else (bif Nat.blt pc 407 then (bif Nat.blt pc 402 then (bif Nat.blt pc 401 then (bif Nat.beq pc 399 then some (.iload 6, 2, 0, 0) else none) else (bif Nat.beq pc 401 then some (.i2l, 1, 0, 0) else none)) else (bif Nat.blt pc 403 then (bif Nat.beq pc 402 then some (.lcmp, 1, 0, 0) else none) else (bif Nat.blt pc 406 then (bif Nat.beq pc 403 then some (.ifCond .eq (5), 3, 408, 0) else none) else (bif Nat.beq pc 406 then some (.iconst 0, 1, 0, 0) else none)))) else (bif Nat.blt pc 411 then (bif Nat.blt pc 408 then (bif Nat.beq pc 407 then some (.ireturn, 1, 0, 0) else none) else (bif Nat.beq pc 408 then some (.goto (669), 3, 1077, 0) else none)) else (bif Nat.blt pc 412 then (bif Nat.beq pc 411 then some (.aload_n 1, 1, 0, 0) else none) else (bif Nat.blt pc 413 then (bif Nat.beq pc 412 then some (.aload_n 0, 1, 0, 0) else none) else (bif Nat.beq pc 413 then some (.iload 4, 2, 0, 0) else none)))))) else (bif Nat.blt pc 429 then (bif Nat.blt pc 422 then (bif Nat.blt pc 417 then (bif Nat.blt pc 416 then (bif Nat.beq pc 415 then some (.iconst 1, 1, 0, 0) else none) else (bif Nat.beq pc 416 then some (.iadd, 1, 0, 0) else none)) else (bif Nat.blt pc 418 then (bif Nat.beq pc 417 then some (.iaload, 1, 0, 0) else none) else (bif Nat.blt pc 419 then (bif Nat.beq pc 418 then some (.aload_n 3, 1, 0, 0) else none) else (bif Nat.beq pc 419 then some (.invokestatic 89, 3, 104, 3) else none)))) else (bif Nat.blt pc 425 then (bif Nat.blt pc 424 then (bif Nat.beq pc 422 then some (.istore 5, 2, 0, 0) else none) else (bif Nat.beq pc 424 then some (.aload_n 2, 1, 0, 0) else none)) else (bif Nat.blt pc 426 then (bif Nat.beq pc 425 then some (.aload_n 0, 1, 0, 0) else none) else (bif Nat.blt pc 428 then (bif Nat.beq pc 426 then some (.iload 4, 2, 0, 0) else none) else (bif Nat.beq pc 428 then some (.iconst 1, 1, 0, 0) else none))))) else (bif Nat.blt pc 437 then (bif Nat.blt pc 431 then (bif Nat.blt pc 430 then (bif Nat.beq pc 429 then some (.iadd, 1, 0, 0) else none) else (bif Nat.beq pc 430 then some (.iaload, 1, 0, 0) else none)) else (bif Nat.blt pc 434 then (bif Nat.beq pc 431 then some (.invokevirtual 92, 3, 60, 2) else none) else (bif Nat.blt pc 436 then (bif Nat.beq pc 434 then some (.istore 6, 2, 0, 0) else none) else (bif Nat.beq pc 436 then some (.aload_n 2, 1, 0, 0) else none)))) else (bif Nat.blt pc 445 then (bif Nat.blt pc 440 then (bif Nat.beq pc 437 then some (.invokevirtual 74, 3, 51, 1) else none) else (bif Nat.blt pc 442 then (bif Nat.beq pc 440 then some (.iload 5, 2, 0, 0) else none) else (bif Nat.beq pc 442 then some (.if_icmp .eq (5), 3, 447, 0) else none))) else (bif Nat.blt pc 446 then (bif Nat.beq pc 445 then some (.iconst 0, 1, 0, 0) else none) else (bif Nat.blt pc 447 then (bif Nat.beq pc 446 then some (.ireturn, 1, 0, 0) else none) else (bif Nat.beq pc 447 then some (.iload 5, 2, 0, 0) else none)))))))) else (bif Nat.blt pc 513 then (bif Nat.blt pc 480 then (bif Nat.blt pc 464 then (bif Nat.blt pc 457 then (bif Nat.blt pc 453 then (bif Nat.blt pc 452 then (bif Nat.beq pc 449 then some (.ifCond .ne (15), 3, 464, 0) else none) else (bif Nat.beq pc 452 then some (.aload_n 3, 1, 0, 0) else none)) else (bif Nat.blt pc 454 then (bif Nat.beq pc 453 then some (.iconst 0, 1, 0, 0) else none) else (bif Nat.blt pc 455 then (bif Nat.beq pc 454 then some (.laload, 1, 0, 0) else none) else (bif Nat.beq pc 455 then some (.iload 6, 2, 0, 0) else none)))) else (bif Nat.blt pc 459 then (bif Nat.blt pc 458 then (bif Nat.beq pc 457 then some (.i2l, 1, 0, 0) else none) else (bif Nat.beq pc 458 then some (.lcmp, 1, 0, 0) else none)) else (bif Nat.blt pc 462 then (bif Nat.beq pc 459 then some (.ifCond .eq (5), 3, 464, 0) else none) else (bif Nat.blt pc 463 then (bif Nat.beq pc 462 then some (.iconst 0, 1, 0, 0) else none) else (bif Nat.beq pc 463 then some (.ireturn, 1, 0, 0) else none))))) else (bif Nat.blt pc 472 then (bif Nat.blt pc 468 then (bif Nat.blt pc 467 then (bif Nat.beq pc 464 then some (.goto (613), 3, 1077, 0) else none) else (bif Nat.beq pc 467 then some (.aload_n 1, 1, 0, 0) else none)) else (bif Nat.blt pc 469 then (bif Nat.beq pc 468 then some (.aload_n 0, 1, 0, 0) else none) else (bif Nat.blt pc 471 then (bif Nat.beq pc 469 then some (.iload 4, 2, 0, 0) else none) else (bif Nat.beq pc 471 then some (.iconst 1, 1, 0, 0) else none)))) else (bif Nat.blt pc 474 then (bif Nat.blt pc 473 then (bif Nat.beq pc 472 then some (.iadd, 1, 0, 0) else none) else (bif Nat.beq pc 473 then some (.iaload, 1, 0, 0) else none)) else (bif Nat.blt pc 475 then (bif Nat.beq pc 474 then some (.aload_n 3, 1, 0, 0) else none) else (bif Nat.blt pc 478 then (bif Nat.beq pc 475 then some (.invokestatic 93, 3, 105, 3) else none) else (bif Nat.beq pc 478 then some (.istore 5, 2, 0, 0) else none)))))) else (bif Nat.blt pc 496 then (bif Nat.blt pc 486 then (bif Nat.blt pc 482 then (bif Nat.blt pc 481 then (bif Nat.beq pc 480 then some (.aload_n 2, 1, 0, 0) else none) else (bif Nat.beq pc 481 then some (.aload_n 0, 1, 0, 0) else none)) else (bif Nat.blt pc 484 then (bif Nat.beq pc 482 then some (.iload 4, 2, 0, 0) else none) else (bif Nat.blt pc 485 then (bif Nat.beq pc 484 then some (.iconst 1, 1, 0, 0) else none) else (bif Nat.beq pc 485 then some (.iadd, 1, 0, 0) else none)))) else (bif Nat.blt pc 490 then (bif Nat.blt pc 487 then (bif Nat.beq pc 486 then some (.iaload, 1, 0, 0) else none) else (bif Nat.beq pc 487 then some (.invokevirtual 95, 3, 62, 2) else none)) else (bif Nat.blt pc 492 then (bif Nat.beq pc 490 then some (.istore 6, 2, 0, 0) else none) else (bif Nat.blt pc 493 then (bif Nat.beq pc 492 then some (.aload_n 2, 1, 0, 0) else none) else (bif Nat.beq pc 493 then some (.invokevirtual 74, 3, 51, 1) else none))))) else (bif Nat.blt pc 505 then (bif Nat.blt pc 501 then (bif Nat.blt pc 498 then (bif Nat.beq pc 496 then some (.iload 5, 2, 0, 0) else none) else (bif Nat.beq pc 498 then some (.if_icmp .eq (5), 3, 503, 0) else none)) else (bif Nat.blt pc 502 then (bif Nat.beq pc 501 then some (.iconst 0, 1, 0, 0) else none) else (bif Nat.blt pc 503 then (bif Nat.beq pc 502 then some (.ireturn, 1, 0, 0) else none) else (bif Nat.beq pc 503 then some (.iload 5, 2, 0, 0) else none)))) else (bif Nat.blt pc 509 then (bif Nat.blt pc 508 then (bif Nat.beq pc 505 then some (.ifCond .ne (15), 3, 520, 0) else none) else (bif Nat.beq pc 508 then some (.aload_n 3, 1, 0, 0) else none)) else (bif Nat.blt pc 510 then (bif Nat.beq pc 509 then some (.iconst 0, 1, 0, 0) else none) else (bif Nat.blt pc 511 then (bif Nat.beq pc 510 then some (.laload, 1, 0, 0) else none) else (bif Nat.beq pc 511 then some (.iload 6, 2, 0, 0) else none))))))) else (bif Nat.blt pc 549 then (bif Nat.blt pc 530 then (bif Nat.blt pc 520 then (bif Nat.blt pc 515 then (bif Nat.blt pc 514 then (bif Nat.beq pc 513 then some (.i2l, 1, 0, 0) else none) else (bif Nat.beq pc 514 then some (.lcmp, 1, 0, 0) else none)) else (bif Nat.blt pc 518 then (bif Nat.beq pc 515 then some (.ifCond .eq (5), 3, 520, 0) else none) else (bif Nat.blt pc 519 then (bif Nat.beq pc 518 then some (.iconst 0, 1, 0, 0) else none) else (bif Nat.beq pc 519 then some (.ireturn, 1, 0, 0) else none)))) else (bif Nat.blt pc 524 then (bif Nat.blt pc 523 then (bif Nat.beq pc 520 then some (.goto (557), 3, 1077, 0) else none) else (bif Nat.beq pc 523 then some (.aload_n 1, 1, 0, 0) else none)) else (bif Nat.blt pc 525 then (bif Nat.beq pc 524 then some (.aload_n 3, 1, 0, 0) else none) else (bif Nat.blt pc 528 then (bif Nat.beq pc 525 then some (.invokestatic 96, 3, 106, 2) else none) else (bif Nat.beq pc 528 then some (.istore 5, 2, 0, 0) else none))))) else (bif Nat.blt pc 540 then (bif Nat.blt pc 534 then (bif Nat.blt pc 531 then (bif Nat.beq pc 530 then some (.aload_n 2, 1, 0, 0) else none) else (bif Nat.beq pc 531 then some (.invokevirtual 98, 3, 81, 1) else none)) else (bif Nat.blt pc 536 then (bif Nat.beq pc 534 then some (.istore 6, 2, 0, 0) else none) else (bif Nat.blt pc 537 then (bif Nat.beq pc 536 then some (.aload_n 2, 1, 0, 0) else none) else (bif Nat.beq pc 537 then some (.invokevirtual 74, 3, 51, 1) else none)))) else (bif Nat.blt pc 545 then (bif Nat.blt pc 542 then (bif Nat.beq pc 540 then some (.iload 5, 2, 0, 0) else none) else (bif Nat.beq pc 542 then some (.if_icmp .eq (5), 3, 547, 0) else none)) else (bif Nat.blt pc 546 then (bif Nat.beq pc 545 then some (.iconst 0, 1, 0, 0) else none) else (bif Nat.blt pc 547 then (bif Nat.beq pc 546 then some (.ireturn, 1, 0, 0) else none) else (bif Nat.beq pc 547 then some (.iload 5, 2, 0, 0) else none)))))) else (bif Nat.blt pc 564 then (bif Nat.blt pc 557 then (bif Nat.blt pc 553 then (bif Nat.blt pc 552 then (bif Nat.beq pc 549 then some (.ifCond .ne (15), 3, 564, 0) else none) else (bif Nat.beq pc 552 then some (.aload_n 3, 1, 0, 0) else none)) else (bif Nat.blt pc 554 then (bif Nat.beq pc 553 then some (.iconst 0, 1, 0, 0) else none) else (bif Nat.blt pc 555 then (bif Nat.beq pc 554 then some (.laload, 1, 0, 0) else none) else (bif Nat.beq pc 555 then some (.iload 6, 2, 0, 0) else none)))) else (bif Nat.blt pc 559 then (bif Nat.blt pc 558 then (bif Nat.beq pc 557 then some (.i2l, 1, 0, 0) else none) else (bif Nat.beq pc 558 then some (.lcmp, 1, 0, 0) else none)) else (bif Nat.blt pc 562 then (bif Nat.beq pc 559 then some (.ifCond .eq (5), 3, 564, 0) else none) else (bif Nat.blt pc 563 then (bif Nat.beq pc 562 then some (.iconst 0, 1, 0, 0) else none) else (bif Nat.beq pc 563 then some (.ireturn, 1, 0, 0) else none))))) else (bif Nat.blt pc 572 then (bif Nat.blt pc 568 then (bif Nat.blt pc 567 then (bif Nat.beq pc 564 then some (.goto (513), 3, 1077, 0) else none) else (bif Nat.beq pc 567 then some (.aload_n 1, 1, 0, 0) else none)) else (bif Nat.blt pc 569 then (bif Nat.beq pc 568 then some (.aload_n 0, 1, 0, 0) else none) else (bif Nat.blt pc 571 then (bif Nat.beq pc 569 then some (.iload 4, 2, 0, 0) else none) else (bif Nat.beq pc 571 then some (.iconst 1, 1, 0, 0) else none)))) else (bif Nat.blt pc 575 then (bif Nat.blt pc 573 then (bif Nat.beq pc 572 then some (.iadd, 1, 0, 0) else none) else (bif Nat.blt pc 574 then (bif Nat.beq pc 573 then some (.iaload, 1, 0, 0) else none) else (bif Nat.beq pc 574 then some (.aload_n 0, 1, 0, 0) else none))) else (bif Nat.blt pc 577 then (bif Nat.beq pc 575 then some (.iload 4, 2, 0, 0) else none) else (bif Nat.blt pc 578 then (bif Nat.beq pc 577 then some (.iconst 2, 1, 0, 0) else none) else (bif Nat.beq pc 578 then some (.iadd, 1, 0, 0) else none)))))))))) else (bif Nat.blt pc 828 then (bif Nat.blt pc 703 then (bif Nat.blt pc 641 then (bif Nat.blt pc 610 then (bif Nat.blt pc 593 then (bif Nat.blt pc 587 then (bif Nat.blt pc 581 then (bif Nat.blt pc 580 then (bif Nat.beq pc 579 then some (.iaload, 1, 0, 0) else none) else (bif Nat.beq pc 580 then some (.aload_n 3, 1, 0, 0) else none)) else (bif Nat.blt pc 584 then (bif Nat.beq pc 581 then some (.invokestatic 99, 3, 107, 4) else none) else (bif Nat.blt pc 586 then (bif Nat.beq pc 584 then some (.istore 5, 2, 0, 0) else none) else (bif Nat.beq pc 586 then some (.aload_n 2, 1, 0, 0) else none)))) else (bif Nat.blt pc 590 then (bif Nat.blt pc 588 then (bif Nat.beq pc 587 then some (.aload_n 0, 1, 0, 0) else none) else (bif Nat.beq pc 588 then some (.iload 4, 2, 0, 0) else none)) else (bif Nat.blt pc 591 then (bif Nat.beq pc 590 then some (.iconst 1, 1, 0, 0) else none) else (bif Nat.blt pc 592 then (bif Nat.beq pc 591 then some (.iadd, 1, 0, 0) else none) else (bif Nat.beq pc 592 then some (.iaload, 1, 0, 0) else none))))) else (bif Nat.blt pc 599 then (bif Nat.blt pc 596 then (bif Nat.blt pc 594 then (bif Nat.beq pc 593 then some (.aload_n 0, 1, 0, 0) else none) else (bif Nat.beq pc 594 then some (.iload 4, 2, 0, 0) else none)) else (bif Nat.blt pc 597 then (bif Nat.beq pc 596 then some (.iconst 2, 1, 0, 0) else none) else (bif Nat.blt pc 598 then (bif Nat.beq pc 597 then some (.iadd, 1, 0, 0) else none) else (bif Nat.beq pc 598 then some (.iaload, 1, 0, 0) else none)))) else (bif Nat.blt pc 604 then (bif Nat.blt pc 602 then (bif Nat.beq pc 599 then some (.invokevirtual 101, 3, 82, 3) else none) else (bif Nat.beq pc 602 then some (.istore 6, 2, 0, 0) else none)) else (bif Nat.blt pc 605 then (bif Nat.beq pc 604 then some (.aload_n 2, 1, 0, 0) else none) else (bif Nat.blt pc 608 then (bif Nat.beq pc 605 then some (.invokevirtual 74, 3, 51, 1) else none) else (bif Nat.beq pc 608 then some (.iload 5, 2, 0, 0) else none)))))) else (bif Nat.blt pc 626 then (bif Nat.blt pc 620 then (bif Nat.blt pc 614 then (bif Nat.blt pc 613 then (bif Nat.beq pc 610 then some (.if_icmp .eq (5), 3, 615, 0) else none) else (bif Nat.beq pc 613 then some (.iconst 0, 1, 0, 0) else none)) else (bif Nat.blt pc 615 then (bif Nat.beq pc 614 then some (.ireturn, 1, 0, 0) else none) else (bif Nat.blt pc 617 then (bif Nat.beq pc 615 then some (.iload 5, 2, 0, 0) else none) else (bif Nat.beq pc 617 then some (.ifCond .ne (15), 3, 632, 0) else none)))) else (bif Nat.blt pc 622 then (bif Nat.blt pc 621 then (bif Nat.beq pc 620 then some (.aload_n 3, 1, 0, 0) else none) else (bif Nat.beq pc 621 then some (.iconst 0, 1, 0, 0) else none)) else (bif Nat.blt pc 623 then (bif Nat.beq pc 622 then some (.laload, 1, 0, 0) else none) else (bif Nat.blt pc 625 then (bif Nat.beq pc 623 then some (.iload 6, 2, 0, 0) else none) else (bif Nat.beq pc 625 then some (.i2l, 1, 0, 0) else none))))) else (bif Nat.blt pc 635 then (bif Nat.blt pc 630 then (bif Nat.blt pc 627 then (bif Nat.beq pc 626 then some (.lcmp, 1, 0, 0) else none) else (bif Nat.beq pc 627 then some (.ifCond .eq (5), 3, 632, 0) else none)) else (bif Nat.blt pc 631 then (bif Nat.beq pc 630 then some (.iconst 0, 1, 0, 0) else none) else (bif Nat.blt pc 632 then (bif Nat.beq pc 631 then some (.ireturn, 1, 0, 0) else none) else (bif Nat.beq pc 632 then some (.goto (445), 3, 1077, 0) else none)))) else (bif Nat.blt pc 637 then (bif Nat.blt pc 636 then (bif Nat.beq pc 635 then some (.aload_n 1, 1, 0, 0) else none) else (bif Nat.beq pc 636 then some (.aload_n 0, 1, 0, 0) else none)) else (bif Nat.blt pc 639 then (bif Nat.beq pc 637 then some (.iload 4, 2, 0, 0) else none) else (bif Nat.blt pc 640 then (bif Nat.beq pc 639 then some (.iconst 1, 1, 0, 0) else none) else (bif Nat.beq pc 640 then some (.iadd, 1, 0, 0) else none))))))) else (bif Nat.blt pc 667 then (bif Nat.blt pc 655 then (bif Nat.blt pc 647 then (bif Nat.blt pc 643 then (bif Nat.blt pc 642 then (bif Nat.beq pc 641 then some (.iaload, 1, 0, 0) else none) else (bif Nat.beq pc 642 then some (.aload_n 0, 1, 0, 0) else none)) else (bif Nat.blt pc 645 then (bif Nat.beq pc 643 then some (.iload 4, 2, 0, 0) else none) else (bif Nat.blt pc 646 then (bif Nat.beq pc 645 then some (.iconst 2, 1, 0, 0) else none) else (bif Nat.beq pc 646 then some (.iadd, 1, 0, 0) else none)))) else (bif Nat.blt pc 649 then (bif Nat.blt pc 648 then (bif Nat.beq pc 647 then some (.iaload, 1, 0, 0) else none) else (bif Nat.beq pc 648 then some (.aload_n 3, 1, 0, 0) else none)) else (bif Nat.blt pc 652 then (bif Nat.beq pc 649 then some (.invokestatic 102, 3, 108, 4) else none) else (bif Nat.blt pc 654 then (bif Nat.beq pc 652 then some (.istore 5, 2, 0, 0) else none) else (bif Nat.beq pc 654 then some (.aload_n 2, 1, 0, 0) else none))))) else (bif Nat.blt pc 661 then (bif Nat.blt pc 658 then (bif Nat.blt pc 656 then (bif Nat.beq pc 655 then some (.aload_n 0, 1, 0, 0) else none) else (bif Nat.beq pc 656 then some (.iload 4, 2, 0, 0) else none)) else (bif Nat.blt pc 659 then (bif Nat.beq pc 658 then some (.iconst 1, 1, 0, 0) else none) else (bif Nat.blt pc 660 then (bif Nat.beq pc 659 then some (.iadd, 1, 0, 0) else none) else (bif Nat.beq pc 660 then some (.iaload, 1, 0, 0) else none)))) else (bif Nat.blt pc 664 then (bif Nat.blt pc 662 then (bif Nat.beq pc 661 then some (.aload_n 0, 1, 0, 0) else none) else (bif Nat.beq pc 662 then some (.iload 4, 2, 0, 0) else none)) else (bif Nat.blt pc 665 then (bif Nat.beq pc 664 then some (.iconst 2, 1, 0, 0) else none) else (bif Nat.blt pc 666 then (bif Nat.beq pc 665 then some (.iadd, 1, 0, 0) else none) else (bif Nat.beq pc 666 then some (.iaload, 1, 0, 0) else none)))))) else (bif Nat.blt pc 688 then (bif Nat.blt pc 678 then (bif Nat.blt pc 672 then (bif Nat.blt pc 670 then (bif Nat.beq pc 667 then some (.invokevirtual 104, 3, 83, 3) else none) else (bif Nat.beq pc 670 then some (.istore 6, 2, 0, 0) else none)) else (bif Nat.blt pc 673 then (bif Nat.beq pc 672 then some (.aload_n 2, 1, 0, 0) else none) else (bif Nat.blt pc 676 then (bif Nat.beq pc 673 then some (.invokevirtual 74, 3, 51, 1) else none) else (bif Nat.beq pc 676 then some (.iload 5, 2, 0, 0) else none)))) else (bif Nat.blt pc 682 then (bif Nat.blt pc 681 then (bif Nat.beq pc 678 then some (.if_icmp .eq (5), 3, 683, 0) else none) else (bif Nat.beq pc 681 then some (.iconst 0, 1, 0, 0) else none)) else (bif Nat.blt pc 683 then (bif Nat.beq pc 682 then some (.ireturn, 1, 0, 0) else none) else (bif Nat.blt pc 685 then (bif Nat.beq pc 683 then some (.iload 5, 2, 0, 0) else none) else (bif Nat.beq pc 685 then some (.ifCond .ne (15), 3, 700, 0) else none))))) else (bif Nat.blt pc 694 then (bif Nat.blt pc 690 then (bif Nat.blt pc 689 then (bif Nat.beq pc 688 then some (.aload_n 3, 1, 0, 0) else none) else (bif Nat.beq pc 689 then some (.iconst 0, 1, 0, 0) else none)) else (bif Nat.blt pc 691 then (bif Nat.beq pc 690 then some (.laload, 1, 0, 0) else none) else (bif Nat.blt pc 693 then (bif Nat.beq pc 691 then some (.iload 6, 2, 0, 0) else none) else (bif Nat.beq pc 693 then some (.i2l, 1, 0, 0) else none)))) else (bif Nat.blt pc 698 then (bif Nat.blt pc 695 then (bif Nat.beq pc 694 then some (.lcmp, 1, 0, 0) else none) else (bif Nat.beq pc 695 then some (.ifCond .eq (5), 3, 700, 0) else none)) else (bif Nat.blt pc 699 then (bif Nat.beq pc 698 then some (.iconst 0, 1, 0, 0) else none) else (bif Nat.blt pc 700 then (bif Nat.beq pc 699 then some (.ireturn, 1, 0, 0) else none) else (bif Nat.beq pc 700 then some (.goto (377), 3, 1077, 0) else none)))))))) else (bif Nat.blt pc 765 then (bif Nat.blt pc 734 then (bif Nat.blt pc 717 then (bif Nat.blt pc 709 then (bif Nat.blt pc 705 then (bif Nat.blt pc 704 then (bif Nat.beq pc 703 then some (.aload_n 1, 1, 0, 0) else none) else (bif Nat.beq pc 704 then some (.aload_n 0, 1, 0, 0) else none)) else (bif Nat.blt pc 707 then (bif Nat.beq pc 705 then some (.iload 4, 2, 0, 0) else none) else (bif Nat.blt pc 708 then (bif Nat.beq pc 707 then some (.iconst 1, 1, 0, 0) else none) else (bif Nat.beq pc 708 then some (.iadd, 1, 0, 0) else none)))) else (bif Nat.blt pc 711 then (bif Nat.blt pc 710 then (bif Nat.beq pc 709 then some (.iaload, 1, 0, 0) else none) else (bif Nat.beq pc 710 then some (.aload_n 3, 1, 0, 0) else none)) else (bif Nat.blt pc 714 then (bif Nat.beq pc 711 then some (.invokestatic 105, 3, 109, 3) else none) else (bif Nat.blt pc 716 then (bif Nat.beq pc 714 then some (.istore 5, 2, 0, 0) else none) else (bif Nat.beq pc 716 then some (.aload_n 2, 1, 0, 0) else none))))) else (bif Nat.blt pc 723 then (bif Nat.blt pc 720 then (bif Nat.blt pc 718 then (bif Nat.beq pc 717 then some (.aload_n 0, 1, 0, 0) else none) else (bif Nat.beq pc 718 then some (.iload 4, 2, 0, 0) else none)) else (bif Nat.blt pc 721 then (bif Nat.beq pc 720 then some (.iconst 1, 1, 0, 0) else none) else (bif Nat.blt pc 722 then (bif Nat.beq pc 721 then some (.iadd, 1, 0, 0) else none) else (bif Nat.beq pc 722 then some (.iaload, 1, 0, 0) else none)))) else (bif Nat.blt pc 728 then (bif Nat.blt pc 726 then (bif Nat.beq pc 723 then some (.invokevirtual 107, 3, 85, 2) else none) else (bif Nat.beq pc 726 then some (.istore 6, 2, 0, 0) else none)) else (bif Nat.blt pc 729 then (bif Nat.beq pc 728 then some (.aload_n 2, 1, 0, 0) else none) else (bif Nat.blt pc 732 then (bif Nat.beq pc 729 then some (.invokevirtual 74, 3, 51, 1) else none) else (bif Nat.beq pc 732 then some (.iload 5, 2, 0, 0) else none)))))) else (bif Nat.blt pc 750 then (bif Nat.blt pc 744 then (bif Nat.blt pc 738 then (bif Nat.blt pc 737 then (bif Nat.beq pc 734 then some (.if_icmp .eq (5), 3, 739, 0) else none) else (bif Nat.beq pc 737 then some (.iconst 0, 1, 0, 0) else none)) else (bif Nat.blt pc 739 then (bif Nat.beq pc 738 then some (.ireturn, 1, 0, 0) else none) else (bif Nat.blt pc 741 then (bif Nat.beq pc 739 then some (.iload 5, 2, 0, 0) else none) else (bif Nat.beq pc 741 then some (.ifCond .ne (15), 3, 756, 0) else none)))) else (bif Nat.blt pc 746 then (bif Nat.blt pc 745 then (bif Nat.beq pc 744 then some (.aload_n 3, 1, 0, 0) else none) else (bif Nat.beq pc 745 then some (.iconst 0, 1, 0, 0) else none)) else (bif Nat.blt pc 747 then (bif Nat.beq pc 746 then some (.laload, 1, 0, 0) else none) else (bif Nat.blt pc 749 then (bif Nat.beq pc 747 then some (.iload 6, 2, 0, 0) else none) else (bif Nat.beq pc 749 then some (.i2l, 1, 0, 0) else none))))) else (bif Nat.blt pc 759 then (bif Nat.blt pc 754 then (bif Nat.blt pc 751 then (bif Nat.beq pc 750 then some (.lcmp, 1, 0, 0) else none) else (bif Nat.beq pc 751 then some (.ifCond .eq (5), 3, 756, 0) else none)) else (bif Nat.blt pc 755 then (bif Nat.beq pc 754 then some (.iconst 0, 1, 0, 0) else none) else (bif Nat.blt pc 756 then (bif Nat.beq pc 755 then some (.ireturn, 1, 0, 0) else none) else (bif Nat.beq pc 756 then some (.goto (321), 3, 1077, 0) else none)))) else (bif Nat.blt pc 761 then (bif Nat.blt pc 760 then (bif Nat.beq pc 759 then some (.aload_n 1, 1, 0, 0) else none) else (bif Nat.beq pc 760 then some (.aload_n 0, 1, 0, 0) else none)) else (bif Nat.blt pc 763 then (bif Nat.beq pc 761 then some (.iload 4, 2, 0, 0) else none) else (bif Nat.blt pc 764 then (bif Nat.beq pc 763 then some (.iconst 1, 1, 0, 0) else none) else (bif Nat.beq pc 764 then some (.iadd, 1, 0, 0) else none))))))) else (bif Nat.blt pc 800 then (bif Nat.blt pc 779 then (bif Nat.blt pc 773 then (bif Nat.blt pc 767 then (bif Nat.blt pc 766 then (bif Nat.beq pc 765 then some (.iaload, 1, 0, 0) else none) else (bif Nat.beq pc 766 then some (.aload_n 3, 1, 0, 0) else none)) else (bif Nat.blt pc 770 then (bif Nat.beq pc 767 then some (.invokestatic 108, 3, 110, 3) else none) else (bif Nat.blt pc 772 then (bif Nat.beq pc 770 then some (.istore 5, 2, 0, 0) else none) else (bif Nat.beq pc 772 then some (.aload_n 2, 1, 0, 0) else none)))) else (bif Nat.blt pc 776 then (bif Nat.blt pc 774 then (bif Nat.beq pc 773 then some (.aload_n 0, 1, 0, 0) else none) else (bif Nat.beq pc 774 then some (.iload 4, 2, 0, 0) else none)) else (bif Nat.blt pc 777 then (bif Nat.beq pc 776 then some (.iconst 1, 1, 0, 0) else none) else (bif Nat.blt pc 778 then (bif Nat.beq pc 777 then some (.iadd, 1, 0, 0) else none) else (bif Nat.beq pc 778 then some (.iaload, 1, 0, 0) else none))))) else (bif Nat.blt pc 790 then (bif Nat.blt pc 784 then (bif Nat.blt pc 782 then (bif Nat.beq pc 779 then some (.invokevirtual 110, 3, 86, 2) else none) else (bif Nat.beq pc 782 then some (.istore 6, 2, 0, 0) else none)) else (bif Nat.blt pc 785 then (bif Nat.beq pc 784 then some (.aload_n 2, 1, 0, 0) else none) else (bif Nat.blt pc 788 then (bif Nat.beq pc 785 then some (.invokevirtual 74, 3, 51, 1) else none) else (bif Nat.beq pc 788 then some (.iload 5, 2, 0, 0) else none)))) else (bif Nat.blt pc 794 then (bif Nat.blt pc 793 then (bif Nat.beq pc 790 then some (.if_icmp .eq (5), 3, 795, 0) else none) else (bif Nat.beq pc 793 then some (.iconst 0, 1, 0, 0) else none)) else (bif Nat.blt pc 795 then (bif Nat.beq pc 794 then some (.ireturn, 1, 0, 0) else none) else (bif Nat.blt pc 797 then (bif Nat.beq pc 795 then some (.iload 5, 2, 0, 0) else none) else (bif Nat.beq pc 797 then some (.ifCond .ne (15), 3, 812, 0) else none)))))) else (bif Nat.blt pc 815 then (bif Nat.blt pc 806 then (bif Nat.blt pc 802 then (bif Nat.blt pc 801 then (bif Nat.beq pc 800 then some (.aload_n 3, 1, 0, 0) else none) else (bif Nat.beq pc 801 then some (.iconst 0, 1, 0, 0) else none)) else (bif Nat.blt pc 803 then (bif Nat.beq pc 802 then some (.laload, 1, 0, 0) else none) else (bif Nat.blt pc 805 then (bif Nat.beq pc 803 then some (.iload 6, 2, 0, 0) else none) else (bif Nat.beq pc 805 then some (.i2l, 1, 0, 0) else none)))) else (bif Nat.blt pc 810 then (bif Nat.blt pc 807 then (bif Nat.beq pc 806 then some (.lcmp, 1, 0, 0) else none) else (bif Nat.beq pc 807 then some (.ifCond .eq (5), 3, 812, 0) else none)) else (bif Nat.blt pc 811 then (bif Nat.beq pc 810 then some (.iconst 0, 1, 0, 0) else none) else (bif Nat.blt pc 812 then (bif Nat.beq pc 811 then some (.ireturn, 1, 0, 0) else none) else (bif Nat.beq pc 812 then some (.goto (265), 3, 1077, 0) else none))))) else (bif Nat.blt pc 821 then (bif Nat.blt pc 817 then (bif Nat.blt pc 816 then (bif Nat.beq pc 815 then some (.aload_n 1, 1, 0, 0) else none) else (bif Nat.beq pc 816 then some (.aload_n 0, 1, 0, 0) else none)) else (bif Nat.blt pc 819 then (bif Nat.beq pc 817 then some (.iload 4, 2, 0, 0) else none) else (bif Nat.blt pc 820 then (bif Nat.beq pc 819 then some (.iconst 1, 1, 0, 0) else none) else (bif Nat.beq pc 820 then some (.iadd, 1, 0, 0) else none)))) else (bif Nat.blt pc 825 then (bif Nat.blt pc 822 then (bif Nat.beq pc 821 then some (.iaload, 1, 0, 0) else none) else (bif Nat.blt pc 823 then (bif Nat.beq pc 822 then some (.aload_n 0, 1, 0, 0) else none) else (bif Nat.beq pc 823 then some (.iload 4, 2, 0, 0) else none))) else (bif Nat.blt pc 826 then (bif Nat.beq pc 825 then some (.iconst 2, 1, 0, 0) else none) else (bif Nat.blt pc 827 then (bif Nat.beq pc 826 then some (.iadd, 1, 0, 0) else none) else (bif Nat.beq pc 827 then some (.iaload, 1, 0, 0) else none))))))))) else (bif Nat.blt pc 950 then (bif Nat.blt pc 890 then (bif Nat.blt pc 861 then (bif Nat.blt pc 842 then (bif Nat.blt pc 836 then (bif Nat.blt pc 832 then (bif Nat.blt pc 829 then (bif Nat.beq pc 828 then some (.aload_n 3, 1, 0, 0) else none) else (bif Nat.beq pc 829 then some (.invokestatic 111, 3, 111, 4) else none)) else (bif Nat.blt pc 834 then (bif Nat.beq pc 832 then some (.istore 5, 2, 0, 0) else none) else (bif Nat.blt pc 835 then (bif Nat.beq pc 834 then some (.aload_n 2, 1, 0, 0) else none) else (bif Nat.beq pc 835 then some (.aload_n 0, 1, 0, 0) else none)))) else (bif Nat.blt pc 839 then (bif Nat.blt pc 838 then (bif Nat.beq pc 836 then some (.iload 4, 2, 0, 0) else none) else (bif Nat.beq pc 838 then some (.iconst 1, 1, 0, 0) else none)) else (bif Nat.blt pc 840 then (bif Nat.beq pc 839 then some (.iadd, 1, 0, 0) else none) else (bif Nat.blt pc 841 then (bif Nat.beq pc 840 then some (.iaload, 1, 0, 0) else none) else (bif Nat.beq pc 841 then some (.aload_n 0, 1, 0, 0) else none))))) else (bif Nat.blt pc 850 then (bif Nat.blt pc 845 then (bif Nat.blt pc 844 then (bif Nat.beq pc 842 then some (.iload 4, 2, 0, 0) else none) else (bif Nat.beq pc 844 then some (.iconst 2, 1, 0, 0) else none)) else (bif Nat.blt pc 846 then (bif Nat.beq pc 845 then some (.iadd, 1, 0, 0) else none) else (bif Nat.blt pc 847 then (bif Nat.beq pc 846 then some (.iaload, 1, 0, 0) else none) else (bif Nat.beq pc 847 then some (.invokevirtual 113, 3, 87, 3) else none)))) else (bif Nat.blt pc 853 then (bif Nat.blt pc 852 then (bif Nat.beq pc 850 then some (.istore 6, 2, 0, 0) else none) else (bif Nat.beq pc 852 then some (.aload_n 2, 1, 0, 0) else none)) else (bif Nat.blt pc 856 then (bif Nat.beq pc 853 then some (.invokevirtual 74, 3, 51, 1) else none) else (bif Nat.blt pc 858 then (bif Nat.beq pc 856 then some (.iload 5, 2, 0, 0) else none) else (bif Nat.beq pc 858 then some (.if_icmp .eq (5), 3, 863, 0) else none)))))) else (bif Nat.blt pc 875 then (bif Nat.blt pc 869 then (bif Nat.blt pc 863 then (bif Nat.blt pc 862 then (bif Nat.beq pc 861 then some (.iconst 0, 1, 0, 0) else none) else (bif Nat.beq pc 862 then some (.ireturn, 1, 0, 0) else none)) else (bif Nat.blt pc 865 then (bif Nat.beq pc 863 then some (.iload 5, 2, 0, 0) else none) else (bif Nat.blt pc 868 then (bif Nat.beq pc 865 then some (.ifCond .ne (15), 3, 880, 0) else none) else (bif Nat.beq pc 868 then some (.aload_n 3, 1, 0, 0) else none)))) else (bif Nat.blt pc 871 then (bif Nat.blt pc 870 then (bif Nat.beq pc 869 then some (.iconst 0, 1, 0, 0) else none) else (bif Nat.beq pc 870 then some (.laload, 1, 0, 0) else none)) else (bif Nat.blt pc 873 then (bif Nat.beq pc 871 then some (.iload 6, 2, 0, 0) else none) else (bif Nat.blt pc 874 then (bif Nat.beq pc 873 then some (.i2l, 1, 0, 0) else none) else (bif Nat.beq pc 874 then some (.lcmp, 1, 0, 0) else none))))) else (bif Nat.blt pc 884 then (bif Nat.blt pc 879 then (bif Nat.blt pc 878 then (bif Nat.beq pc 875 then some (.ifCond .eq (5), 3, 880, 0) else none) else (bif Nat.beq pc 878 then some (.iconst 0, 1, 0, 0) else none)) else (bif Nat.blt pc 880 then (bif Nat.beq pc 879 then some (.ireturn, 1, 0, 0) else none) else (bif Nat.blt pc 883 then (bif Nat.beq pc 880 then some (.goto (197), 3, 1077, 0) else none) else (bif Nat.beq pc 883 then some (.aload_n 1, 1, 0, 0) else none)))) else (bif Nat.blt pc 887 then (bif Nat.blt pc 885 then (bif Nat.beq pc 884 then some (.aload_n 0, 1, 0, 0) else none) else (bif Nat.beq pc 885 then some (.iload 4, 2, 0, 0) else none)) else (bif Nat.blt pc 888 then (bif Nat.beq pc 887 then some (.iconst 1, 1, 0, 0) else none) else (bif Nat.blt pc 889 then (bif Nat.beq pc 888 then some (.iadd, 1, 0, 0) else none) else (bif Nat.beq pc 889 then some (.iaload, 1, 0, 0) else none))))))) else (bif Nat.blt pc 916 then (bif Nat.blt pc 902 then (bif Nat.blt pc 896 then (bif Nat.blt pc 893 then (bif Nat.blt pc 891 then (bif Nat.beq pc 890 then some (.aload_n 0, 1, 0, 0) else none) else (bif Nat.beq pc 891 then some (.iload 4, 2, 0, 0) else none)) else (bif Nat.blt pc 894 then (bif Nat.beq pc 893 then some (.iconst 2, 1, 0, 0) else none) else (bif Nat.blt pc 895 then (bif Nat.beq pc 894 then some (.iadd, 1, 0, 0) else none) else (bif Nat.beq pc 895 then some (.iaload, 1, 0, 0) else none)))) else (bif Nat.blt pc 899 then (bif Nat.blt pc 897 then (bif Nat.beq pc 896 then some (.aload_n 0, 1, 0, 0) else none) else (bif Nat.beq pc 897 then some (.iload 4, 2, 0, 0) else none)) else (bif Nat.blt pc 900 then (bif Nat.beq pc 899 then some (.iconst 3, 1, 0, 0) else none) else (bif Nat.blt pc 901 then (bif Nat.beq pc 900 then some (.iadd, 1, 0, 0) else none) else (bif Nat.beq pc 901 then some (.iaload, 1, 0, 0) else none))))) else (bif Nat.blt pc 910 then (bif Nat.blt pc 906 then (bif Nat.blt pc 903 then (bif Nat.beq pc 902 then some (.aload_n 3, 1, 0, 0) else none) else (bif Nat.beq pc 903 then some (.invokestatic 114, 3, 112, 5) else none)) else (bif Nat.blt pc 908 then (bif Nat.beq pc 906 then some (.istore 5, 2, 0, 0) else none) else (bif Nat.blt pc 909 then (bif Nat.beq pc 908 then some (.aload_n 2, 1, 0, 0) else none) else (bif Nat.beq pc 909 then some (.aload_n 0, 1, 0, 0) else none)))) else (bif Nat.blt pc 913 then (bif Nat.blt pc 912 then (bif Nat.beq pc 910 then some (.iload 4, 2, 0, 0) else none) else (bif Nat.beq pc 912 then some (.iconst 1, 1, 0, 0) else none)) else (bif Nat.blt pc 914 then (bif Nat.beq pc 913 then some (.iadd, 1, 0, 0) else none) else (bif Nat.blt pc 915 then (bif Nat.beq pc 914 then some (.iaload, 1, 0, 0) else none) else (bif Nat.beq pc 915 then some (.aload_n 0, 1, 0, 0) else none)))))) else (bif Nat.blt pc 930 then (bif Nat.blt pc 922 then (bif Nat.blt pc 919 then (bif Nat.blt pc 918 then (bif Nat.beq pc 916 then some (.iload 4, 2, 0, 0) else none) else (bif Nat.beq pc 918 then some (.iconst 2, 1, 0, 0) else none)) else (bif Nat.blt pc 920 then (bif Nat.beq pc 919 then some (.iadd, 1, 0, 0) else none) else (bif Nat.blt pc 921 then (bif Nat.beq pc 920 then some (.iaload, 1, 0, 0) else none) else (bif Nat.beq pc 921 then some (.aload_n 0, 1, 0, 0) else none)))) else (bif Nat.blt pc 925 then (bif Nat.blt pc 924 then (bif Nat.beq pc 922 then some (.iload 4, 2, 0, 0) else none) else (bif Nat.beq pc 924 then some (.iconst 3, 1, 0, 0) else none)) else (bif Nat.blt pc 926 then (bif Nat.beq pc 925 then some (.iadd, 1, 0, 0) else none) else (bif Nat.blt pc 927 then (bif Nat.beq pc 926 then some (.iaload, 1, 0, 0) else none) else (bif Nat.beq pc 927 then some (.invokevirtual 116, 3, 88, 4) else none))))) else (bif Nat.blt pc 941 then (bif Nat.blt pc 933 then (bif Nat.blt pc 932 then (bif Nat.beq pc 930 then some (.istore 6, 2, 0, 0) else none) else (bif Nat.beq pc 932 then some (.aload_n 2, 1, 0, 0) else none)) else (bif Nat.blt pc 936 then (bif Nat.beq pc 933 then some (.invokevirtual 74, 3, 51, 1) else none) else (bif Nat.blt pc 938 then (bif Nat.beq pc 936 then some (.iload 5, 2, 0, 0) else none) else (bif Nat.beq pc 938 then some (.if_icmp .eq (5), 3, 943, 0) else none)))) else (bif Nat.blt pc 945 then (bif Nat.blt pc 942 then (bif Nat.beq pc 941 then some (.iconst 0, 1, 0, 0) else none) else (bif Nat.blt pc 943 then (bif Nat.beq pc 942 then some (.ireturn, 1, 0, 0) else none) else (bif Nat.beq pc 943 then some (.iload 5, 2, 0, 0) else none))) else (bif Nat.blt pc 948 then (bif Nat.beq pc 945 then some (.ifCond .ne (22), 3, 967, 0) else none) else (bif Nat.blt pc 949 then (bif Nat.beq pc 948 then some (.aload_n 3, 1, 0, 0) else none) else (bif Nat.beq pc 949 then some (.iconst 0, 1, 0, 0) else none)))))))) else (bif Nat.blt pc 1018 then (bif Nat.blt pc 985 then (bif Nat.blt pc 967 then (bif Nat.blt pc 960 then (bif Nat.blt pc 953 then (bif Nat.blt pc 951 then (bif Nat.beq pc 950 then some (.laload, 1, 0, 0) else none) else (bif Nat.beq pc 951 then some (.iload 6, 2, 0, 0) else none)) else (bif Nat.blt pc 956 then (bif Nat.beq pc 953 then some (.ifCond .eq (7), 3, 960, 0) else none) else (bif Nat.blt pc 957 then (bif Nat.beq pc 956 then some (.lconst 1, 1, 0, 0) else none) else (bif Nat.beq pc 957 then some (.goto (4), 3, 961, 0) else none)))) else (bif Nat.blt pc 962 then (bif Nat.blt pc 961 then (bif Nat.beq pc 960 then some (.lconst 0, 1, 0, 0) else none) else (bif Nat.beq pc 961 then some (.lcmp, 1, 0, 0) else none)) else (bif Nat.blt pc 965 then (bif Nat.beq pc 962 then some (.ifCond .eq (5), 3, 967, 0) else none) else (bif Nat.blt pc 966 then (bif Nat.beq pc 965 then some (.iconst 0, 1, 0, 0) else none) else (bif Nat.beq pc 966 then some (.ireturn, 1, 0, 0) else none))))) else (bif Nat.blt pc 978 then (bif Nat.blt pc 971 then (bif Nat.blt pc 970 then (bif Nat.beq pc 967 then some (.goto (110), 3, 1077, 0) else none) else (bif Nat.beq pc 970 then some (.aload_n 1, 1, 0, 0) else none)) else (bif Nat.blt pc 974 then (bif Nat.beq pc 971 then some (.invokevirtual 117, 3, 45, 1) else none) else (bif Nat.blt pc 975 then (bif Nat.beq pc 974 then some (.aload_n 2, 1, 0, 0) else none) else (bif Nat.beq pc 975 then some (.invokevirtual 120, 3, 89, 1) else none)))) else (bif Nat.blt pc 982 then (bif Nat.blt pc 981 then (bif Nat.beq pc 978 then some (.if_icmp .eq (99), 3, 1077, 0) else none) else (bif Nat.beq pc 981 then some (.iconst 0, 1, 0, 0) else none)) else (bif Nat.blt pc 983 then (bif Nat.beq pc 982 then some (.ireturn, 1, 0, 0) else none) else (bif Nat.blt pc 984 then (bif Nat.beq pc 983 then some (.aload_n 1, 1, 0, 0) else none) else (bif Nat.beq pc 984 then some (.aload_n 0, 1, 0, 0) else none)))))) else (bif Nat.blt pc 1000 then (bif Nat.blt pc 991 then (bif Nat.blt pc 988 then (bif Nat.blt pc 987 then (bif Nat.beq pc 985 then some (.iload 4, 2, 0, 0) else none) else (bif Nat.beq pc 987 then some (.iconst 1, 1, 0, 0) else none)) else (bif Nat.blt pc 989 then (bif Nat.beq pc 988 then some (.iadd, 1, 0, 0) else none) else (bif Nat.blt pc 990 then (bif Nat.beq pc 989 then some (.iaload, 1, 0, 0) else none) else (bif Nat.beq pc 990 then some (.aload_n 3, 1, 0, 0) else none)))) else (bif Nat.blt pc 996 then (bif Nat.blt pc 994 then (bif Nat.beq pc 991 then some (.invokestatic 121, 3, 113, 3) else none) else (bif Nat.beq pc 994 then some (.istore 5, 2, 0, 0) else none)) else (bif Nat.blt pc 997 then (bif Nat.beq pc 996 then some (.aload_n 2, 1, 0, 0) else none) else (bif Nat.blt pc 998 then (bif Nat.beq pc 997 then some (.aload_n 0, 1, 0, 0) else none) else (bif Nat.beq pc 998 then some (.iload 4, 2, 0, 0) else none))))) else (bif Nat.blt pc 1008 then (bif Nat.blt pc 1002 then (bif Nat.blt pc 1001 then (bif Nat.beq pc 1000 then some (.iconst 1, 1, 0, 0) else none) else (bif Nat.beq pc 1001 then some (.iadd, 1, 0, 0) else none)) else (bif Nat.blt pc 1003 then (bif Nat.beq pc 1002 then some (.iaload, 1, 0, 0) else none) else (bif Nat.blt pc 1006 then (bif Nat.beq pc 1003 then some (.invokevirtual 123, 3, 90, 2) else none) else (bif Nat.beq pc 1006 then some (.istore 6, 2, 0, 0) else none)))) else (bif Nat.blt pc 1012 then (bif Nat.blt pc 1009 then (bif Nat.beq pc 1008 then some (.aload_n 2, 1, 0, 0) else none) else (bif Nat.beq pc 1009 then some (.invokevirtual 74, 3, 51, 1) else none)) else (bif Nat.blt pc 1014 then (bif Nat.beq pc 1012 then some (.iload 5, 2, 0, 0) else none) else (bif Nat.blt pc 1017 then (bif Nat.beq pc 1014 then some (.if_icmp .eq (5), 3, 1019, 0) else none) else (bif Nat.beq pc 1017 then some (.iconst 0, 1, 0, 0) else none))))))) else (bif Nat.blt pc 1049 then (bif Nat.blt pc 1034 then (bif Nat.blt pc 1026 then (bif Nat.blt pc 1021 then (bif Nat.blt pc 1019 then (bif Nat.beq pc 1018 then some (.ireturn, 1, 0, 0) else none) else (bif Nat.beq pc 1019 then some (.iload 5, 2, 0, 0) else none)) else (bif Nat.blt pc 1024 then (bif Nat.beq pc 1021 then some (.ifCond .ne (15), 3, 1036, 0) else none) else (bif Nat.blt pc 1025 then (bif Nat.beq pc 1024 then some (.aload_n 3, 1, 0, 0) else none) else (bif Nat.beq pc 1025 then some (.iconst 0, 1, 0, 0) else none)))) else (bif Nat.blt pc 1029 then (bif Nat.blt pc 1027 then (bif Nat.beq pc 1026 then some (.laload, 1, 0, 0) else none) else (bif Nat.beq pc 1027 then some (.iload 6, 2, 0, 0) else none)) else (bif Nat.blt pc 1030 then (bif Nat.beq pc 1029 then some (.i2l, 1, 0, 0) else none) else (bif Nat.blt pc 1031 then (bif Nat.beq pc 1030 then some (.lcmp, 1, 0, 0) else none) else (bif Nat.beq pc 1031 then some (.ifCond .eq (5), 3, 1036, 0) else none))))) else (bif Nat.blt pc 1041 then (bif Nat.blt pc 1036 then (bif Nat.blt pc 1035 then (bif Nat.beq pc 1034 then some (.iconst 0, 1, 0, 0) else none) else (bif Nat.beq pc 1035 then some (.ireturn, 1, 0, 0) else none)) else (bif Nat.blt pc 1039 then (bif Nat.beq pc 1036 then some (.goto (41), 3, 1077, 0) else none) else (bif Nat.blt pc 1040 then (bif Nat.beq pc 1039 then some (.aload_n 1, 1, 0, 0) else none) else (bif Nat.beq pc 1040 then some (.aload_n 0, 1, 0, 0) else none)))) else (bif Nat.blt pc 1044 then (bif Nat.blt pc 1043 then (bif Nat.beq pc 1041 then some (.iload 4, 2, 0, 0) else none) else (bif Nat.beq pc 1043 then some (.iconst 1, 1, 0, 0) else none)) else (bif Nat.blt pc 1045 then (bif Nat.beq pc 1044 then some (.iadd, 1, 0, 0) else none) else (bif Nat.blt pc 1046 then (bif Nat.beq pc 1045 then some (.iaload, 1, 0, 0) else none) else (bif Nat.beq pc 1046 then some (.invokevirtual 124, 3, 47, 2) else none)))))) else (bif Nat.blt pc 1064 then (bif Nat.blt pc 1055 then (bif Nat.blt pc 1051 then (bif Nat.blt pc 1050 then (bif Nat.beq pc 1049 then some (.aload_n 2, 1, 0, 0) else none) else (bif Nat.beq pc 1050 then some (.aload_n 0, 1, 0, 0) else none)) else (bif Nat.blt pc 1053 then (bif Nat.beq pc 1051 then some (.iload 4, 2, 0, 0) else none) else (bif Nat.blt pc 1054 then (bif Nat.beq pc 1053 then some (.iconst 1, 1, 0, 0) else none) else (bif Nat.beq pc 1054 then some (.iadd, 1, 0, 0) else none)))) else (bif Nat.blt pc 1059 then (bif Nat.blt pc 1056 then (bif Nat.beq pc 1055 then some (.iaload, 1, 0, 0) else none) else (bif Nat.beq pc 1056 then some (.invokevirtual 127, 3, 91, 2) else none)) else (bif Nat.blt pc 1062 then (bif Nat.beq pc 1059 then some (.if_icmp .eq (18), 3, 1077, 0) else none) else (bif Nat.blt pc 1063 then (bif Nat.beq pc 1062 then some (.iconst 0, 1, 0, 0) else none) else (bif Nat.beq pc 1063 then some (.ireturn, 1, 0, 0) else none))))) else (bif Nat.blt pc 1075 then (bif Nat.blt pc 1068 then (bif Nat.blt pc 1065 then (bif Nat.beq pc 1064 then some (.aload_n 1, 1, 0, 0) else none) else (bif Nat.beq pc 1065 then some (.invokevirtual 128, 3, 48, 1) else none)) else (bif Nat.blt pc 1069 then (bif Nat.beq pc 1068 then some (.aload_n 2, 1, 0, 0) else none) else (bif Nat.blt pc 1072 then (bif Nat.beq pc 1069 then some (.invokevirtual 131, 3, 92, 1) else none) else (bif Nat.beq pc 1072 then some (.if_icmp .eq (5), 3, 1077, 0) else none)))) else (bif Nat.blt pc 1080 then (bif Nat.blt pc 1076 then (bif Nat.beq pc 1075 then some (.iconst 0, 1, 0, 0) else none) else (bif Nat.blt pc 1077 then (bif Nat.beq pc 1076 then some (.ireturn, 1, 0, 0) else none) else (bif Nat.beq pc 1077 then some (.iinc 4 5, 3, 0, 0) else none))) else (bif Nat.blt pc 1083 then (bif Nat.beq pc 1080 then some (.goto (-1057), 3, 23, 0) else none) else (bif Nat.blt pc 1084 then (bif Nat.beq pc 1083 then some (.iconst 1, 1, 0, 0) else none) else (bif Nat.beq pc 1084 then some (.ireturn, 1, 0, 0) else none))))))))))) else none
theorem oxn_114 : ∀ pc, 1085 ≤ pc → oxi_114 pc = none := fun pc h => by unfold oxi_114; rw [show Nat.blt pc 1085 = false from ox_blt h]; rfl
theorem oxc_114 : ∀ pc e, oxi_114 pc = some e → ox_chk 8 pc e = true := ox_tab2 1085 oxn_114 (by decide +kernel)
theorem ox_chunk {F : Nat → Bool} {n a b : Nat} (h : n = a + b) (h1 : ∀ k, k < a → F k = true) (h2 : (List.range' a b).all F = true) : ∀ k, k < n → F k = true := by
  intro k hk
  rcases Nat.lt_or_ge k a with q | q
  · exact h1 k q
  · exact List.all_eq_true.mp h2 k (List.mem_range'.mpr ⟨k - a, by omega, by omega⟩)
end
section
theorem oxl_0 : (List.range' 0 110).all (fun pc => match oxi_114 pc with | none => true | some e => decide (decode code pc = .ok (e.1, e.2.1))) = true := by decide +kernel
end
section
theorem oxl_1 : (List.range' 110 110).all (fun pc => match oxi_114 pc with | none => true | some e => decide (decode code pc = .ok (e.1, e.2.1))) = true := by decide +kernel
end
section
theorem oxl_2 : (List.range' 220 110).all (fun pc => match oxi_114 pc with | none => true | some e => decide (decode code pc = .ok (e.1, e.2.1))) = true := by decide +kernel
end
section
theorem oxl_3 : (List.range' 330 110).all (fun pc => match oxi_114 pc with | none => true | some e => decide (decode code pc = .ok (e.1, e.2.1))) = true := by decide +kernel
end
section
theorem oxl_4 : (List.range' 440 110).all (fun pc => match oxi_114 pc with | none => true | some e => decide (decode code pc = .ok (e.1, e.2.1))) = true := by decide +kernel
end
section
theorem oxl_5 : (List.range' 550 110).all (fun pc => match oxi_114 pc with | none => true | some e => decide (decode code pc = .ok (e.1, e.2.1))) = true := by decide +kernel
end
section
theorem oxl_6 : (List.range' 660 110).all (fun pc => match oxi_114 pc with | none => true | some e => decide (decode code pc = .ok (e.1, e.2.1))) = true := by decide +kernel
end
section
theorem oxl_7 : (List.range' 770 110).all (fun pc => match oxi_114 pc with | none => true | some e => decide (decode code pc = .ok (e.1, e.2.1))) = true := by decide +kernel
end
section
theorem oxl_8 : (List.range' 880 110).all (fun pc => match oxi_114 pc with | none => true | some e => decide (decode code pc = .ok (e.1, e.2.1))) = true := by decide +kernel
end
section
theorem oxl_9 : (List.range' 990 95).all (fun pc => match oxi_114 pc with | none => true | some e => decide (decode code pc = .ok (e.1, e.2.1))) = true := by decide +kernel
end
section
theorem oxlA_0 : ∀ k, k < 0 → (fun pc => match oxi_114 pc with | none => true | some e => decide (decode code pc = .ok (e.1, e.2.1))) k = true := fun k h => absurd h (Nat.not_lt_zero k)
theorem oxlA_1 : ∀ k, k < 110 → (fun pc => match oxi_114 pc with | none => true | some e => decide (decode code pc = .ok (e.1, e.2.1))) k = true := ox_chunk (a := 0) (b := 110) rfl oxlA_0 oxl_0
theorem oxlA_2 : ∀ k, k < 220 → (fun pc => match oxi_114 pc with | none => true | some e => decide (decode code pc = .ok (e.1, e.2.1))) k = true := ox_chunk (a := 110) (b := 110) rfl oxlA_1 oxl_1
theorem oxlA_3 : ∀ k, k < 330 → (fun pc => match oxi_114 pc with | none => true | some e => decide (decode code pc = .ok (e.1, e.2.1))) k = true := ox_chunk (a := 220) (b := 110) rfl oxlA_2 oxl_2
theorem oxlA_4 : ∀ k, k < 440 → (fun pc => match oxi_114 pc with | none => true | some e => decide (decode code pc = .ok (e.1, e.2.1))) k = true := ox_chunk (a := 330) (b := 110) rfl oxlA_3 oxl_3
theorem oxlA_5 : ∀ k, k < 550 → (fun pc => match oxi_114 pc with | none => true | some e => decide (decode code pc = .ok (e.1, e.2.1))) k = true := ox_chunk (a := 440) (b := 110) rfl oxlA_4 oxl_4
theorem oxlA_6 : ∀ k, k < 660 → (fun pc => match oxi_114 pc with | none => true | some e => decide (decode code pc = .ok (e.1, e.2.1))) k = true := ox_chunk (a := 550) (b := 110) rfl oxlA_5 oxl_5
theorem oxlA_7 : ∀ k, k < 770 → (fun pc => match oxi_114 pc with | none => true | some e => decide (decode code pc = .ok (e.1, e.2.1))) k = true := ox_chunk (a := 660) (b := 110) rfl oxlA_6 oxl_6
theorem oxlA_8 : ∀ k, k < 880 → (fun pc => match oxi_114 pc with | none => true | some e => decide (decode code pc = .ok (e.1, e.2.1))) k = true := ox_chunk (a := 770) (b := 110) rfl oxlA_7 oxl_7
theorem oxlA_9 : ∀ k, k < 990 → (fun pc => match oxi_114 pc with | none => true | some e => decide (decode code pc = .ok (e.1, e.2.1))) k = true := ox_chunk (a := 880) (b := 110) rfl oxlA_8 oxl_8
theorem oxlA_10 : ∀ k, k < 1085 → (fun pc => match oxi_114 pc with | none => true | some e => decide (decode code pc = .ok (e.1, e.2.1))) k = true := ox_chunk (a := 990) (b := 95) rfl oxlA_9 oxl_9
theorem oxd_114 : ∀ pc e, oxi_114 pc = some e → decode code pc = .ok (e.1, e.2.1) := ox_tab 1085 oxn_114 (List.all_eq_true.mpr (fun k hk => oxlA_10 k (List.mem_range.mp hk)))
def ox_I (i pc : Nat) : Option (Instr × Nat × Nat × Nat) := (bif Nat.blt i 57 then (bif Nat.blt i 28 then (bif Nat.blt i 14 then (bif Nat.blt i 7 then (bif Nat.blt i 3 then (bif Nat.blt i 1 then oxi_0 pc else (bif Nat.blt i 2 then oxi_1 pc else oxi_2 pc)) else (bif Nat.blt i 5 then (bif Nat.blt i 4 then oxi_3 pc else oxi_4 pc) else (bif Nat.blt i 6 then oxi_5 pc else oxi_6 pc))) else (bif Nat.blt i 10 then (bif Nat.blt i 8 then oxi_7 pc else (bif Nat.blt i 9 then oxi_8 pc else oxi_9 pc)) else (bif Nat.blt i 12 then (bif Nat.blt i 11 then oxi_10 pc else oxi_11 pc) else (bif Nat.blt i 13 then oxi_12 pc else oxi_13 pc)))) else (bif Nat.blt i 21 then (bif Nat.blt i 17 then (bif Nat.blt i 15 then oxi_14 pc else (bif Nat.blt i 16 then oxi_15 pc else oxi_16 pc)) else (bif Nat.blt i 19 then (bif Nat.blt i 18 then oxi_17 pc else oxi_18 pc) else (bif Nat.blt i 20 then oxi_19 pc else oxi_20 pc))) else (bif Nat.blt i 24 then (bif Nat.blt i 22 then oxi_21 pc else (bif Nat.blt i 23 then oxi_22 pc else oxi_23 pc)) else (bif Nat.blt i 26 then (bif Nat.blt i 25 then oxi_24 pc else oxi_25 pc) else (bif Nat.blt i 27 then oxi_26 pc else oxi_27 pc))))) else (bif Nat.blt i 42 then (bif Nat.blt i 35 then (bif Nat.blt i 31 then (bif Nat.blt i 29 then oxi_28 pc else (bif Nat.blt i 30 then oxi_29 pc else oxi_30 pc)) else (bif Nat.blt i 33 then (bif Nat.blt i 32 then oxi_31 pc else oxi_32 pc) else (bif Nat.blt i 34 then oxi_33 pc else oxi_34 pc))) else (bif Nat.blt i 38 then (bif Nat.blt i 36 then oxi_35 pc else (bif Nat.blt i 37 then oxi_36 pc else oxi_37 pc)) else (bif Nat.blt i 40 then (bif Nat.blt i 39 then oxi_38 pc else oxi_39 pc) else (bif Nat.blt i 41 then oxi_40 pc else oxi_41 pc)))) else (bif Nat.blt i 49 then (bif Nat.blt i 45 then (bif Nat.blt i 43 then oxi_42 pc else (bif Nat.blt i 44 then oxi_43 pc else oxi_44 pc)) else (bif Nat.blt i 47 then (bif Nat.blt i 46 then oxi_45 pc else oxi_46 pc) else (bif Nat.blt i 48 then oxi_47 pc else oxi_48 pc))) else (bif Nat.blt i 53 then (bif Nat.blt i 51 then (bif Nat.blt i 50 then oxi_49 pc else oxi_50 pc) else (bif Nat.blt i 52 then oxi_51 pc else oxi_52 pc)) else (bif Nat.blt i 55 then (bif Nat.blt i 54 then oxi_53 pc else oxi_54 pc) else (bif Nat.blt i 56 then oxi_55 pc else oxi_56 pc)))))) else (bif Nat.blt i 86 then (bif Nat.blt i 71 then (bif Nat.blt i 64 then (bif Nat.blt i 60 then (bif Nat.blt i 58 then oxi_57 pc else (bif Nat.blt i 59 then oxi_58 pc else oxi_59 pc)) else (bif Nat.blt i 62 then (bif Nat.blt i 61 then oxi_60 pc else oxi_61 pc) else (bif Nat.blt i 63 then oxi_62 pc else oxi_63 pc))) else (bif Nat.blt i 67 then (bif Nat.blt i 65 then oxi_64 pc else (bif Nat.blt i 66 then oxi_65 pc else oxi_66 pc)) else (bif Nat.blt i 69 then (bif Nat.blt i 68 then oxi_67 pc else oxi_68 pc) else (bif Nat.blt i 70 then oxi_69 pc else oxi_70 pc)))) else (bif Nat.blt i 78 then (bif Nat.blt i 74 then (bif Nat.blt i 72 then oxi_71 pc else (bif Nat.blt i 73 then oxi_72 pc else oxi_73 pc)) else (bif Nat.blt i 76 then (bif Nat.blt i 75 then oxi_74 pc else oxi_75 pc) else (bif Nat.blt i 77 then oxi_76 pc else oxi_77 pc))) else (bif Nat.blt i 82 then (bif Nat.blt i 80 then (bif Nat.blt i 79 then oxi_78 pc else oxi_79 pc) else (bif Nat.blt i 81 then oxi_80 pc else oxi_81 pc)) else (bif Nat.blt i 84 then (bif Nat.blt i 83 then oxi_82 pc else oxi_83 pc) else (bif Nat.blt i 85 then oxi_84 pc else oxi_85 pc))))) else (bif Nat.blt i 100 then (bif Nat.blt i 93 then (bif Nat.blt i 89 then (bif Nat.blt i 87 then oxi_86 pc else (bif Nat.blt i 88 then oxi_87 pc else oxi_88 pc)) else (bif Nat.blt i 91 then (bif Nat.blt i 90 then oxi_89 pc else oxi_90 pc) else (bif Nat.blt i 92 then oxi_91 pc else oxi_92 pc))) else (bif Nat.blt i 96 then (bif Nat.blt i 94 then oxi_93 pc else (bif Nat.blt i 95 then oxi_94 pc else oxi_95 pc)) else (bif Nat.blt i 98 then (bif Nat.blt i 97 then oxi_96 pc else oxi_97 pc) else (bif Nat.blt i 99 then oxi_98 pc else oxi_99 pc)))) else (bif Nat.blt i 107 then (bif Nat.blt i 103 then (bif Nat.blt i 101 then oxi_100 pc else (bif Nat.blt i 102 then oxi_101 pc else oxi_102 pc)) else (bif Nat.blt i 105 then (bif Nat.blt i 104 then oxi_103 pc else oxi_104 pc) else (bif Nat.blt i 106 then oxi_105 pc else oxi_106 pc))) else (bif Nat.blt i 111 then (bif Nat.blt i 109 then (bif Nat.blt i 108 then oxi_107 pc else oxi_108 pc) else (bif Nat.blt i 110 then oxi_109 pc else oxi_110 pc)) else (bif Nat.blt i 113 then (bif Nat.blt i 112 then oxi_111 pc else oxi_112 pc) else (bif Nat.blt i 114 then oxi_113 pc else oxi_114 pc)))))))
set_option maxRecDepth 100000 in
set_option maxHeartbeats 4000000 in
theorem ox_I1 : ∀ i, i < 115 → ∀ pc e, ox_I i pc = some e → decode (ox_b i) pc = .ok (e.1, e.2.1) ∧ ox_chk (ox_ow i) pc e = true := by
  intro i hi
  match i, hi with
  | 0, _ => exact fun pc e h => ⟨oxd_0 pc e h, oxc_0 pc e h⟩
  | 1, _ => exact fun pc e h => ⟨oxd_1 pc e h, oxc_1 pc e h⟩
  | 2, _ => exact fun pc e h => ⟨oxd_2 pc e h, oxc_2 pc e h⟩
  | 3, _ => exact fun pc e h => ⟨oxd_3 pc e h, oxc_3 pc e h⟩
  | 4, _ => exact fun pc e h => ⟨oxd_4 pc e h, oxc_4 pc e h⟩
  | 5, _ => exact fun pc e h => ⟨oxd_5 pc e h, oxc_5 pc e h⟩
  | 6, _ => exact fun pc e h => ⟨oxd_6 pc e h, oxc_6 pc e h⟩
  | 7, _ => exact fun pc e h => ⟨oxd_7 pc e h, oxc_7 pc e h⟩
  | 8, _ => exact fun pc e h => ⟨oxd_8 pc e h, oxc_8 pc e h⟩
  | 9, _ => exact fun pc e h => ⟨oxd_9 pc e h, oxc_9 pc e h⟩
  | 10, _ => exact fun pc e h => ⟨oxd_10 pc e h, oxc_10 pc e h⟩
  | 11, _ => exact fun pc e h => ⟨oxd_11 pc e h, oxc_11 pc e h⟩
  | 12, _ => exact fun pc e h => ⟨oxd_12 pc e h, oxc_12 pc e h⟩
  | 13, _ => exact fun pc e h => ⟨oxd_13 pc e h, oxc_13 pc e h⟩
  | 14, _ => exact fun pc e h => ⟨oxd_14 pc e h, oxc_14 pc e h⟩
  | 15, _ => exact fun pc e h => ⟨oxd_15 pc e h, oxc_15 pc e h⟩
  | 16, _ => exact fun pc e h => ⟨oxd_16 pc e h, oxc_16 pc e h⟩
  | 17, _ => exact fun pc e h => ⟨oxd_17 pc e h, oxc_17 pc e h⟩
  | 18, _ => exact fun pc e h => ⟨oxd_18 pc e h, oxc_18 pc e h⟩
  | 19, _ => exact fun pc e h => ⟨oxd_19 pc e h, oxc_19 pc e h⟩
  | 20, _ => exact fun pc e h => ⟨oxd_20 pc e h, oxc_20 pc e h⟩
  | 21, _ => exact fun pc e h => ⟨oxd_21 pc e h, oxc_21 pc e h⟩
  | 22, _ => exact fun pc e h => ⟨oxd_22 pc e h, oxc_22 pc e h⟩
  | 23, _ => exact fun pc e h => ⟨oxd_23 pc e h, oxc_23 pc e h⟩
  | 24, _ => exact fun pc e h => ⟨oxd_24 pc e h, oxc_24 pc e h⟩
  | 25, _ => exact fun pc e h => ⟨oxd_25 pc e h, oxc_25 pc e h⟩
  | 26, _ => exact fun pc e h => ⟨oxd_26 pc e h, oxc_26 pc e h⟩
  | 27, _ => exact fun pc e h => ⟨oxd_27 pc e h, oxc_27 pc e h⟩
  | 28, _ => exact fun pc e h => ⟨oxd_28 pc e h, oxc_28 pc e h⟩
  | 29, _ => exact fun pc e h => ⟨oxd_29 pc e h, oxc_29 pc e h⟩
  | 30, _ => exact fun pc e h => ⟨oxd_30 pc e h, oxc_30 pc e h⟩
  | 31, _ => exact fun pc e h => ⟨oxd_31 pc e h, oxc_31 pc e h⟩
  | 32, _ => exact fun pc e h => ⟨oxd_32 pc e h, oxc_32 pc e h⟩
  | 33, _ => exact fun pc e h => ⟨oxd_33 pc e h, oxc_33 pc e h⟩
  | 34, _ => exact fun pc e h => ⟨oxd_34 pc e h, oxc_34 pc e h⟩
  | 35, _ => exact fun pc e h => ⟨oxd_35 pc e h, oxc_35 pc e h⟩
  | 36, _ => exact fun pc e h => ⟨oxd_36 pc e h, oxc_36 pc e h⟩
  | 37, _ => exact fun pc e h => ⟨oxd_37 pc e h, oxc_37 pc e h⟩
  | 38, _ => exact fun pc e h => ⟨oxd_38 pc e h, oxc_38 pc e h⟩
  | 39, _ => exact fun pc e h => ⟨oxd_39 pc e h, oxc_39 pc e h⟩
  | 40, _ => exact fun pc e h => ⟨oxd_40 pc e h, oxc_40 pc e h⟩
  | 41, _ => exact fun pc e h => ⟨oxd_41 pc e h, oxc_41 pc e h⟩
  | 42, _ => exact fun pc e h => ⟨oxd_42 pc e h, oxc_42 pc e h⟩
  | 43, _ => exact fun pc e h => ⟨oxd_43 pc e h, oxc_43 pc e h⟩
  | 44, _ => exact fun pc e h => ⟨oxd_44 pc e h, oxc_44 pc e h⟩
  | 45, _ => exact fun pc e h => ⟨oxd_45 pc e h, oxc_45 pc e h⟩
  | 46, _ => exact fun pc e h => ⟨oxd_46 pc e h, oxc_46 pc e h⟩
  | 47, _ => exact fun pc e h => ⟨oxd_47 pc e h, oxc_47 pc e h⟩
  | 48, _ => exact fun pc e h => ⟨oxd_48 pc e h, oxc_48 pc e h⟩
  | 49, _ => exact fun pc e h => ⟨oxd_49 pc e h, oxc_49 pc e h⟩
  | 50, _ => exact fun pc e h => ⟨oxd_50 pc e h, oxc_50 pc e h⟩
  | 51, _ => exact fun pc e h => ⟨oxd_51 pc e h, oxc_51 pc e h⟩
  | 52, _ => exact fun pc e h => ⟨oxd_52 pc e h, oxc_52 pc e h⟩
  | 53, _ => exact fun pc e h => ⟨oxd_53 pc e h, oxc_53 pc e h⟩
  | 54, _ => exact fun pc e h => ⟨oxd_54 pc e h, oxc_54 pc e h⟩
  | 55, _ => exact fun pc e h => ⟨oxd_55 pc e h, oxc_55 pc e h⟩
  | 56, _ => exact fun pc e h => ⟨oxd_56 pc e h, oxc_56 pc e h⟩
  | 57, _ => exact fun pc e h => ⟨oxd_57 pc e h, oxc_57 pc e h⟩
  | 58, _ => exact fun pc e h => ⟨oxd_58 pc e h, oxc_58 pc e h⟩
  | 59, _ => exact fun pc e h => ⟨oxd_59 pc e h, oxc_59 pc e h⟩
  | 60, _ => exact fun pc e h => ⟨oxd_60 pc e h, oxc_60 pc e h⟩
  | 61, _ => exact fun pc e h => ⟨oxd_61 pc e h, oxc_61 pc e h⟩
  | 62, _ => exact fun pc e h => ⟨oxd_62 pc e h, oxc_62 pc e h⟩
  | 63, _ => exact fun pc e h => ⟨oxd_63 pc e h, oxc_63 pc e h⟩
  | 64, _ => exact fun pc e h => ⟨oxd_64 pc e h, oxc_64 pc e h⟩
  | 65, _ => exact fun pc e h => ⟨oxd_65 pc e h, oxc_65 pc e h⟩
  | 66, _ => exact fun pc e h => ⟨oxd_66 pc e h, oxc_66 pc e h⟩
  | 67, _ => exact fun pc e h => ⟨oxd_67 pc e h, oxc_67 pc e h⟩
  | 68, _ => exact fun pc e h => ⟨oxd_68 pc e h, oxc_68 pc e h⟩
  | 69, _ => exact fun pc e h => ⟨oxd_69 pc e h, oxc_69 pc e h⟩
  | 70, _ => exact fun pc e h => ⟨oxd_70 pc e h, oxc_70 pc e h⟩
  | 71, _ => exact fun pc e h => ⟨oxd_71 pc e h, oxc_71 pc e h⟩
  | 72, _ => exact fun pc e h => ⟨oxd_72 pc e h, oxc_72 pc e h⟩
  | 73, _ => exact fun pc e h => ⟨oxd_73 pc e h, oxc_73 pc e h⟩
  | 74, _ => exact fun pc e h => ⟨oxd_74 pc e h, oxc_74 pc e h⟩
  | 75, _ => exact fun pc e h => ⟨oxd_75 pc e h, oxc_75 pc e h⟩
  | 76, _ => exact fun pc e h => ⟨oxd_76 pc e h, oxc_76 pc e h⟩
  | 77, _ => exact fun pc e h => ⟨oxd_77 pc e h, oxc_77 pc e h⟩
  | 78, _ => exact fun pc e h => ⟨oxd_78 pc e h, oxc_78 pc e h⟩
  | 79, _ => exact fun pc e h => ⟨oxd_79 pc e h, oxc_79 pc e h⟩
  | 80, _ => exact fun pc e h => ⟨oxd_80 pc e h, oxc_80 pc e h⟩
  | 81, _ => exact fun pc e h => ⟨oxd_81 pc e h, oxc_81 pc e h⟩
  | 82, _ => exact fun pc e h => ⟨oxd_82 pc e h, oxc_82 pc e h⟩
  | 83, _ => exact fun pc e h => ⟨oxd_83 pc e h, oxc_83 pc e h⟩
  | 84, _ => exact fun pc e h => ⟨oxd_84 pc e h, oxc_84 pc e h⟩
  | 85, _ => exact fun pc e h => ⟨oxd_85 pc e h, oxc_85 pc e h⟩
  | 86, _ => exact fun pc e h => ⟨oxd_86 pc e h, oxc_86 pc e h⟩
  | 87, _ => exact fun pc e h => ⟨oxd_87 pc e h, oxc_87 pc e h⟩
  | 88, _ => exact fun pc e h => ⟨oxd_88 pc e h, oxc_88 pc e h⟩
  | 89, _ => exact fun pc e h => ⟨oxd_89 pc e h, oxc_89 pc e h⟩
  | 90, _ => exact fun pc e h => ⟨oxd_90 pc e h, oxc_90 pc e h⟩
  | 91, _ => exact fun pc e h => ⟨oxd_91 pc e h, oxc_91 pc e h⟩
  | 92, _ => exact fun pc e h => ⟨oxd_92 pc e h, oxc_92 pc e h⟩
  | 93, _ => exact fun pc e h => ⟨oxd_93 pc e h, oxc_93 pc e h⟩
  | 94, _ => exact fun pc e h => ⟨oxd_94 pc e h, oxc_94 pc e h⟩
  | 95, _ => exact fun pc e h => ⟨oxd_95 pc e h, oxc_95 pc e h⟩
  | 96, _ => exact fun pc e h => ⟨oxd_96 pc e h, oxc_96 pc e h⟩
  | 97, _ => exact fun pc e h => ⟨oxd_97 pc e h, oxc_97 pc e h⟩
  | 98, _ => exact fun pc e h => ⟨oxd_98 pc e h, oxc_98 pc e h⟩
  | 99, _ => exact fun pc e h => ⟨oxd_99 pc e h, oxc_99 pc e h⟩
  | 100, _ => exact fun pc e h => ⟨oxd_100 pc e h, oxc_100 pc e h⟩
  | 101, _ => exact fun pc e h => ⟨oxd_101 pc e h, oxc_101 pc e h⟩
  | 102, _ => exact fun pc e h => ⟨oxd_102 pc e h, oxc_102 pc e h⟩
  | 103, _ => exact fun pc e h => ⟨oxd_103 pc e h, oxc_103 pc e h⟩
  | 104, _ => exact fun pc e h => ⟨oxd_104 pc e h, oxc_104 pc e h⟩
  | 105, _ => exact fun pc e h => ⟨oxd_105 pc e h, oxc_105 pc e h⟩
  | 106, _ => exact fun pc e h => ⟨oxd_106 pc e h, oxc_106 pc e h⟩
  | 107, _ => exact fun pc e h => ⟨oxd_107 pc e h, oxc_107 pc e h⟩
  | 108, _ => exact fun pc e h => ⟨oxd_108 pc e h, oxc_108 pc e h⟩
  | 109, _ => exact fun pc e h => ⟨oxd_109 pc e h, oxc_109 pc e h⟩
  | 110, _ => exact fun pc e h => ⟨oxd_110 pc e h, oxc_110 pc e h⟩
  | 111, _ => exact fun pc e h => ⟨oxd_111 pc e h, oxc_111 pc e h⟩
  | 112, _ => exact fun pc e h => ⟨oxd_112 pc e h, oxc_112 pc e h⟩
  | 113, _ => exact fun pc e h => ⟨oxd_113 pc e h, oxc_113 pc e h⟩
  | 114, _ => exact fun pc e h => ⟨oxd_114 pc e h, oxc_114 pc e h⟩
  | k + 115, h => exact absurd h (by omega)
end
section
/- the objects by their numbers: 0 OrderAxioms, 1 Program, 2 Model, 3 Listing, 4 tried, 5 seen, 6 Ring, 7 the reference, 8 out, 174 the script; arrays:
   1 OrderAxioms.program
   2 OrderAxioms.model
   3 OrderAxioms.listing
   4 OrderAxioms.tried
   5 OrderAxioms.seen
   6 OrderAxioms.seenRing
   9 OrderAxioms$Program.threadOf
   10 OrderAxioms$Program.kindOf
   11 OrderAxioms$Program.placeOf
   12 OrderAxioms$Program.valueOf
   13 OrderAxioms$Program.dependents
   14 OrderAxioms$Program.readEvents
   15 OrderAxioms$Program.writeCounts
   16 OrderAxioms$Program.writeMasks
   17 OrderAxioms$Program.writeEvents
   18 OrderAxioms$Program.writeEvents[0]
   19 OrderAxioms$Program.writeEvents[1]
   20 OrderAxioms$Program.writeEvents[2]
   21 OrderAxioms$Program.writeEvents[3]
   22 OrderAxioms$Model.hows
   23 OrderAxioms$Model.lefts
   24 OrderAxioms$Model.rights
   25 OrderAxioms$Model.ruleRelations
   26 OrderAxioms$Ring.members
   27 OrderAxioms$Ring.reaching
   28 OrderAxioms$Listing.totals
   29 OrderAxioms$Listing.firsts
   30 OrderAxioms$Listing.numbers
   31 OrderAxioms$Listing.readPlaces
   32 OrderAxioms$Listing.valueCounts
   33 OrderAxioms$Listing.values
   34 OrderAxioms$Listing.values[0]
   35 OrderAxioms$Listing.values[1]
   36 OrderAxioms$Listing.values[2]
   37 OrderAxioms$Listing.values[3]
   38 OrderAxioms$Listing.ranks
   39 OrderAxioms$Listing.ranks[0]
   40 OrderAxioms$Listing.ranks[1]
   41 OrderAxioms$Listing.ranks[2]
   42 OrderAxioms$Listing.ranks[3]
   43 OrderAxiomsModel.threadOf
   44 OrderAxiomsModel.kind
   45 OrderAxiomsModel.place
   46 OrderAxiomsModel.value
   47 OrderAxiomsModel.depends
   48 OrderAxiomsModel.how
   49 OrderAxiomsModel.left
   50 OrderAxiomsModel.right
   51 OrderAxiomsModel.rule
   52 OrderAxiomsModel.sourceOf
   53 OrderAxiomsModel.orderOf
   54 OrderAxiomsModel.writesOf
   55 OrderAxiomsModel.rank
   56 OrderAxiomsModel.in
   57 OrderAxiomsModel.steps
   58 OrderAxiomsModel.rowAt
   59 OrderAxiomsModel.values
   60 OrderAxiomsModel.times
   61 OrderAxiomsModel.firstOf
   62 OrderAxiomsModel.now
   63 OrderAxiomsModel.seenSource
   64 OrderAxiomsModel.seenOrder
   65 OrderAxiomsModel.seenWrites
   66 OrderAxiomsModel.seenRing
   67 OrderAxiomsModel.seen
   68 OrderAxioms$Execution.picks
   69 OrderAxioms$Execution.sources
   70 OrderAxioms$Execution.orderCounts
   71 OrderAxioms$Execution.orders
   72 OrderAxioms$Execution.orders[0]
   73 OrderAxioms$Execution.orders[1]
   74 OrderAxioms$Execution.orders[2]
   75 OrderAxioms$Execution.orders[3]
   76 OrderAxioms$Execution.rows
   77 OrderAxioms$Execution.rows[0]
   78 OrderAxioms$Execution.rows[1]
   79 OrderAxioms$Execution.rows[2]
   80 OrderAxioms$Execution.rows[3]
   81 OrderAxioms$Execution.rows[4]
   82 OrderAxioms$Execution.rows[5]
   83 OrderAxioms$Execution.rows[6]
   84 OrderAxioms$Execution.rows[7]
   85 OrderAxioms$Execution.rows[8]
   86 OrderAxioms$Execution.rows[9]
   87 OrderAxioms$Execution.rows[10]
   88 OrderAxioms$Execution.rows[11]
   89 OrderAxioms$Execution.rows[12]
   90 OrderAxioms$Execution.rows[13]
   91 OrderAxioms$Execution.rows[14]
   92 OrderAxioms$Execution.rows[15]
   93 OrderAxioms$Execution.rows[16]
   94 OrderAxioms$Execution.rows[17]
   95 OrderAxioms$Execution.rows[18]
   96 OrderAxioms$Execution.rows[19]
   97 OrderAxioms$Execution.rows[20]
   98 OrderAxioms$Execution.rows[21]
   99 OrderAxioms$Execution.rows[22]
   100 OrderAxioms$Execution.rows[23]
   101 OrderAxioms$Execution.rows[24]
   102 OrderAxioms$Execution.rows[25]
   103 OrderAxioms$Execution.rows[26]
   104 OrderAxioms$Execution.rows[27]
   105 OrderAxioms$Execution.rows[28]
   106 OrderAxioms$Execution.rows[29]
   107 OrderAxioms$Execution.rows[30]
   108 OrderAxioms$Execution.rows[31]
   109 OrderAxioms$Execution.rows[32]
   110 OrderAxioms$Execution.rows[33]
   111 OrderAxioms$Execution.rows[34]
   112 OrderAxioms$Execution.rows[35]
   113 OrderAxioms$Execution.rows[36]
   114 OrderAxioms$Execution.rows[37]
   115 OrderAxioms$Execution.rows[38]
   116 OrderAxioms$Execution.rows[39]
   117 OrderAxioms$Execution.orderPicks
   118 OrderAxioms$Execution.wanted
   119 OrderAxioms$Execution.steady
   120 OrderAxioms$Execution.plan
   121 OrderAxioms$Execution.picks
   122 OrderAxioms$Execution.sources
   123 OrderAxioms$Execution.orderCounts
   124 OrderAxioms$Execution.orders
   125 OrderAxioms$Execution.orders[0]
   126 OrderAxioms$Execution.orders[1]
   127 OrderAxioms$Execution.orders[2]
   128 OrderAxioms$Execution.orders[3]
   129 OrderAxioms$Execution.rows
   130 OrderAxioms$Execution.rows[0]
   131 OrderAxioms$Execution.rows[1]
   132 OrderAxioms$Execution.rows[2]
   133 OrderAxioms$Execution.rows[3]
   134 OrderAxioms$Execution.rows[4]
   135 OrderAxioms$Execution.rows[5]
   136 OrderAxioms$Execution.rows[6]
   137 OrderAxioms$Execution.rows[7]
   138 OrderAxioms$Execution.rows[8]
   139 OrderAxioms$Execution.rows[9]
   140 OrderAxioms$Execution.rows[10]
   141 OrderAxioms$Execution.rows[11]
   142 OrderAxioms$Execution.rows[12]
   143 OrderAxioms$Execution.rows[13]
   144 OrderAxioms$Execution.rows[14]
   145 OrderAxioms$Execution.rows[15]
   146 OrderAxioms$Execution.rows[16]
   147 OrderAxioms$Execution.rows[17]
   148 OrderAxioms$Execution.rows[18]
   149 OrderAxioms$Execution.rows[19]
   150 OrderAxioms$Execution.rows[20]
   151 OrderAxioms$Execution.rows[21]
   152 OrderAxioms$Execution.rows[22]
   153 OrderAxioms$Execution.rows[23]
   154 OrderAxioms$Execution.rows[24]
   155 OrderAxioms$Execution.rows[25]
   156 OrderAxioms$Execution.rows[26]
   157 OrderAxioms$Execution.rows[27]
   158 OrderAxioms$Execution.rows[28]
   159 OrderAxioms$Execution.rows[29]
   160 OrderAxioms$Execution.rows[30]
   161 OrderAxioms$Execution.rows[31]
   162 OrderAxioms$Execution.rows[32]
   163 OrderAxioms$Execution.rows[33]
   164 OrderAxioms$Execution.rows[34]
   165 OrderAxioms$Execution.rows[35]
   166 OrderAxioms$Execution.rows[36]
   167 OrderAxioms$Execution.rows[37]
   168 OrderAxioms$Execution.rows[38]
   169 OrderAxioms$Execution.rows[39]
   170 OrderAxioms$Execution.orderPicks
   171 OrderAxioms$Execution.wanted
   172 OrderAxioms$Execution.steady
   173 OrderAxioms$Execution.plan -/
def ox_kz (o : Nat) : Nat := (bif Nat.blt o 56 then (bif Nat.blt o 9 then (bif Nat.blt o 4 then (bif Nat.blt o 2 then (bif Nat.blt o 1 then 5 else 3) else (bif Nat.blt o 3 then 2 else 1)) else (bif Nat.blt o 7 then (bif Nat.blt o 6 then 0 else 4) else (bif Nat.blt o 8 then 6 else 13))) else (bif Nat.blt o 34 then (bif Nat.blt o 18 then (bif Nat.blt o 17 then 10 else 12) else (bif Nat.blt o 33 then 10 else 12)) else (bif Nat.blt o 39 then (bif Nat.blt o 38 then 10 else 12) else (bif Nat.blt o 47 then 10 else (bif Nat.blt o 48 then 11 else 10))))) else (bif Nat.blt o 118 then (bif Nat.blt o 71 then (bif Nat.blt o 67 then (bif Nat.blt o 58 then 11 else 10) else (bif Nat.blt o 68 then 11 else 10)) else (bif Nat.blt o 76 then (bif Nat.blt o 72 then 12 else 10) else (bif Nat.blt o 77 then 12 else 10))) else (bif Nat.blt o 129 then (bif Nat.blt o 124 then (bif Nat.blt o 120 then 11 else 10) else (bif Nat.blt o 125 then 12 else 10)) else (bif Nat.blt o 171 then (bif Nat.blt o 130 then 12 else 10) else (bif Nat.blt o 173 then 11 else (bif Nat.blt o 174 then 10 else 99))))))
/-- what an object is: 0 to 6 of that class, 10 int[], 11 boolean[], 12 int[][], 13 long[], 14 the script -/
def ox_k (o : Nat) : Nat := bif Nat.blt o 174 then ox_kz o else bif Nat.beq o 174 then 14 else 99
def ox_nz (o : Nat) : Nat := (bif Nat.blt o 53 then (bif Nat.blt o 26 then (bif Nat.blt o 7 then (bif Nat.blt o 3 then (bif Nat.blt o 1 then 6 else (bif Nat.blt o 2 then 12 else 6)) else (bif Nat.blt o 4 then 11 else (bif Nat.blt o 6 then 13 else 3))) else (bif Nat.blt o 15 then (bif Nat.blt o 8 then 38 else (bif Nat.blt o 9 then 1 else 12)) else (bif Nat.blt o 22 then (bif Nat.blt o 18 then 4 else 12) else (bif Nat.blt o 25 then 40 else 8)))) else (bif Nat.blt o 38 then (bif Nat.blt o 31 then (bif Nat.blt o 27 then 12 else (bif Nat.blt o 28 then 13 else 5000)) else (bif Nat.blt o 32 then 12 else (bif Nat.blt o 34 then 4 else 13))) else (bif Nat.blt o 47 then (bif Nat.blt o 39 then 4 else (bif Nat.blt o 43 then 13 else 12)) else (bif Nat.blt o 51 then (bif Nat.blt o 48 then 144 else 40) else (bif Nat.blt o 52 then 8 else 12))))) else (bif Nat.blt o 68 then (bif Nat.blt o 59 then (bif Nat.blt o 56 then (bif Nat.blt o 54 then 48 else (bif Nat.blt o 55 then 4 else 12)) else (bif Nat.blt o 57 then 5760 else (bif Nat.blt o 58 then 1872 else 5000))) else (bif Nat.blt o 64 then (bif Nat.blt o 60 then 60000 else (bif Nat.blt o 62 then 5000 else 12)) else (bif Nat.blt o 66 then (bif Nat.blt o 65 then 48 else 4) else (bif Nat.blt o 67 then 12 else 5760)))) else (bif Nat.blt o 121 then (bif Nat.blt o 76 then (bif Nat.blt o 70 then 12 else (bif Nat.blt o 72 then 4 else 12)) else (bif Nat.blt o 77 then 40 else (bif Nat.blt o 118 then 12 else 40))) else (bif Nat.blt o 129 then (bif Nat.blt o 123 then 12 else (bif Nat.blt o 125 then 4 else 12)) else (bif Nat.blt o 171 then (bif Nat.blt o 130 then 40 else 12) else (bif Nat.blt o 174 then 40 else 0))))))
/-- how many places it has (L: the script) -/
def ox_n (L o : Nat) : Nat := bif Nat.blt o 174 then ox_nz o else L
/-- the object that a place of it holds -/
def ox_r (o k : Nat) : Nat := (bif Nat.blt o 33 then (bif Nat.blt o 5 then (bif Nat.blt o 2 then (bif Nat.blt o 1 then (bif Nat.blt k 3 then (bif Nat.blt k 1 then 1 else (bif Nat.blt k 2 then 2 else 3)) else (bif Nat.blt k 4 then 4 else (bif Nat.blt k 5 then 5 else 6))) else (bif Nat.blt k 7 then (bif Nat.blt k 5 then (bif Nat.blt k 4 then 9 else 10) else (bif Nat.blt k 6 then 11 else 12)) else (bif Nat.blt k 9 then (bif Nat.blt k 8 then 13 else 14) else (bif Nat.blt k 10 then 15 else (bif Nat.blt k 11 then 16 else 17))))) else (bif Nat.blt o 3 then (bif Nat.blt k 4 then (bif Nat.blt k 3 then 22 else 23) else (bif Nat.blt k 5 then 24 else 25)) else (bif Nat.blt o 4 then (bif Nat.blt k 7 then (bif Nat.blt k 5 then 28 else (bif Nat.blt k 6 then 29 else 30)) else (bif Nat.blt k 9 then (bif Nat.blt k 8 then 31 else 32) else (bif Nat.blt k 10 then 33 else 38))) else (bif Nat.blt k 7 then (bif Nat.blt k 5 then (bif Nat.blt k 4 then 68 else 69) else (bif Nat.blt k 6 then 70 else 71)) else (bif Nat.blt k 9 then (bif Nat.blt k 8 then 76 else 117) else (bif Nat.blt k 10 then 118 else (bif Nat.blt k 11 then 119 else 120))))))) else (bif Nat.blt o 8 then (bif Nat.blt o 6 then (bif Nat.blt k 7 then (bif Nat.blt k 5 then (bif Nat.blt k 4 then 121 else 122) else (bif Nat.blt k 6 then 123 else 124)) else (bif Nat.blt k 9 then (bif Nat.blt k 8 then 129 else 170) else (bif Nat.blt k 10 then 171 else (bif Nat.blt k 11 then 172 else 173)))) else (bif Nat.blt o 7 then (bif Nat.blt k 2 then 26 else 27) else (bif Nat.blt k 17 then (bif Nat.blt k 10 then (bif Nat.blt k 6 then (bif Nat.blt k 4 then 43 else (bif Nat.blt k 5 then 44 else 45)) else (bif Nat.blt k 7 then 46 else (bif Nat.blt k 9 then 47 else 48))) else (bif Nat.blt k 14 then (bif Nat.blt k 11 then 49 else (bif Nat.blt k 13 then 50 else 51)) else (bif Nat.blt k 15 then 52 else (bif Nat.blt k 16 then 53 else 54)))) else (bif Nat.blt k 27 then (bif Nat.blt k 24 then (bif Nat.blt k 18 then 55 else (bif Nat.blt k 19 then 56 else 57)) else (bif Nat.blt k 25 then 58 else (bif Nat.blt k 26 then 59 else 60))) else (bif Nat.blt k 34 then (bif Nat.blt k 28 then 61 else (bif Nat.blt k 33 then 62 else 63)) else (bif Nat.blt k 36 then (bif Nat.blt k 35 then 64 else 65) else (bif Nat.blt k 37 then 66 else 67))))))) else (bif Nat.blt o 17 then 0 else (bif Nat.blt o 18 then 18 + k else 0)))) else (bif Nat.blt o 76 then (bif Nat.blt o 39 then (bif Nat.blt o 34 then 34 + k else (bif Nat.blt o 38 then 0 else 39 + k)) else (bif Nat.blt o 71 then 0 else (bif Nat.blt o 72 then 72 + k else 0))) else (bif Nat.blt o 125 then (bif Nat.blt o 77 then 77 + k else (bif Nat.blt o 124 then 0 else 125 + k)) else (bif Nat.blt o 129 then 0 else (bif Nat.blt o 130 then 130 + k else 0)))))
/-- is a field of a class a reference -/
def ox_rf (j k : Nat) : Bool := (bif Nat.blt j 3 then (bif Nat.blt j 1 then (bif Nat.blt k 3 then false else (bif Nat.blt k 12 then true else false)) else (bif Nat.blt j 2 then (bif Nat.blt k 4 then false else true) else (bif Nat.blt k 2 then false else true))) else (bif Nat.blt j 5 then (bif Nat.blt j 4 then (bif Nat.blt k 3 then false else true) else (bif Nat.blt k 1 then false else true)) else (bif Nat.blt j 6 then true else (bif Nat.blt k 13 then (bif Nat.blt k 8 then (bif Nat.blt k 3 then false else true) else (bif Nat.blt k 9 then false else (bif Nat.blt k 12 then true else false))) else (bif Nat.blt k 24 then (bif Nat.blt k 20 then true else false) else (bif Nat.blt k 29 then true else (bif Nat.blt k 33 then false else true)))))))
end
section
/-- the ints of the objects, by an object's number and a place -/
abbrev ox_S : Type := Nat → Nat → Int32
def ox_up (σ : ox_S) (o k : Nat) (v : Int32) : ox_S := fun o' => if o' = o then upd (σ o) k v else σ o'
/-- how a method ended: with an answer or none, or by throwing (0 UnsupportedOperation, 1 IllegalArgument, 2 IndexOutOfBounds) -/
abbrev ox_O : Type := Option Value ⊕ Nat
/-- a point inside a method: place, locals, stack, ints -/
abbrev ox_P : Type := Nat × List (Option Value) × List Value × ox_S
def ox_nl (ls : List (Option Value)) (i : Nat) : Bool := match i with
  | 0 => true
  | j + 1 => match ls.getD j none with
    | some (.long _) => false
    | some (.double _) => false
    | _ => true
def ox_sto (ls : List (Option Value)) (i : Nat) (v : Value) (pc : Nat) (st : List Value) (σ : ox_S) : Option ox_P :=
  bif Nat.blt i ls.length && ox_nl ls i then some (pc, ls.set i (some v), st, σ) else none
def ox_sto2 (ls : List (Option Value)) (i : Nat) (v : Value) (pc : Nat) (st : List Value) (σ : ox_S) : Option ox_P :=
  bif Nat.blt (i + 1) ls.length && ox_nl ls i then some (pc, (ls.set i (some v)).set (i + 1) none, st, σ) else none
def ox_lI (ls : List (Option Value)) (i pc : Nat) (st : List Value) (σ : ox_S) : Option ox_P := match ls.getD i none with
  | some (.int x) => some (pc, ls, .int x :: st, σ)
  | _ => none
def ox_lA (ls : List (Option Value)) (i pc : Nat) (st : List Value) (σ : ox_S) : Option ox_P := match ls.getD i none with
  | some (.ref x) => some (pc, ls, .ref x :: st, σ)
  | _ => none
def ox_lL (ls : List (Option Value)) (i pc : Nat) (st : List Value) (σ : ox_S) : Option ox_P := match ls.getD i none with
  | some (.long x) => some (pc, ls, .long x :: st, σ)
  | _ => none
def ox_2 (st : List Value) (f : Int32 → Int32 → List Value → Option ox_P) : Option ox_P := match st with
  | .int y :: .int x :: r => f x y r
  | _ => none
def ox_1 (st : List Value) (f : Int32 → List Value → Option ox_P) : Option ox_P := match st with
  | .int x :: r => f x r
  | _ => none
def ox_a (st : List Value) (f : Nat → Int32 → List Value → Option ox_P) : Option ox_P := match st with
  | .int i :: .ref o :: r => f o i r
  | _ => none
def ox_a3 (st : List Value) (f : Nat → Int32 → Int32 → List Value → Option ox_P) : Option ox_P := match st with
  | .int x :: .int i :: .ref o :: r => f o i x r
  | _ => none
def ox_c1 (v : Value) : Bool := match v with
  | .int _ => true
  | .ref _ => true
  | _ => false
/-- one simple instruction -/
def ox_s1 (L pc : Nat) (e : Instr × Nat × Nat × Nat) (ls : List (Option Value)) (st : List Value) (σ : ox_S) : Option ox_P := match e.1 with
  | .iconst n => some (pc + 1, ls, .int (Int32.ofInt n) :: st, σ)
  | .bipush n => some (pc + 2, ls, .int (Int8.ofInt n).toInt32 :: st, σ)
  | .sipush n => some (pc + 3, ls, .int (Int16.ofInt n).toInt32 :: st, σ)
  | .lconst n => some (pc + 1, ls, .long (Int64.ofNat n.val) :: st, σ)
  | .ldc2_w _ => some (pc + 3, ls, .long (Int64.ofNat e.2.2.1) :: st, σ)
  | .iload_n k => ox_lI ls k.val (pc + 1) st σ
  | .iload k => ox_lI ls k (pc + 2) st σ
  | .aload_n k => ox_lA ls k.val (pc + 1) st σ
  | .aload k => ox_lA ls k (pc + 2) st σ
  | .lload_n k => ox_lL ls k.val (pc + 1) st σ
  | .istore_n k => ox_1 st (fun x r => ox_sto ls k.val (.int x) (pc + 1) r σ)
  | .istore k => ox_1 st (fun x r => ox_sto ls k (.int x) (pc + 2) r σ)
  | .astore_n k => match st with
    | .ref x :: r => ox_sto ls k.val (.ref x) (pc + 1) r σ
    | _ => none
  | .astore k => match st with
    | .ref x :: r => ox_sto ls k (.ref x) (pc + 2) r σ
    | _ => none
  | .lstore_n k => match st with
    | .long x :: r => ox_sto2 ls k.val (.long x) (pc + 1) r σ
    | _ => none
  | .iinc i n => match ls.getD i none with
    | some (.int x) => ox_sto ls i (.int (x + Int32.ofInt n)) (pc + 3) st σ
    | _ => none
  | .iadd => ox_2 st (fun x y r => some (pc + 1, ls, .int (x + y) :: r, σ))
  | .isub => ox_2 st (fun x y r => some (pc + 1, ls, .int (x - y) :: r, σ))
  | .imul => ox_2 st (fun x y r => some (pc + 1, ls, .int (x * y) :: r, σ))
  | .iand => ox_2 st (fun x y r => some (pc + 1, ls, .int (x &&& y) :: r, σ))
  | .ior => ox_2 st (fun x y r => some (pc + 1, ls, .int (x ||| y) :: r, σ))
  | .ixor => ox_2 st (fun x y r => some (pc + 1, ls, .int (x ^^^ y) :: r, σ))
  | .ishl => ox_2 st (fun x y r => some (pc + 1, ls, .int (x <<< (y &&& 31)) :: r, σ))
  | .idiv => ox_2 st (fun x y r => if y = 0 then none else some (pc + 1, ls, .int (x / y) :: r, σ))
  | .irem => ox_2 st (fun x y r => if y = 0 then none else some (pc + 1, ls, .int (x - x / y * y) :: r, σ))
  | .i2l => ox_1 st (fun x r => some (pc + 1, ls, .long x.toInt64 :: r, σ))
  | .l2i => match st with
    | .long x :: r => some (pc + 1, ls, .int x.toInt32 :: r, σ)
    | _ => none
  | .lmul => match st with
    | .long y :: .long x :: r => some (pc + 1, ls, .long (x * y) :: r, σ)
    | _ => none
  | .lcmp => match st with
    | .long y :: .long x :: r => some (pc + 1, ls, .int (lg_cmp x y) :: r, σ)
    | _ => none
  | .dup => match st with
    | v :: r => bif ox_c1 v then some (pc + 1, ls, v :: v :: r, σ) else none
    | _ => none
  | .dup2 => match st with
    | v :: u :: r => bif ox_c1 v && ox_c1 u then some (pc + 1, ls, v :: u :: v :: u :: r, σ) else none
    | _ => none
  | .pop => match st with
    | v :: r => bif ox_c1 v then some (pc + 1, ls, r, σ) else none
    | _ => none
  | .getfield _ => match st with
    | .ref o :: r => bif Nat.beq (ox_k o) e.2.2.1 && Nat.blt o 174 then some (pc + 3, ls, (bif ox_rf e.2.2.1 e.2.2.2 then .ref (ox_r o e.2.2.2) else .int (σ o e.2.2.2)) :: r, σ) else none
    | _ => none
  | .putfield _ => match st with
    | .int x :: .ref o :: r => bif Nat.beq (ox_k o) e.2.2.1 && Nat.blt o 174 && !(ox_rf e.2.2.1 e.2.2.2) then some (pc + 3, ls, r, ox_up σ o e.2.2.2 x) else none
    | _ => none
  | .iaload => ox_a st (fun o i r => if ((ox_k o = 10 ∧ o < 174) ∨ ox_k o = 14) ∧ ¬ (i < 0 ∨ ox_n L o ≤ i.toNatClampNeg) then some (pc + 1, ls, .int (σ o i.toNatClampNeg) :: r, σ) else none)
  | .baload => ox_a st (fun o i r => if (ox_k o = 11 ∧ o < 174) ∧ ¬ (i < 0 ∨ ox_n L o ≤ i.toNatClampNeg) then some (pc + 1, ls, .int (σ o i.toNatClampNeg) :: r, σ) else none)
  | .aaload => ox_a st (fun o i r => if (ox_k o = 12 ∧ o < 174) ∧ ¬ (i < 0 ∨ ox_n L o ≤ i.toNatClampNeg) then some (pc + 1, ls, .ref (ox_r o i.toNatClampNeg) :: r, σ) else none)
  | .laload => ox_a st (fun o i r => if (ox_k o = 13 ∧ o < 174) ∧ ¬ (i < 0 ∨ ox_n L o ≤ i.toNatClampNeg) then some (pc + 1, ls, .long (σ o i.toNatClampNeg).toInt64 :: r, σ) else none)
  | .iastore => ox_a3 st (fun o i x r => if (ox_k o = 10 ∧ o < 174) ∧ ¬ (i < 0 ∨ ox_n L o ≤ i.toNatClampNeg) then some (pc + 1, ls, r, ox_up σ o i.toNatClampNeg x) else none)
  | .bastore => ox_a3 st (fun o i x r => if (ox_k o = 11 ∧ o < 174) ∧ ¬ (i < 0 ∨ ox_n L o ≤ i.toNatClampNeg) then some (pc + 1, ls, r, ox_up σ o i.toNatClampNeg (vp_nar .boolean x)) else none)
  | .lastore => match st with
    | .long x :: .int i :: .ref o :: r => if ((ox_k o = 13 ∧ o < 174) ∧ x.toInt32.toInt64 = x) ∧ ¬ (i < 0 ∨ ox_n L o ≤ i.toNatClampNeg) then some (pc + 1, ls, r, ox_up σ o i.toNatClampNeg x.toInt32) else none
    | _ => none
  | .arraylength => match st with
    | .ref o :: r => bif Nat.beq (ox_k o) 14 then some (pc + 1, ls, .int (Int32.ofNat (ox_n L o)) :: r, σ) else none
    | _ => none
  | .if_icmp .eq _ => ox_2 st (fun x y r => some (if x = y then e.2.2.1 else pc + 3, ls, r, σ))
  | .if_icmp .ne _ => ox_2 st (fun x y r => some (if x = y then pc + 3 else e.2.2.1, ls, r, σ))
  | .if_icmp .lt _ => ox_2 st (fun x y r => some (if x < y then e.2.2.1 else pc + 3, ls, r, σ))
  | .if_icmp .ge _ => ox_2 st (fun x y r => some (if y ≤ x then e.2.2.1 else pc + 3, ls, r, σ))
  | .if_icmp .gt _ => ox_2 st (fun x y r => some (if y < x then e.2.2.1 else pc + 3, ls, r, σ))
  | .if_icmp .le _ => ox_2 st (fun x y r => some (if x ≤ y then e.2.2.1 else pc + 3, ls, r, σ))
  | .ifCond .eq _ => ox_1 st (fun x r => some (if x = 0 then e.2.2.1 else pc + 3, ls, r, σ))
  | .ifCond .ne _ => ox_1 st (fun x r => some (if x = 0 then pc + 3 else e.2.2.1, ls, r, σ))
  | .ifCond .lt _ => ox_1 st (fun x r => some (if x < 0 then e.2.2.1 else pc + 3, ls, r, σ))
  | .ifCond .ge _ => ox_1 st (fun x r => some (if 0 ≤ x then e.2.2.1 else pc + 3, ls, r, σ))
  | .ifCond .gt _ => ox_1 st (fun x r => some (if 0 < x then e.2.2.1 else pc + 3, ls, r, σ))
  | .ifCond .le _ => ox_1 st (fun x r => some (if x ≤ 0 then e.2.2.1 else pc + 3, ls, r, σ))
  | .goto _ => some (e.2.2.1, ls, st, σ)
  | .tableswitch dflt lo hi offs => ox_1 st (fun x r => if x.toInt < lo ∨ hi < x.toInt then (if 0 ≤ (pc : Int) + dflt then some (((pc : Int) + dflt).toNat, ls, r, σ) else none) else match offs[(x.toInt - lo).toNat]? with
    | some off => if 0 ≤ (pc : Int) + off then some (((pc : Int) + off).toNat, ls, r, σ) else none
    | none => none)
  | .invokestatic _ => bif Nat.beq e.2.2.1 901 then ox_2 st (fun x y r => bif Nat.ble ((r.map Value.category).sum) 8 then some (pc + 3, ls, .int (if x < y then y else x) :: r, σ) else none) else none
  | _ => none
/-- the room of a level: its cells, its slots -/
def ox_rc (k : Nat) : Nat := bif Nat.beq k 10 then 601024 else 4
def ox_rs (k : Nat) : Nat := bif Nat.beq k 10 then 7293034 else 64
/-- the handler that takes x at pc: where it goes on, and the local that it leaves open; the classes of the entries by their numbers in the pool -/
def ox_hx (q : Nat) : Nat := bif Nat.beq q 13 then 0 else bif Nat.beq q 19 then 1 else 2
def ox_hd (mi pc x : Nat) : Option (Nat × Nat) := match (ox_hh mi).find? (fun h => decide (h.1 ≤ pc) && decide (pc < h.2.1) && ox_hx h.2.2.2 == x) with
  | none => none
  | some h => match ox_I mi h.2.2.1 with
    | some (.astore_n k, _, _, _) => some (h.2.2.1 + 1, k.val)
    | some (.astore k, _, _, _) => some (h.2.2.1 + 2, k)
    | _ => none
/-- what a call asks: the callee's level, arguments and room -/
def ox_gd (k c w a b : Nat) (st : List Value) : Bool := Nat.blt a 114 && Nat.ble 1 k && Nat.ble b st.length && Nat.ble b (ox_mL a) && (st.take b).all ox_c1 && Nat.ble (c + ox_rc k) (ox_rc (k + 1)) && Nat.ble (w + ox_rs k) (ox_rs (k + 1)) && Nat.ble (((st.drop b).map Value.category).sum) 8
theorem ox_gdi {k c w a b : Nat} {st : List Value} (h : ox_gd k c w a b st = true) : a < 114 ∧ 1 ≤ k ∧ b ≤ st.length ∧ b ≤ ox_mL a ∧ (st.take b).all ox_c1 = true ∧ c + ox_rc k ≤ ox_rc (k + 1) ∧ w + ox_rs k ≤ ox_rs (k + 1) ∧ ((st.drop b).map Value.category).sum ≤ 8 := by
  simp only [ox_gd, Bool.and_eq_true] at h
  obtain ⟨⟨⟨⟨⟨⟨⟨g0, g1⟩, g2⟩, g3⟩, g4⟩, g5⟩, g6⟩, g7⟩ := h
  exact ⟨Nat.le_of_ble_eq_true g0, Nat.le_of_ble_eq_true g1, Nat.le_of_ble_eq_true g2, Nat.le_of_ble_eq_true g3, g4, Nat.le_of_ble_eq_true g5, Nat.le_of_ble_eq_true g6, Nat.le_of_ble_eq_true g7⟩
/-- the machine, one instruction: level, method, point, cells and slots made; rec: the machine with less fuel -/
def ox_F (L : Nat) (rec : Nat → Nat → Nat → List (Option Value) → List Value → ox_S → Nat → Nat → Option (ox_O × ox_S × Nat × Nat)) (k mi pc : Nat) (ls : List (Option Value)) (st : List Value) (σ : ox_S) (c w : Nat) : Option (ox_O × ox_S × Nat × Nat) :=
  match ox_I mi pc with
    | none => none
    | some e => match ox_s1 L pc e ls st σ with
      | some (pc', ls', st', σ') => rec k mi pc' ls' st' σ' c w
      | none => match e.1 with
        | .ireturn => match st with
          | [.int v] => match ox_rt mi with
            | some ty => if narrow ty (.int v) = .int v then some (.inl (some (.int v)), σ, c, w) else none
            | none => none
          | _ => none
        | .return_ => match st with
          | [] => match ox_rt mi with
            | none => some (.inl none, σ, c, w)
            | some _ => none
          | _ => none
        | .new _ => match st with
          | [] => bif Nat.blt e.2.2.1 3 && Nat.blt 5 k && Nat.blt c (ox_rc k) && Nat.ble (w + 6) (ox_rs k) then some (.inr e.2.2.1, σ, c + 1, w + 6) else none
          | _ => none
        | .invokevirtual _ => match k with
          | 0 => none
          | k' + 1 => bif ox_gd k' c w e.2.2.1 e.2.2.2 st then
              match (st.take e.2.2.2).reverse with
              | .ref o :: as => bif Nat.beq (ox_k o) (ox_ow e.2.2.1) && Nat.blt o 174 then
                  match rec k' e.2.2.1 0 (((Value.ref o :: as).map some) ++ List.replicate (ox_mL e.2.2.1 - (as.length + 1)) none) [] σ 0 0 with
                  | some (.inl v, σ', c', w') => rec (k' + 1) mi (pc + 3) ls (v.toList ++ st.drop e.2.2.2) σ' (c + c') (w + w')
                  | some (.inr x, σ', c', w') => match ox_hd mi pc x with
                    | some (h, i) => bif ox_nl ls i && Nat.blt i ls.length then rec (k' + 1) mi h (ls.set i none) [] σ' (c + c') (w + w') else none
                    | none => none
                  | none => none
                else none
              | _ => none
            else none
        | .invokestatic _ => match k with
          | 0 => none
          | k' + 1 => bif ox_gd k' c w e.2.2.1 e.2.2.2 st then
              match rec k' e.2.2.1 0 (((st.take e.2.2.2).reverse.map some) ++ List.replicate (ox_mL e.2.2.1 - e.2.2.2) none) [] σ 0 0 with
              | some (.inl v, σ', c', w') => rec (k' + 1) mi (pc + 3) ls (v.toList ++ st.drop e.2.2.2) σ' (c + c') (w + w')
              | _ => none
            else none
        | _ => none
/-- the machine with so much fuel -/
def ox_x (L : Nat) : Nat → Nat → Nat → Nat → List (Option Value) → List Value → ox_S → Nat → Nat → Option (ox_O × ox_S × Nat × Nat)
  | 0 => fun _ _ _ _ _ _ _ _ => none
  | n + 1 => ox_F L (ox_x L n)
theorem ox_F_s {L k mi pc pc' : Nat} {rec : Nat → Nat → Nat → List (Option Value) → List Value → ox_S → Nat → Nat → Option (ox_O × ox_S × Nat × Nat)} {ls ls' : List (Option Value)} {st st' : List Value} {σ σ' : ox_S} {c w : Nat} {e : Instr × Nat × Nat × Nat} (hI : ox_I mi pc = some e) (hs : ox_s1 L pc e ls st σ = some (pc', ls', st', σ')) :
    ox_F L rec k mi pc ls st σ c w = rec k mi pc' ls' st' σ' c w := by
  unfold ox_F
  rw [hI]
  simp only
  rw [hs]
end
section
/-- a method's point comes to its end -/
def oz_R (L k mi pc : Nat) (ls : List (Option Value)) (st : List Value) (σ : ox_S) (c w : Nat) (out : ox_O × ox_S × Nat × Nat) : Prop := ∃ n, ∀ m, n ≤ m → ox_x L m k mi pc ls st σ c w = some out
section OXR
variable {L k mi pc pc' : Nat} {ls ls' : List (Option Value)} {st st' : List Value} {σ σ' : ox_S} {c w : Nat} {out : ox_O × ox_S × Nat × Nat} {e : Instr × Nat × Nat × Nat}
theorem ox_r1 (hI : ox_I mi pc = some e) (hs : ox_s1 L pc e ls st σ = some (pc', ls', st', σ')) (K : oz_R L k mi pc' ls' st' σ' c w out) : oz_R L k mi pc ls st σ c w out := by
  obtain ⟨n, hn⟩ := K
  refine ⟨n + 1, fun m hm => ?_⟩
  obtain ⟨m', rfl⟩ : ∃ m', m = m' + 1 := ⟨m - 1, by omega⟩
  show ox_F L (ox_x L m') k mi pc ls st σ c w = _
  rw [ox_F_s hI hs]
  exact hn m' (by omega)
/-- n simple instructions -/
def ox_sN (L mi : Nat) : Nat → ox_P → Option ox_P
  | 0, s => some s
  | n + 1, (pc, ls, st, σ) => match ox_I mi pc with
    | none => none
    | some e => match ox_s1 L pc e ls st σ with
      | none => none
      | some s' => ox_sN L mi n s'
theorem ox_rN (n : Nat) (h : ox_sN L mi n (pc, ls, st, σ) = some (pc', ls', st', σ')) (K : oz_R L k mi pc' ls' st' σ' c w out) : oz_R L k mi pc ls st σ c w out := by
  induction n generalizing pc ls st σ with
  | zero =>
    cases h
    exact K
  | succ n ih =>
    rw [ox_sN] at h
    cases hI : ox_I mi pc with
    | none => rw [hI] at h; cases h
    | some e =>
      rw [hI] at h
      simp only at h
      cases hs : ox_s1 L pc e ls st σ with
      | none => rw [hs] at h; cases h
      | some q =>
        rw [hs] at h
        obtain ⟨a, b, d, f⟩ := q
        exact ox_r1 hI hs (ih h)
/-- a branch, as a simple instruction leaves it -/
theorem ox_rIf {C : Prop} [Decidable C] {a b : Nat} (h1 : C → oz_R L k mi a ls st σ c w out) (h2 : ¬ C → oz_R L k mi b ls st σ c w out) : oz_R L k mi (if C then a else b) ls st σ c w out := by
  by_cases h : C
  · rw [if_pos h]; exact h1 h
  · rw [if_neg h]; exact h2 h
theorem ox_rRet {v : Int32} {ty : FieldType} (hI : ox_I mi pc = some (.ireturn, 1, 0, 0)) (ht : ox_rt mi = some ty) (hv : narrow ty (.int v) = .int v) : oz_R L k mi pc ls [.int v] σ c w (.inl (some (.int v)), σ, c, w) := by
  refine ⟨1, fun m hm => ?_⟩
  obtain ⟨m', rfl⟩ : ∃ m', m = m' + 1 := ⟨m - 1, by omega⟩
  show ox_F L (ox_x L m') k mi pc ls _ σ c w = _
  unfold ox_F
  rw [hI]
  simp only [ox_s1, ht]
  rw [if_pos hv]
theorem ox_rRetv (hI : ox_I mi pc = some (.return_, 1, 0, 0)) (ht : ox_rt mi = none) : oz_R L k mi pc ls [] σ c w (.inl none, σ, c, w) := by
  refine ⟨1, fun m hm => ?_⟩
  obtain ⟨m', rfl⟩ : ∃ m', m = m' + 1 := ⟨m - 1, by omega⟩
  show ox_F L (ox_x L m') k mi pc ls _ σ c w = _
  unfold ox_F
  rw [hI]
  simp only [ox_s1, ht]
end OXR
end
section
/-- a value as the real machine has it: ad gives an object's address -/
def ox_cv (ad : Nat → Nat) (v : Value) : Value := match v with
  | .ref o => .ref (ad o)
  | v => v
def ox_fs (ad : Nat → Nat) (σ : ox_S) (o : Nat) : List Value := (List.range (ox_fn (ox_k o))).map (fun k => bif ox_rf (ox_k o) k then .ref (ad (ox_r o k)) else .int (σ o k))
/-- what an object's cell holds -/
def ox_en (ad : Nat → Nat) (cy : Nat → ClassId) (σ : ox_S) (o : Nat) : va_E :=
  if ox_k o < 7 then .inr (ox_k o, ox_fs ad σ o)
  else if ox_k o = 10 then .inl (cy 0, ox_n 0 o, .inl (σ o))
  else if ox_k o = 11 then .inl (cy 1, ox_n 0 o, .inl (σ o))
  else if ox_k o = 12 then .inl (cy 2, ox_n 0 o, .inr (.inr (.inr (.inr (fun i => some (ad (ox_r o i)))))))
  else .inl (cy 3, ox_n 0 o, .inr (.inl (fun i => (σ o i).toInt64)))
def ox_ws (ad : Nat → Nat) (cy : Nat → ClassId) (σ : ox_S) : va_W := (List.range 174).map (fun o => (ad o, ox_en ad cy σ o))
def ox_tys (cy : Nat → ClassId) : List (ClassId × FieldType) := [(cy 0, .int), (cy 1, .boolean), (cy 2, .array .int), (cy 3, .long)]
theorem ox_ws_get {ad : Nat → Nat} {cy : Nat → ClassId} {σ : ox_S} {o : Nat} (h : o < 174) : (ox_ws ad cy σ)[o]? = some (ad o, ox_en ad cy σ o) := by
  simp [ox_ws, h]
theorem ox_en_congr {ad : Nat → Nat} {cy : Nat → ClassId} {σ σ' : ox_S} {o : Nat} (h : σ' o = σ o) : ox_en ad cy σ' o = ox_en ad cy σ o := by
  simp only [ox_en, ox_fs, h]
theorem ox_ws_set {ad : Nat → Nat} {cy : Nat → ClassId} {σ σ' : ox_S} {o : Nat} {E : va_E} (he : ox_en ad cy σ' o = E) (hne : ∀ o', o' ≠ o → σ' o' = σ o') : (ox_ws ad cy σ).set o (ad o, E) = ox_ws ad cy σ' := by
  apply List.ext_getElem?
  intro j
  rw [List.getElem?_set]
  by_cases hj : o = j
  · subst hj
    by_cases h : o < 174
    · rw [ox_ws_get (σ := σ') h, he]; simp [ox_ws, h]
    · simp [ox_ws, h]
  · rw [if_neg hj]
    by_cases h : j < 174
    · rw [ox_ws_get h, ox_ws_get h, ox_en_congr (hne j (fun q => hj q.symm))]
    · simp [ox_ws, h]
theorem ox_up_ne {σ : ox_S} {o k : Nat} {v : Int32} {o' : Nat} (h : o' ≠ o) : ox_up σ o k v o' = σ o' := if_neg h
theorem ox_up_eq {σ : ox_S} {o k : Nat} {v : Int32} : ox_up σ o k v o = upd (σ o) k v := if_pos rfl
/-- the addresses of the objects are apart, and the script's is none of them -/
def ox_ap (ad : Nat → Nat) : Prop := (∀ i j, i < 174 → j < 174 → ad i = ad j → i = j) ∧ ∀ i, i < 174 → ad i ≠ ad 174
/-- what an invocation may write -/
def ox_A (ad : Nat → Nat) (sz : Nat) : Nat → Prop := fun q => (∃ o, o < 174 ∧ q = ad o) ∨ sz ≤ q
theorem ox_wsD {ad : Nat → Nat} {cy : Nat → ClassId} {σ : ox_S} {sz : Nat} (h : ox_ap ad) : va_D (ox_A ad sz) (ox_ws ad cy σ) := by
  refine ⟨fun i j p q hi hj e => ?_, fun k q hk => ?_⟩
  · have h1 : i < 174 := by have := (List.getElem?_eq_some_iff.mp hi).1; simpa [ox_ws] using this
    have h2 : j < 174 := by have := (List.getElem?_eq_some_iff.mp hj).1; simpa [ox_ws] using this
    rw [ox_ws_get h1] at hi
    rw [ox_ws_get h2] at hj
    cases hi; cases hj
    exact h.1 i j h1 h2 e
  · have h1 : k < 174 := by have := (List.getElem?_eq_some_iff.mp hk).1; simpa [ox_ws] using this
    rw [ox_ws_get h1] at hk
    cases hk
    exact Or.inl ⟨k, h1, rfl⟩
/-- the locals -/
def ox_L (ad : Nat → Nat) (lsr : Array Slot) (n : Nat) (ls : List (Option Value)) : Prop := ls.length = n ∧ lsr.size = n ∧ lv_wf lsr ∧ ∀ (i : Nat) (v : Value), ls.getD i none = some v → lsr[i]? = some (.val (ox_cv ad v))
def ox_lv (ad : Nat → Nat) (ls : List (Option Value)) : List (Nat × Value) := (List.range ls.length).filterMap (fun i => (ls.getD i none).map (fun v => (i, ox_cv ad v)))
theorem ox_lv_mem {ad : Nat → Nat} {ls : List (Option Value)} {q : Nat × Value} : q ∈ ox_lv ad ls ↔ ∃ v, ls.getD q.1 none = some v ∧ q.2 = ox_cv ad v := by
  unfold ox_lv
  rw [List.mem_filterMap]
  constructor
  · rintro ⟨i, hi, h⟩
    cases hv : ls.getD i none with
    | none => rw [hv] at h; cases h
    | some v =>
      rw [hv] at h
      cases h
      exact ⟨v, hv, rfl⟩
  · rintro ⟨v, hv, e⟩
    obtain ⟨i, x⟩ := q
    dsimp only at hv e
    subst e
    refine ⟨i, List.mem_range.mpr ?_, by rw [hv]; rfl⟩
    rcases Nat.lt_or_ge i ls.length with h | h
    · exact h
    · rw [List.getD_eq_getElem?_getD, List.getElem?_eq_none h] at hv; cases hv
theorem ox_L.has {ad : Nat → Nat} {lsr : Array Slot} {n : Nat} {ls : List (Option Value)} (h : ox_L ad lsr n ls) : lv_has lsr n (ox_lv ad ls) := by
  refine ⟨h.2.1, h.2.2.1, fun q hq => ?_⟩
  obtain ⟨v, hv, e⟩ := ox_lv_mem.mp hq
  rw [e]
  exact h.2.2.2 _ _ hv
theorem ox_cv_cat (ad : Nat → Nat) (v : Value) : (ox_cv ad v).category = v.category := by cases v <;> rfl
theorem ox_getD_set {ls : List (Option Value)} {i j : Nat} {x : Option Value} : (ls.set i x).getD j none = if i = j ∧ j < ls.length then x else ls.getD j none := by
  rw [List.getD_eq_getElem?_getD, List.getD_eq_getElem?_getD, List.getElem?_set]
  by_cases h : i = j
  · subst h
    by_cases h2 : i < ls.length
    · simp [h2]
    · simp [h2]
  · simp [h]
theorem ox_nl_spec {ls : List (Option Value)} {i j : Nat} {v : Value} (h : ox_nl ls i = true) (hj : j + 1 = i) (hv : ls.getD j none = some v) : v.category ≠ 2 := by
  subst hj
  simp only [ox_nl] at h
  rw [hv] at h
  cases v <;> simp_all [Value.category]
theorem ox_L.store1 {ad : Nat → Nat} {lsr ls' : Array Slot} {n i : Nat} {ls : List (Option Value)} {v : Value} (h : ox_L ad lsr n ls) (hi : i < n) (hnl : ox_nl ls i = true)
    (h' : lv_has ls' n ((i, ox_cv ad v) :: (ox_lv ad ls).filter (fun q => !(q.1 == i) && !(q.1 + 1 == i && q.2.category == 2)))) : ox_L ad ls' n (ls.set i (some v)) := by
  refine ⟨by rw [List.length_set]; exact h.1, h'.1, h'.2.1, fun j u hu => ?_⟩
  rw [ox_getD_set] at hu
  by_cases hj : i = j ∧ j < ls.length
  · rw [if_pos hj] at hu
    cases hu
    rw [← hj.1]
    exact h'.2.2 _ (List.mem_cons_self ..)
  · rw [if_neg hj] at hu
    have hij : j ≠ i := fun q => hj ⟨q.symm, by rw [h.1, q]; exact hi⟩
    refine h'.2.2 (j, ox_cv ad u) (List.mem_cons_of_mem _ (List.mem_filter.mpr ⟨ox_lv_mem.mpr ⟨u, hu, rfl⟩, ?_⟩))
    have hc : ¬ (j + 1 = i ∧ u.category = 2) := fun q => ox_nl_spec hnl q.1 hu q.2
    simp only [ox_cv_cat, Bool.and_eq_true, Bool.not_eq_true', beq_eq_false_iff_ne, ne_eq, Bool.and_eq_false_iff]
    refine ⟨hij, ?_⟩
    by_cases h1 : j + 1 = i
    · exact Or.inr (fun q => hc ⟨h1, q⟩)
    · exact Or.inl h1
end
section
/-- an invocation of method mi at level k -/
def ox_rm (k : Nat) : Room := { frames := k, cells := ox_rc k, slots := ox_rs k, locals := 40 + 31 * k }
def ox_C (p : Program) (s : State) (m : MethodId) (args : Array Value) (meth : Method) (c : Code) (mi : Nat) (D : va_G) (ad : Nat → Nat) (cy : Nat → ClassId) (L : Nat) (xs : Nat → Int32) : Prop :=
  mi < 115 ∧ p.tables.exec = Jvm.exec ∧ c.code = ox_b mi ∧ c.maxLocals = ox_mL mi ∧ s.vm.findClass (ox_R (ox_ow mi)) = some m.cls ∧ (∀ w ∈ ox_gw, w.before args s = true) ∧ meth.sig.returnType = ox_rt mi ∧ meth.locks = false ∧
  va_K D ox_cl (ox_tys cy) s ∧ ox_ap ad ∧ va_X (ad 174) L xs s s.heap ∧ ad 174 < s.heap.size
theorem ox_inT : ∀ j, j < 7 → ∀ w ∈ u_ws (ox_R j) (ox_T j) (ox_fn j), w ∈ ox_gw := by
  intro j hj
  match j, hj with
  | 0, _ => exact ox_in0
  | 1, _ => exact ox_in1
  | 2, _ => exact ox_in2
  | 3, _ => exact ox_in3
  | 4, _ => exact ox_in4
  | 5, _ => exact ox_in5
  | 6, _ => exact ox_in6
  | k + 7, h => exact absurd h (by omega)
def ox_y (j : Nat) : Nat → FieldType := match j with
  | 0 => ox_y0
  | 1 => ox_y1
  | 2 => ox_y2
  | 3 => ox_y3
  | 4 => ox_y4
  | 5 => ox_y5
  | _ => ox_y6
theorem ox_yT : ∀ j, j < 7 → ∀ k, k < ox_fn j → parseFieldDescriptor (ox_T j k).2.2.1 = some (ox_y j k) := by
  intro j hj
  match j, hj with
  | 0, _ => exact ox_yok0
  | 1, _ => exact ox_yok1
  | 2, _ => exact ox_yok2
  | 3, _ => exact ox_yok3
  | 4, _ => exact ox_yok4
  | 5, _ => exact ox_yok5
  | 6, _ => exact ox_yok6
  | k + 7, h => exact absurd h (by omega)
theorem ox_nT : ∀ j, j < 7 → ∀ a, a < ox_fn j → ∀ b, b < ox_fn j → a ≠ b → (ox_T j a).2.1 ≠ (ox_T j b).2.1 := by
  intro j hj
  match j, hj with
  | 0, _ => exact ox_n0
  | 1, _ => exact ox_n1
  | 2, _ => exact ox_n2
  | 3, _ => exact ox_n3
  | 4, _ => exact ox_n4
  | 5, _ => exact ox_n5
  | 6, _ => exact ox_n6
  | k + 7, h => exact absurd h (by omega)
theorem ox_clT : ∀ j, j < 7 → ox_cl[j]? = some (ox_R j, ox_T j, ox_fn j) := by
  intro j hj
  match j, hj with
  | 0, _ => rfl
  | 1, _ => rfl
  | 2, _ => rfl
  | 3, _ => rfl
  | 4, _ => rfl
  | 5, _ => rfl
  | 6, _ => rfl
  | k + 7, h => exact absurd h (by omega)
theorem ox_fI : ∀ j, j < 7 → ∀ k, k < ox_fn j → ox_rf j k = false → parseFieldDescriptor (ox_T j k).2.2.1 = some .int ∧ (ox_T j k).2.2.2 = false := by decide +kernel
theorem ox_nL {o : Nat} (ho : o < 174) (L : Nat) : ox_n L o = ox_n 0 o := by
  have h : Nat.blt o 174 = true := Nat.ble_eq_true_of_le ho
  simp only [ox_n, h, cond_true]
section OX1
variable {p : Program} {l : Launch} {e : Env} {R : Room} {s : State} {m : MethodId} {args : Array Value} {below : List Frame} {meth : Method} {c : Code} {H : Heap} {locs : List Loc} {cells slots : Nat} {Q : State → Prop}
variable {mi : Nat} {D : va_G} {ad : Nat → Nat} {cy : Nat → ClassId} {L : Nat} {xs : Nat → Int32} {pc pc' : Nat} {ls ls' : List (Option Value)} {st st' : List Value} {σ σ' : ox_S} {lsr : Array Slot} {en : Instr × Nat × Nat × Nat}
/-- int[][]: a row -/
theorem ox_aald {cc : ByteArray} (hexec : p.tables.exec = Jvm.exec) (hb : c.code = cc) {cl : List vw_C} {tys : List (ClassId × FieldType)} {ws : va_W} (hK : va_K D cl tys s) (hP : va_P D cl ws H) (q0 t0 : Nat) {cA : ClassId} {n a : Nat} {f : Nat → Option Nat} {ls : Array Slot} {rest : List Value} (ha : ws[q0]? = some (a, .inl (cA, n, .inr (.inr (.inr (.inr f)))))) (ht : tys[t0]? = some (cA, .array .int)) {i : Int32} (hin : vp_in i n) (hdg : decode cc pc = .ok (.aaload, 1))
    (kk : W p l e R s m args below meth c H locs cells slots Q (F0 m (pc + 1) ls (va_rf (f i.toNatClampNeg) :: rest))) : W p l e R s m args below meth c H locs cells slots Q (F0 m pc ls (.int i :: .ref a :: rest)) := by
  have hlt : i.toNatClampNeg < n := Nat.not_le.mp fun q => hin (Or.inr q)
  exact W.aald (v := va_rf (f i.toNatClampNeg)) (ty := .array .int) hexec hb (hP q0 _ ha) ((hK.2 t0 _ ht).1 n (fun j => va_rf (f j))) rfl (fun q => by cases q) (by show ¬ (i < 0 ∨ (arrV _ _ _).slots.size ≤ _); rw [arrV_size]; exact hin) (by show (arrV _ _ _).slots[_]? = _; rw [arrV_read _ _ hlt]) rfl rfl hdg kk
/-- what is behind a simple instruction -/
def ox_K (p : Program) (l : Launch) (e : Env) (R : Room) (s : State) (m : MethodId) (args : Array Value) (below : List Frame) (meth : Method) (c : Code) (cells slots : Nat) (Q : State → Prop) (mi : Nat) (D : va_G) (ad : Nat → Nat) (cy : Nat → ClassId) (xs : Nat → Int32) (q : ox_P) : Prop :=
  ∀ (H : Heap) (locs : List Loc) (lsr : Array Slot), va_P D ox_cl (ox_ws ad cy q.2.2.2) H → va_S (ox_A ad s.heap.size) s.heap H locs → ox_L ad lsr (ox_mL mi) q.2.1 → q.2.2.2 174 = xs →
    W p l e R s m args below meth c H locs cells slots Q (F0 m q.1 lsr (q.2.2.1.map (ox_cv ad)))
theorem ox_1i {st : List Value} {f : Int32 → List Value → Option ox_P} {q : ox_P} (h : ox_1 st f = some q) : ∃ x r, st = .int x :: r ∧ f x r = some q := by
  unfold ox_1 at h
  split at h
  · exact ⟨_, _, rfl, h⟩
  · cases h
theorem ox_2i {st : List Value} {f : Int32 → Int32 → List Value → Option ox_P} {q : ox_P} (h : ox_2 st f = some q) : ∃ x y r, st = .int y :: .int x :: r ∧ f x y r = some q := by
  unfold ox_2 at h
  split at h
  · exact ⟨_, _, _, rfl, h⟩
  · cases h
theorem ox_ai {st : List Value} {f : Nat → Int32 → List Value → Option ox_P} {q : ox_P} (h : ox_a st f = some q) : ∃ o i r, st = .int i :: .ref o :: r ∧ f o i r = some q := by
  unfold ox_a at h
  split at h
  · exact ⟨_, _, _, rfl, h⟩
  · cases h
theorem ox_a3i {st : List Value} {f : Nat → Int32 → Int32 → List Value → Option ox_P} {q : ox_P} (h : ox_a3 st f = some q) : ∃ o i x r, st = .int x :: .int i :: .ref o :: r ∧ f o i x r = some q := by
  unfold ox_a3 at h
  split at h
  · exact ⟨_, _, _, _, rfl, h⟩
  · cases h
theorem ox_stoi {v : Value} {i : Nat} {q : ox_P} (h : ox_sto ls i v pc st σ = some q) : i < ls.length ∧ ox_nl ls i = true ∧ q = (pc, ls.set i (some v), st, σ) := by
  unfold ox_sto at h
  cases hc : (Nat.blt i ls.length && ox_nl ls i) with
  | false => rw [hc] at h; cases h
  | true =>
    rw [hc] at h
    cases h
    rw [Bool.and_eq_true] at hc
    exact ⟨Nat.le_of_ble_eq_true hc.1, hc.2, rfl⟩
theorem ox_sto2i {v : Value} {i : Nat} {q : ox_P} (h : ox_sto2 ls i v pc st σ = some q) : i + 1 < ls.length ∧ ox_nl ls i = true ∧ q = (pc, (ls.set i (some v)).set (i + 1) none, st, σ) := by
  unfold ox_sto2 at h
  cases hc : (Nat.blt (i + 1) ls.length && ox_nl ls i) with
  | false => rw [hc] at h; cases h
  | true =>
    rw [hc] at h
    cases h
    rw [Bool.and_eq_true] at hc
    exact ⟨Nat.le_of_ble_eq_true hc.1, hc.2, rfl⟩
theorem ox_ldIi {i : Nat} {q : ox_P} (h : ox_lI ls i pc st σ = some q) : ∃ x, ls.getD i none = some (.int x) ∧ q = (pc, ls, .int x :: st, σ) := by
  unfold ox_lI at h
  split at h
  · rename_i x hx
    exact ⟨x, hx, (Option.some.inj h).symm⟩
  · cases h
theorem ox_ldAi {i : Nat} {q : ox_P} (h : ox_lA ls i pc st σ = some q) : ∃ x, ls.getD i none = some (.ref x) ∧ q = (pc, ls, .ref x :: st, σ) := by
  unfold ox_lA at h
  split at h
  · rename_i x hx
    exact ⟨x, hx, (Option.some.inj h).symm⟩
  · cases h
theorem ox_ldLi {i : Nat} {q : ox_P} (h : ox_lL ls i pc st σ = some q) : ∃ x, ls.getD i none = some (.long x) ∧ q = (pc, ls, .long x :: st, σ) := by
  unfold ox_lL at h
  split at h
  · rename_i x hx
    exact ⟨x, hx, (Option.some.inj h).symm⟩
  · cases h
theorem ox_L.store2 {ls' : Array Slot} {n i : Nat} {v : Value} (h : ox_L ad lsr n ls) (hi : i + 1 < n) (hnl : ox_nl ls i = true)
    (h' : lv_has ls' n ((i, ox_cv ad v) :: (ox_lv ad ls).filter (fun q => !(q.1 == i) && (!(q.1 == i + 1) && !(q.1 + 1 == i && q.2.category == 2))))) : ox_L ad ls' n ((ls.set i (some v)).set (i + 1) none) := by
  refine ⟨by rw [List.length_set, List.length_set]; exact h.1, h'.1, h'.2.1, fun j u hu => ?_⟩
  rw [ox_getD_set, List.length_set] at hu
  by_cases hj1 : i + 1 = j ∧ j < ls.length
  · rw [if_pos hj1] at hu; cases hu
  rw [if_neg hj1, ox_getD_set] at hu
  by_cases hj : i = j ∧ j < ls.length
  · rw [if_pos hj] at hu
    cases hu
    rw [← hj.1]
    exact h'.2.2 _ (List.mem_cons_self ..)
  · rw [if_neg hj] at hu
    have hij : j ≠ i := fun q => hj ⟨q.symm, by rw [h.1, q]; omega⟩
    have hij1 : j ≠ i + 1 := fun q => hj1 ⟨q.symm, by rw [h.1, q]; exact hi⟩
    refine h'.2.2 (j, ox_cv ad u) (List.mem_cons_of_mem _ (List.mem_filter.mpr ⟨ox_lv_mem.mpr ⟨u, hu, rfl⟩, ?_⟩))
    have hc : ¬ (j + 1 = i ∧ u.category = 2) := fun q => ox_nl_spec hnl q.1 hu q.2
    simp only [ox_cv_cat, Bool.and_eq_true, Bool.not_eq_true', beq_eq_false_iff_ne, ne_eq, Bool.and_eq_false_iff]
    refine ⟨hij, hij1, ?_⟩
    by_cases h1 : j + 1 = i
    · exact Or.inr (fun q => hc ⟨h1, q⟩)
    · exact Or.inl h1
end OX1
theorem ox_k14 {o : Nat} (h : ox_k o = 14) : o = 174 ∧ ∀ {L : Nat}, ox_n L o = L := by
  have h1 : ¬ o < 174 := by
    intro q
    have : ∀ o, o < 174 → ox_k o ≠ 14 := by decide +kernel
    exact this o q h
  have h2 : o = 174 := by
    rcases Nat.lt_or_ge 174 o with q | q
    · exfalso
      have e : ox_k o = 99 := by
        have hb : Nat.beq o 174 = false := by
          cases e : Nat.beq o 174 with
          | false => rfl
          | true => exact absurd (Nat.eq_of_beq_eq_true e) (by omega)
        simp only [ox_k, ox_blt (show 174 ≤ o by omega), hb, cond_false]
      rw [e] at h
      cases h
    · omega
  subst h2
  exact ⟨rfl, fun {L} => rfl⟩
theorem ox_notA {ad : Nat → Nat} {n : Nat} (hap : ox_ap ad) (h : ad 174 < n) : ¬ ox_A ad n (ad 174) := by
  rintro (⟨o, ho, e⟩ | q)
  · exact hap.2 o ho e.symm
  · omega
theorem ox_updL {f : Nat → Int32} {k : Nat} {x : Int64} (h : x.toInt32.toInt64 = x) : (fun i => (upd f k x.toInt32 i).toInt64) = vp_updL (fun i => (f i).toInt64) k x := by
  funext j
  simp only [upd, vp_updL]
  by_cases hj : j = k
  · rw [if_pos hj, if_pos hj, h]
  · rw [if_neg hj, if_neg hj]
end
section
section OX2
variable {p : Program} {l : Launch} {e : Env} {R : Room} {s : State} {m : MethodId} {args : Array Value} {below : List Frame} {meth : Method} {c : Code} {H : Heap} {locs : List Loc} {cells slots : Nat} {Q : State → Prop}
variable {mi : Nat} {D : va_G} {ad : Nat → Nat} {cy : Nat → ClassId} {L : Nat} {xs : Nat → Int32} {pc : Nat} {ls : List (Option Value)} {st : List Value} {σ : ox_S} {lsr : Array Slot} {en : Instr × Nat × Nat × Nat} {q : ox_P}
theorem ox_en10 {o : Nat} (h : ox_k o = 10) : ox_en ad cy σ o = .inl (cy 0, ox_n 0 o, .inl (σ o)) := by simp [ox_en, h]
theorem ox_en11 {o : Nat} (h : ox_k o = 11) : ox_en ad cy σ o = .inl (cy 1, ox_n 0 o, .inl (σ o)) := by simp [ox_en, h]
theorem ox_en12 {o : Nat} (h : ox_k o = 12) : ox_en ad cy σ o = .inl (cy 2, ox_n 0 o, .inr (.inr (.inr (.inr (fun i => some (ad (ox_r o i))))))) := by simp [ox_en, h]
theorem ox_en13 {o : Nat} (h : ox_k o = 13) : ox_en ad cy σ o = .inl (cy 3, ox_n 0 o, .inr (.inl (fun i => (σ o i).toInt64))) := by simp [ox_en, h]
theorem ox_enF {o : Nat} (h : ox_k o < 7) : ox_en ad cy σ o = .inr (ox_k o, ox_fs ad σ o) := by simp [ox_en, h]
theorem ox_fs_get {o k : Nat} (h : k < ox_fn (ox_k o)) : (ox_fs ad σ o)[k]? = some (bif ox_rf (ox_k o) k then .ref (ad (ox_r o k)) else .int (σ o k)) := by simp [ox_fs, h]
theorem ox_fs_set {o k : Nat} {x : Int32} (hr : ox_rf (ox_k o) k = false) : ox_fs ad (ox_up σ o k x) o = (ox_fs ad σ o).set k (.int x) := by
  apply List.ext_getElem?
  intro j
  rw [List.getElem?_set]
  by_cases hj : k = j
  · subst hj
    by_cases h : k < ox_fn (ox_k o)
    · rw [ox_fs_get h, hr, ox_up_eq]; simp [ox_fs, h, upd]
    · simp [ox_fs, h]
  · rw [if_neg hj]
    by_cases h : j < ox_fn (ox_k o)
    · rw [ox_fs_get h, ox_fs_get h, ox_up_eq]
      simp only [upd, if_neg (fun q : j = k => hj q.symm)]
    · simp [ox_fs, h]
theorem ox_fl {j i a b : Nat} (h : ox_FL.any (fun q => q.1 == j && q.2.1 == i && q.2.2.1 == a && q.2.2.2.1 == b) = true) : Cond.fieldLink (ox_R j) i (ox_T a b).1 (ox_T a b).2.1 (ox_T a b).2.2.1 ∈ ox_gw ∧ a < 7 ∧ b < ox_fn a := by
  obtain ⟨q, hq, h⟩ := List.any_eq_true.mp h
  simp only [Bool.and_eq_true, beq_iff_eq] at h
  obtain ⟨⟨⟨rfl, rfl⟩, rfl⟩, rfl⟩ := h
  obtain ⟨h1, h2, h3⟩ := ox_FLok q hq
  exact ⟨ox_mem _ h1 rfl, h2, h3⟩
theorem ox_cl2 {j i a : Nat} (h : ox_CL.any (fun q => q.1 == j && q.2.1 == i && q.2.2.1 == a) = true) : Cond.constantLong (ox_R j) i (Int64.ofNat a) ∈ ox_gw := by
  obtain ⟨q, hq, h⟩ := List.any_eq_true.mp h
  simp only [Bool.and_eq_true, beq_iff_eq] at h
  obtain ⟨⟨rfl, rfl⟩, rfl⟩ := h
  exact ox_mem _ (ox_CLok q hq) rfl
theorem ox_MMok : ∀ q ∈ ox_MM, lw_tbl[q.2.2.2.2]? = some (.methodLink (ox_R q.1) q.2.1 Lib.Math.max.name) := by decide +kernel
set_option maxRecDepth 100000 in
theorem ox_mm1 : Cond.static Lib.Math.max.name ∈ ox_gw := ox_mem 629 (by decide +kernel) rfl
theorem ox_mm2 : Cond.initialized "java/lang/Math" ∈ ox_gw := ox_mem 53 (by decide +kernel) rfl
set_option maxRecDepth 100000 in
theorem ox_mm3 : Cond.code Lib.Math.max.name Lib.Math.max.code 2 (some .int) ∈ ox_gw := ox_mem 630 (by decide +kernel) rfl
theorem ox_mm {j pc i len b : Nat} (h : ox_lnk j pc (.invokestatic i, len, 901, b) = true) : Cond.methodLink (ox_R j) i Lib.Math.max.name ∈ ox_gw := by
  unfold ox_lnk at h
  dsimp only at h
  rw [Bool.or_eq_true, Bool.or_eq_true] at h
  rcases h with (h | h) | h
  · obtain ⟨q, hq, h⟩ := List.any_eq_true.mp h
    simp only [Bool.and_eq_true, beq_iff_eq] at h
    have := (ox_MLok q hq).2.1
    omega
  · obtain ⟨q, hq, h⟩ := List.any_eq_true.mp h
    simp only [Bool.and_eq_true, beq_iff_eq] at h
    have := (ox_NLok q hq).2.1
    omega
  · rw [Bool.and_eq_true] at h
    obtain ⟨q, hq, h⟩ := List.any_eq_true.mp h.2
    simp only [Bool.and_eq_true, beq_iff_eq] at h
    obtain ⟨rfl, rfl⟩ := h
    exact ox_mem _ (ox_MMok q hq) rfl
set_option maxHeartbeats 4000000 in
set_option maxRecDepth 100000 in
theorem ox_snd1 (hR1 : 1 ≤ R.frames) (hR2 : 21 ≤ R.locals) (hcl : cells ≤ R.cells) (hsl : slots ≤ R.slots) (C : ox_C p s m args meth c mi D ad cy L xs) (hI : ox_I mi pc = some en) (hs : ox_s1 L pc en ls st σ = some q) (hP : va_P D ox_cl (ox_ws ad cy σ) H) (hS : va_S (ox_A ad s.heap.size) s.heap H locs) (hl : ox_L ad lsr (ox_mL mi) ls) (hσ : σ 174 = xs)
    (kk : ox_K p l e R s m args below meth c cells slots Q mi D ad cy xs q) : W p l e R s m args below meth c H locs cells slots Q (F0 m pc lsr (st.map (ox_cv ad))) := by
  obtain ⟨hmi, hx, hb, hml, hown, hts, hr, hlocks, hK, hap, hX, hbl⟩ := C
  obtain ⟨hd, hc⟩ := ox_I1 mi hmi pc en hI
  obtain ⟨ei, len, a, b⟩ := en
  dsimp only at hd
  unfold ox_chk at hc
  rw [Bool.and_eq_true] at hc
  obtain ⟨hc, hn⟩ := hc
  have hlen := hl.1
  cases ei with
  | iconst n =>
    obtain rfl : len = 1 := eq_of_beq hn
    obtain rfl := Option.some.inj hs
    exact lv_iconst hx hb hd rfl (kk _ _ _ hP hS hl hσ)
  | bipush n =>
    obtain rfl : len = 2 := eq_of_beq hn
    obtain rfl := Option.some.inj hs
    exact lv_bipush hx hb hd rfl (kk _ _ _ hP hS hl hσ)
  | sipush n =>
    obtain rfl : len = 3 := eq_of_beq hn
    obtain rfl := Option.some.inj hs
    exact lv_sipush hx hb hd rfl (kk _ _ _ hP hS hl hσ)
  | lconst n =>
    obtain rfl : len = 1 := eq_of_beq hn
    obtain rfl := Option.some.inj hs
    exact lv_lconst hx hb hd rfl (kk _ _ _ hP hS hl hσ)
  | ldc2_w i =>
    obtain rfl : len = 3 := eq_of_beq hn
    obtain rfl := Option.some.inj hs
    exact lv_ldc2 hx hb hown (hts _ (ox_cl2 hc)) hd (kk _ _ _ hP hS hl hσ)
  | iload_n k =>
    obtain rfl : len = 1 := eq_of_beq hn
    obtain ⟨x, hv, rfl⟩ := ox_ldIi hs
    exact lv_iload_n hx hb hd rfl (hl.2.2.2 _ _ hv) (kk _ _ _ hP hS hl hσ)
  | aload_n k =>
    obtain rfl : len = 1 := eq_of_beq hn
    obtain ⟨x, hv, rfl⟩ := ox_ldAi hs
    exact lv_aload_n hx hb hd rfl (hl.2.2.2 _ _ hv) (kk _ _ _ hP hS hl hσ)
  | lload_n k =>
    obtain rfl : len = 1 := eq_of_beq hn
    obtain ⟨x, hv, rfl⟩ := ox_ldLi hs
    exact lv_lload_n hx hb hd rfl (hl.2.2.2 _ _ hv) (kk _ _ _ hP hS hl hσ)
  | iload k =>
    obtain rfl : len = 2 := eq_of_beq hn
    obtain ⟨x, hv, rfl⟩ := ox_ldIi hs
    exact lv_iload hx hb hd (hl.2.2.2 _ _ hv) (kk _ _ _ hP hS hl hσ)
  | aload k =>
    obtain rfl : len = 2 := eq_of_beq hn
    obtain ⟨x, hv, rfl⟩ := ox_ldAi hs
    exact lv_aload hx hb hd (hl.2.2.2 _ _ hv) (kk _ _ _ hP hS hl hσ)
  | istore_n k =>
    obtain rfl : len = 1 := eq_of_beq hn
    obtain ⟨x, r, hst, hs'⟩ := ox_1i hs
    clear hs
    subst hst
    have hs := hs'
    clear hs'
    try dsimp only at hs
    obtain ⟨hi, hnl, rfl⟩ := ox_stoi hs
    exact lv_istore_n hx hb hd rfl hl.has (by rw [← hlen]; exact hi) rfl (fun ls' hl' => kk _ _ _ hP hS (hl.store1 (by rw [← hlen]; exact hi) hnl hl') hσ)
  | istore k =>
    obtain rfl : len = 2 := eq_of_beq hn
    obtain ⟨x, r, hst, hs'⟩ := ox_1i hs
    clear hs
    subst hst
    have hs := hs'
    clear hs'
    try dsimp only at hs
    obtain ⟨hi, hnl, rfl⟩ := ox_stoi hs
    exact lv_istore hx hb hd hl.has (by rw [← hlen]; exact hi) rfl (fun ls' hl' => kk _ _ _ hP hS (hl.store1 (by rw [← hlen]; exact hi) hnl hl') hσ)
  | astore_n k =>
    obtain rfl : len = 1 := eq_of_beq hn
    cases st with
    | nil => cases hs
    | cons v r =>
      cases v with
      | ref x =>
        obtain ⟨hi, hnl, rfl⟩ := ox_stoi hs
        exact lv_astore_n hx hb hd rfl hl.has (by rw [← hlen]; exact hi) rfl (fun ls' hl' => kk _ _ _ hP hS (hl.store1 (by rw [← hlen]; exact hi) hnl hl') hσ)
      | _ => cases hs
  | astore k =>
    obtain rfl : len = 2 := eq_of_beq hn
    cases st with
    | nil => cases hs
    | cons v r =>
      cases v with
      | ref x =>
        obtain ⟨hi, hnl, rfl⟩ := ox_stoi hs
        exact lv_astore hx hb hd hl.has (by rw [← hlen]; exact hi) rfl (fun ls' hl' => kk _ _ _ hP hS (hl.store1 (by rw [← hlen]; exact hi) hnl hl') hσ)
      | _ => cases hs
  | lstore_n k =>
    obtain rfl : len = 1 := eq_of_beq hn
    cases st with
    | nil => cases hs
    | cons v r =>
      cases v with
      | long x =>
        obtain ⟨hi, hnl, rfl⟩ := ox_sto2i hs
        exact lv_lstore_n hx hb hd rfl hl.has (by rw [← hlen]; exact hi) rfl (fun ls' hl' => kk _ _ _ hP hS (hl.store2 (by rw [← hlen]; exact hi) hnl hl') hσ)
      | _ => cases hs
  | iinc i n =>
    obtain rfl : len = 3 := eq_of_beq hn
    unfold ox_s1 at hs
    dsimp only at hs
    split at hs
    · rename_i x hv
      obtain ⟨hi, hnl, rfl⟩ := ox_stoi hs
      obtain ⟨kx, hkx⟩ := List.getElem?_of_mem (ox_lv_mem (ad := ad) (q := (i, .int x)).mpr ⟨.int x, hv, rfl⟩)
      exact lv_iinc hx hb hd hl.has hkx rfl (by rw [← hlen]; exact hi) rfl (fun ls' hl' => kk _ _ _ hP hS (hl.store1 (by rw [← hlen]; exact hi) hnl hl') hσ)
    · cases hs
  | iadd =>
    obtain rfl : len = 1 := eq_of_beq hn
    obtain ⟨x, y, r, hst, hs'⟩ := ox_2i hs
    clear hs
    subst hst
    have hs := hs'
    clear hs'
    try dsimp only at hs
    obtain rfl := Option.some.inj hs
    exact lv_iadd hx hb hd (kk _ _ _ hP hS hl hσ)
  | isub =>
    obtain rfl : len = 1 := eq_of_beq hn
    obtain ⟨x, y, r, hst, hs'⟩ := ox_2i hs
    clear hs
    subst hst
    have hs := hs'
    clear hs'
    try dsimp only at hs
    obtain rfl := Option.some.inj hs
    exact lv_isub hx hb hd (kk _ _ _ hP hS hl hσ)
  | imul =>
    obtain rfl : len = 1 := eq_of_beq hn
    obtain ⟨x, y, r, hst, hs'⟩ := ox_2i hs
    clear hs
    subst hst
    have hs := hs'
    clear hs'
    try dsimp only at hs
    obtain rfl := Option.some.inj hs
    exact lv_imul hx hb hd (kk _ _ _ hP hS hl hσ)
  | iand =>
    obtain rfl : len = 1 := eq_of_beq hn
    obtain ⟨x, y, r, hst, hs'⟩ := ox_2i hs
    clear hs
    subst hst
    have hs := hs'
    clear hs'
    try dsimp only at hs
    obtain rfl := Option.some.inj hs
    exact lv_iand hx hb hd (kk _ _ _ hP hS hl hσ)
  | ior =>
    obtain rfl : len = 1 := eq_of_beq hn
    obtain ⟨x, y, r, hst, hs'⟩ := ox_2i hs
    clear hs
    subst hst
    have hs := hs'
    clear hs'
    try dsimp only at hs
    obtain rfl := Option.some.inj hs
    exact lv_ior hx hb hd (kk _ _ _ hP hS hl hσ)
  | ixor =>
    obtain rfl : len = 1 := eq_of_beq hn
    obtain ⟨x, y, r, hst, hs'⟩ := ox_2i hs
    clear hs
    subst hst
    have hs := hs'
    clear hs'
    try dsimp only at hs
    obtain rfl := Option.some.inj hs
    exact lv_ixor hx hb hd (kk _ _ _ hP hS hl hσ)
  | ishl =>
    obtain rfl : len = 1 := eq_of_beq hn
    obtain ⟨x, y, r, hst, hs'⟩ := ox_2i hs
    clear hs
    subst hst
    have hs := hs'
    clear hs'
    try dsimp only at hs
    obtain rfl := Option.some.inj hs
    exact lv_ishl hx hb hd (kk _ _ _ hP hS hl hσ)
  | idiv =>
    obtain rfl : len = 1 := eq_of_beq hn
    obtain ⟨x, y, r, hst, hs'⟩ := ox_2i hs
    clear hs
    subst hst
    have hs := hs'
    clear hs'
    try dsimp only at hs
    by_cases hy : y = 0
    · rw [if_pos hy] at hs; cases hs
    · rw [if_neg hy] at hs
      obtain rfl := Option.some.inj hs
      exact lv_idiv hx hb hd hy (kk _ _ _ hP hS hl hσ)
  | irem =>
    obtain rfl : len = 1 := eq_of_beq hn
    obtain ⟨x, y, r, hst, hs'⟩ := ox_2i hs
    clear hs
    subst hst
    have hs := hs'
    clear hs'
    try dsimp only at hs
    by_cases hy : y = 0
    · rw [if_pos hy] at hs; cases hs
    · rw [if_neg hy] at hs
      obtain rfl := Option.some.inj hs
      exact lv_irem hx hb hd hy (kk _ _ _ hP hS hl hσ)
  | i2l =>
    obtain rfl : len = 1 := eq_of_beq hn
    obtain ⟨x, r, hst, hs'⟩ := ox_1i hs
    clear hs
    subst hst
    have hs := hs'
    clear hs'
    try dsimp only at hs
    obtain rfl := Option.some.inj hs
    exact lv_i2l hx hb hd rfl (kk _ _ _ hP hS hl hσ)
  | l2i =>
    obtain rfl : len = 1 := eq_of_beq hn
    cases st with
    | nil => cases hs
    | cons v r =>
      cases v with
      | long x =>
        obtain rfl := Option.some.inj hs
        exact lv_l2i hx hb hd rfl (kk _ _ _ hP hS hl hσ)
      | _ => cases hs
  | lmul =>
    obtain rfl : len = 1 := eq_of_beq hn
    unfold ox_s1 at hs
    dsimp only at hs
    split at hs
    · obtain rfl := Option.some.inj hs
      exact lv_lmul hx hb hd (kk _ _ _ hP hS hl hσ)
    · cases hs
  | lcmp =>
    obtain rfl : len = 1 := eq_of_beq hn
    unfold ox_s1 at hs
    dsimp only at hs
    split at hs
    · obtain rfl := Option.some.inj hs
      exact W.lcmp hx hb hd (kk _ _ _ hP hS hl hσ)
    · cases hs
  | dup =>
    obtain rfl : len = 1 := eq_of_beq hn
    cases st with
    | nil => cases hs
    | cons v r =>
      cases v with
      | int x => exact (by obtain rfl := Option.some.inj hs; exact lv_dup hx hb hd rfl (kk _ _ _ hP hS hl hσ))
      | ref x => exact (by obtain rfl := Option.some.inj hs; exact lv_dup hx hb hd rfl (kk _ _ _ hP hS hl hσ))
      | _ => cases hs
  | pop =>
    obtain rfl : len = 1 := eq_of_beq hn
    cases st with
    | nil => cases hs
    | cons v r =>
      cases v with
      | int x => exact (by obtain rfl := Option.some.inj hs; exact lv_pop hx hb hd rfl (kk _ _ _ hP hS hl hσ))
      | ref x => exact (by obtain rfl := Option.some.inj hs; exact lv_pop hx hb hd rfl (kk _ _ _ hP hS hl hσ))
      | _ => cases hs
  | dup2 =>
    obtain rfl : len = 1 := eq_of_beq hn
    cases st with
    | nil => cases hs
    | cons v r =>
      cases r with
      | nil => cases hs
      | cons u r =>
        cases v <;> first | (cases hs; done) | (cases u <;> first | (cases hs; done) | (obtain rfl := Option.some.inj hs; exact lv_dup2_11 hx hb hd rfl rfl (kk _ _ _ hP hS hl hσ)))
  | getfield i =>
    obtain rfl : len = 3 := eq_of_beq hn
    cases st with
    | nil => cases hs
    | cons v r =>
      cases v with
      | ref x =>
        unfold ox_s1 at hs
        dsimp only at hs
        obtain ⟨hfl, ha7, hbn⟩ := ox_fl hc
        cases hg : (Nat.beq (ox_k x) a && Nat.blt x 174) with
        | false => rw [hg] at hs; cases hs
        | true =>
          rw [hg] at hs
          obtain rfl := Option.some.inj hs
          rw [Bool.and_eq_true] at hg
          obtain rfl : ox_k x = a := Nat.eq_of_beq_eq_true hg.1
          have hx1 : x < 174 := Nat.le_of_ble_eq_true hg.2
          refine va_get (D := D) (ci := ox_k x) (C := ox_R (ox_k x)) (T := ox_T (ox_k x)) (N := ox_fn (ox_k x)) hx hb hts (ox_inT _ ha7) hown hK hP x (by rw [ox_ws_get hx1, ox_enF ha7]) (ox_clT _ ha7) b hbn (hts _ hfl) (fun _ h9 => h9) (ox_fs_get hbn) hd ?_
          have h9 := kk _ _ _ hP hS hl hσ
          cases hrf : ox_rf (ox_k x) b with
          | true => rw [hrf] at h9; exact h9
          | false => rw [hrf] at h9; exact h9
      | _ => cases hs
  | putfield i =>
    obtain rfl : len = 3 := eq_of_beq hn
    unfold ox_s1 at hs
    dsimp only at hs
    split at hs
    · rename_i x o r
      obtain ⟨hfl, ha7, hbn⟩ := ox_fl hc
      cases hg : (Nat.beq (ox_k o) a && Nat.blt o 174 && !(ox_rf a b)) with
      | false => rw [hg] at hs; cases hs
      | true =>
        rw [hg] at hs
        obtain rfl := Option.some.inj hs
        rw [Bool.and_eq_true, Bool.and_eq_true] at hg
        obtain rfl : ox_k o = a := Nat.eq_of_beq_eq_true hg.1.1
        have hx1 : o < 174 := Nat.le_of_ble_eq_true hg.1.2
        have hrf : ox_rf (ox_k o) b = false := by have h := hg.2; simpa using h
        obtain ⟨hd1, hd2⟩ := ox_fI _ ha7 _ hbn hrf
        refine va_put (D := D) (ci := ox_k o) (v := .int x) (ty := .int) (C := ox_R (ox_k o)) (T := ox_T (ox_k o)) (N := ox_fn (ox_k o)) hx hb hts (ox_inT _ ha7) (ox_y (ox_k o)) (ox_yT _ ha7) (ox_nT _ ha7) hown hK hP (ox_wsD hap) hS o (by rw [ox_ws_get hx1, ox_enF ha7]) (ox_clT _ ha7) b hbn (hts _ hfl) (fun _ h9 => h9) hd2 hd1 rfl rfl (by simpa [ox_fs] using hbn) hd (fun H1 locs1 hP1 hD1 hS1 => ?_)
        rw [ox_ws_set (σ' := ox_up σ o b x) (by rw [ox_enF ha7, ox_fs_set hrf]) (fun o' h => ox_up_ne h)] at hP1
        exact kk _ _ _ hP1 hS1 hl (by rw [← hσ]; exact ox_up_ne (Nat.ne_of_gt hx1))
    · cases hs
  | iaload =>
    obtain rfl : len = 1 := eq_of_beq hn
    obtain ⟨o, i, r, hst, hs'⟩ := ox_ai hs
    clear hs
    subst hst
    have hs := hs'
    clear hs'
    try dsimp only at hs
    by_cases hg : ((ox_k o = 10 ∧ o < 174) ∨ ox_k o = 14) ∧ ¬ (i < 0 ∨ ox_n L o ≤ i.toNatClampNeg)
    · rw [if_pos hg] at hs
      obtain rfl := Option.some.inj hs
      obtain ⟨hk | hk, hin⟩ := hg
      · obtain ⟨hk, ho⟩ := hk
        rw [ox_nL ho] at hin
        exact va_iald hx hb hK hP o 0 (by rw [ox_ws_get ho, ox_en10 hk]) rfl hin hd (kk _ _ _ hP hS hl hσ)
      · obtain ⟨ho, hn0⟩ := ox_k14 hk
        subst ho
        rw [hn0] at hin
        refine va_sld hx hb hX hbl (ox_notA hap hbl) hS hin hd ?_
        rw [← hσ]
        exact kk _ _ _ hP hS hl hσ
    · rw [if_neg hg] at hs; cases hs
  | baload =>
    obtain rfl : len = 1 := eq_of_beq hn
    obtain ⟨o, i, r, hst, hs'⟩ := ox_ai hs
    clear hs
    subst hst
    have hs := hs'
    clear hs'
    try dsimp only at hs
    by_cases hg : (ox_k o = 11 ∧ o < 174) ∧ ¬ (i < 0 ∨ ox_n L o ≤ i.toNatClampNeg)
    · rw [if_pos hg] at hs
      obtain rfl := Option.some.inj hs
      obtain ⟨⟨hk, ho⟩, hin⟩ := hg
      rw [ox_nL ho] at hin
      exact va_zald hx hb hK hP o 1 (by rw [ox_ws_get ho, ox_en11 hk]) rfl hin hd (kk _ _ _ hP hS hl hσ)
    · rw [if_neg hg] at hs; cases hs
  | aaload =>
    obtain rfl : len = 1 := eq_of_beq hn
    obtain ⟨o, i, r, hst, hs'⟩ := ox_ai hs
    clear hs
    subst hst
    have hs := hs'
    clear hs'
    try dsimp only at hs
    by_cases hg : (ox_k o = 12 ∧ o < 174) ∧ ¬ (i < 0 ∨ ox_n L o ≤ i.toNatClampNeg)
    · rw [if_pos hg] at hs
      obtain rfl := Option.some.inj hs
      obtain ⟨⟨hk, ho⟩, hin⟩ := hg
      rw [ox_nL ho] at hin
      exact ox_aald (f := fun i => some (ad (ox_r o i))) hx hb hK hP o 2 (by rw [ox_ws_get ho, ox_en12 hk]) rfl hin hd (kk _ _ _ hP hS hl hσ)
    · rw [if_neg hg] at hs; cases hs
  | laload =>
    obtain rfl : len = 1 := eq_of_beq hn
    obtain ⟨o, i, r, hst, hs'⟩ := ox_ai hs
    clear hs
    subst hst
    have hs := hs'
    clear hs'
    try dsimp only at hs
    by_cases hg : (ox_k o = 13 ∧ o < 174) ∧ ¬ (i < 0 ∨ ox_n L o ≤ i.toNatClampNeg)
    · rw [if_pos hg] at hs
      obtain rfl := Option.some.inj hs
      obtain ⟨⟨hk, ho⟩, hin⟩ := hg
      rw [ox_nL ho] at hin
      exact va_lald (f := fun i => (σ o i).toInt64) hx hb hK hP o 3 (by rw [ox_ws_get ho, ox_en13 hk]) rfl hin hd (kk _ _ _ hP hS hl hσ)
    · rw [if_neg hg] at hs; cases hs
  | iastore =>
    obtain rfl : len = 1 := eq_of_beq hn
    obtain ⟨o, i, x, r, hst, hs'⟩ := ox_a3i hs
    clear hs
    subst hst
    have hs := hs'
    clear hs'
    try dsimp only at hs
    by_cases hg : (ox_k o = 10 ∧ o < 174) ∧ ¬ (i < 0 ∨ ox_n L o ≤ i.toNatClampNeg)
    · rw [if_pos hg] at hs
      obtain rfl := Option.some.inj hs
      obtain ⟨⟨hk, ho⟩, hin⟩ := hg
      rw [ox_nL ho] at hin
      refine va_iast hx hb hK hP (ox_wsD hap) hS o 0 (by rw [ox_ws_get ho, ox_en10 hk]) rfl hin hd (fun H1 locs1 hP1 hD1 hS1 => ?_)
      rw [ox_ws_set (σ' := ox_up σ o i.toNatClampNeg x) (by rw [ox_en10 hk, ox_up_eq]) (fun o' h => ox_up_ne h)] at hP1
      exact kk _ _ _ hP1 hS1 hl (by rw [← hσ]; exact ox_up_ne (Nat.ne_of_gt ho))
    · rw [if_neg hg] at hs; cases hs
  | bastore =>
    obtain rfl : len = 1 := eq_of_beq hn
    obtain ⟨o, i, x, r, hst, hs'⟩ := ox_a3i hs
    clear hs
    subst hst
    have hs := hs'
    clear hs'
    try dsimp only at hs
    by_cases hg : (ox_k o = 11 ∧ o < 174) ∧ ¬ (i < 0 ∨ ox_n L o ≤ i.toNatClampNeg)
    · rw [if_pos hg] at hs
      obtain rfl := Option.some.inj hs
      obtain ⟨⟨hk, ho⟩, hin⟩ := hg
      rw [ox_nL ho] at hin
      refine va_zast hx hb hK hP (ox_wsD hap) hS o 1 (by rw [ox_ws_get ho, ox_en11 hk]) rfl hin hd (fun H1 locs1 hP1 hD1 hS1 => ?_)
      rw [ox_ws_set (σ' := ox_up σ o i.toNatClampNeg (vp_nar .boolean x)) (by rw [ox_en11 hk, ox_up_eq]) (fun o' h => ox_up_ne h)] at hP1
      exact kk _ _ _ hP1 hS1 hl (by rw [← hσ]; exact ox_up_ne (Nat.ne_of_gt ho))
    · rw [if_neg hg] at hs; cases hs
  | lastore =>
    obtain rfl : len = 1 := eq_of_beq hn
    unfold ox_s1 at hs
    dsimp only at hs
    split at hs
    · rename_i x i o r
      by_cases hg : ((ox_k o = 13 ∧ o < 174) ∧ x.toInt32.toInt64 = x) ∧ ¬ (i < 0 ∨ ox_n L o ≤ i.toNatClampNeg)
      · rw [if_pos hg] at hs
        obtain rfl := Option.some.inj hs
        obtain ⟨⟨⟨hk, ho⟩, hxx⟩, hin⟩ := hg
        rw [ox_nL ho] at hin
        refine va_last hx hb hK hP (ox_wsD hap) hS o 3 (by rw [ox_ws_get ho, ox_en13 hk]) rfl hin hd (fun H1 locs1 hP1 hD1 hS1 => ?_)
        rw [ox_ws_set (σ' := ox_up σ o i.toNatClampNeg x.toInt32) (by rw [ox_en13 hk, ox_up_eq, ox_updL hxx]) (fun o' h => ox_up_ne h)] at hP1
        exact kk _ _ _ hP1 hS1 hl (by rw [← hσ]; exact ox_up_ne (Nat.ne_of_gt ho))
      · rw [if_neg hg] at hs; cases hs
    · cases hs
  | arraylength =>
    obtain rfl : len = 1 := eq_of_beq hn
    cases st with
    | nil => cases hs
    | cons v r =>
      cases v with
      | ref x =>
        unfold ox_s1 at hs
        dsimp only at hs
        cases hg : Nat.beq (ox_k x) 14 with
        | false => rw [hg] at hs; cases hs
        | true =>
          rw [hg] at hs
          obtain rfl := Option.some.inj hs
          obtain ⟨ho, hn0⟩ := ox_k14 (Nat.eq_of_beq_eq_true hg)
          subst ho
          exact va_slen hx hb hX hbl (ox_notA hap hbl) hS hd (kk _ _ _ hP hS hl hσ)
      | _ => cases hs
  | if_icmp cd off =>
    obtain rfl : len = 3 := eq_of_beq hn
    cases cd with
    | eq =>
      obtain ⟨x, y, r, hst, hs'⟩ := ox_2i hs
      clear hs
      subst hst
      have hs := hs'
      clear hs'
      try dsimp only at hs
      obtain rfl := Option.some.inj hs
      refine lv_icmp_eq (tgt := a) hx hb hd (of_decide_eq_true hc) (fun h => ?_) (fun h => ?_)
      · have h9 := kk _ _ _ hP hS hl hσ
        dsimp only at h9
        rw [if_pos h] at h9
        exact h9
      · have h9 := kk _ _ _ hP hS hl hσ
        dsimp only at h9
        rw [if_neg h] at h9
        exact h9
    | ne =>
      obtain ⟨x, y, r, hst, hs'⟩ := ox_2i hs
      clear hs
      subst hst
      have hs := hs'
      clear hs'
      try dsimp only at hs
      obtain rfl := Option.some.inj hs
      refine lv_icmp_ne (tgt := a) hx hb hd (of_decide_eq_true hc) (fun h => ?_) (fun h => ?_)
      · have h9 := kk _ _ _ hP hS hl hσ
        dsimp only at h9
        rw [if_neg h] at h9
        exact h9
      · have h9 := kk _ _ _ hP hS hl hσ
        dsimp only at h9
        rw [if_pos h] at h9
        exact h9
    | lt =>
      obtain ⟨x, y, r, hst, hs'⟩ := ox_2i hs
      clear hs
      subst hst
      have hs := hs'
      clear hs'
      try dsimp only at hs
      obtain rfl := Option.some.inj hs
      refine lv_icmp_lt (tgt := a) hx hb hd (of_decide_eq_true hc) (fun h => ?_) (fun h => ?_)
      · have h9 := kk _ _ _ hP hS hl hσ
        dsimp only at h9
        rw [if_pos h] at h9
        exact h9
      · have h9 := kk _ _ _ hP hS hl hσ
        dsimp only at h9
        rw [if_neg h] at h9
        exact h9
    | ge =>
      obtain ⟨x, y, r, hst, hs'⟩ := ox_2i hs
      clear hs
      subst hst
      have hs := hs'
      clear hs'
      try dsimp only at hs
      obtain rfl := Option.some.inj hs
      refine lv_icmp_ge (tgt := a) hx hb hd (of_decide_eq_true hc) (fun h => ?_) (fun h => ?_)
      · have h9 := kk _ _ _ hP hS hl hσ
        dsimp only at h9
        rw [if_pos h] at h9
        exact h9
      · have h9 := kk _ _ _ hP hS hl hσ
        dsimp only at h9
        rw [if_neg h] at h9
        exact h9
    | gt =>
      obtain ⟨x, y, r, hst, hs'⟩ := ox_2i hs
      clear hs
      subst hst
      have hs := hs'
      clear hs'
      try dsimp only at hs
      obtain rfl := Option.some.inj hs
      refine lv_icmp_gt (tgt := a) hx hb hd (of_decide_eq_true hc) (fun h => ?_) (fun h => ?_)
      · have h9 := kk _ _ _ hP hS hl hσ
        dsimp only at h9
        rw [if_pos h] at h9
        exact h9
      · have h9 := kk _ _ _ hP hS hl hσ
        dsimp only at h9
        rw [if_neg h] at h9
        exact h9
    | le =>
      obtain ⟨x, y, r, hst, hs'⟩ := ox_2i hs
      clear hs
      subst hst
      have hs := hs'
      clear hs'
      try dsimp only at hs
      obtain rfl := Option.some.inj hs
      refine lv_icmp_le (tgt := a) hx hb hd (of_decide_eq_true hc) (fun h => ?_) (fun h => ?_)
      · have h9 := kk _ _ _ hP hS hl hσ
        dsimp only at h9
        rw [if_pos h] at h9
        exact h9
      · have h9 := kk _ _ _ hP hS hl hσ
        dsimp only at h9
        rw [if_neg h] at h9
        exact h9
  | ifCond cd off =>
    obtain rfl : len = 3 := eq_of_beq hn
    cases cd with
    | eq =>
      obtain ⟨x, r, hst, hs'⟩ := ox_1i hs
      clear hs
      subst hst
      have hs := hs'
      clear hs'
      try dsimp only at hs
      obtain rfl := Option.some.inj hs
      refine lv_if_eq (tgt := a) hx hb hd (of_decide_eq_true hc) (fun h => ?_) (fun h => ?_)
      · have h9 := kk _ _ _ hP hS hl hσ
        dsimp only at h9
        rw [if_pos h] at h9
        exact h9
      · have h9 := kk _ _ _ hP hS hl hσ
        dsimp only at h9
        rw [if_neg h] at h9
        exact h9
    | ne =>
      obtain ⟨x, r, hst, hs'⟩ := ox_1i hs
      clear hs
      subst hst
      have hs := hs'
      clear hs'
      try dsimp only at hs
      obtain rfl := Option.some.inj hs
      refine lv_if_ne (tgt := a) hx hb hd (of_decide_eq_true hc) (fun h => ?_) (fun h => ?_)
      · have h9 := kk _ _ _ hP hS hl hσ
        dsimp only at h9
        rw [if_neg h] at h9
        exact h9
      · have h9 := kk _ _ _ hP hS hl hσ
        dsimp only at h9
        rw [if_pos h] at h9
        exact h9
    | lt =>
      obtain ⟨x, r, hst, hs'⟩ := ox_1i hs
      clear hs
      subst hst
      have hs := hs'
      clear hs'
      try dsimp only at hs
      obtain rfl := Option.some.inj hs
      refine lv_if_lt (tgt := a) hx hb hd (of_decide_eq_true hc) (fun h => ?_) (fun h => ?_)
      · have h9 := kk _ _ _ hP hS hl hσ
        dsimp only at h9
        rw [if_pos h] at h9
        exact h9
      · have h9 := kk _ _ _ hP hS hl hσ
        dsimp only at h9
        rw [if_neg h] at h9
        exact h9
    | ge =>
      obtain ⟨x, r, hst, hs'⟩ := ox_1i hs
      clear hs
      subst hst
      have hs := hs'
      clear hs'
      try dsimp only at hs
      obtain rfl := Option.some.inj hs
      refine lv_if_ge (tgt := a) hx hb hd (of_decide_eq_true hc) (fun h => ?_) (fun h => ?_)
      · have h9 := kk _ _ _ hP hS hl hσ
        dsimp only at h9
        rw [if_pos h] at h9
        exact h9
      · have h9 := kk _ _ _ hP hS hl hσ
        dsimp only at h9
        rw [if_neg h] at h9
        exact h9
    | gt =>
      obtain ⟨x, r, hst, hs'⟩ := ox_1i hs
      clear hs
      subst hst
      have hs := hs'
      clear hs'
      try dsimp only at hs
      obtain rfl := Option.some.inj hs
      refine lv_if_gt (tgt := a) hx hb hd (of_decide_eq_true hc) (fun h => ?_) (fun h => ?_)
      · have h9 := kk _ _ _ hP hS hl hσ
        dsimp only at h9
        rw [if_pos h] at h9
        exact h9
      · have h9 := kk _ _ _ hP hS hl hσ
        dsimp only at h9
        rw [if_neg h] at h9
        exact h9
    | le =>
      obtain ⟨x, r, hst, hs'⟩ := ox_1i hs
      clear hs
      subst hst
      have hs := hs'
      clear hs'
      try dsimp only at hs
      obtain rfl := Option.some.inj hs
      refine lv_if_le (tgt := a) hx hb hd (of_decide_eq_true hc) (fun h => ?_) (fun h => ?_)
      · have h9 := kk _ _ _ hP hS hl hσ
        dsimp only at h9
        rw [if_pos h] at h9
        exact h9
      · have h9 := kk _ _ _ hP hS hl hσ
        dsimp only at h9
        rw [if_neg h] at h9
        exact h9
  | goto off =>
    obtain rfl : len = 3 := eq_of_beq hn
    obtain rfl := Option.some.inj hs
    exact lv_goto (tgt := a) hx hb hd (of_decide_eq_true hc) (kk _ _ _ hP hS hl hσ)
  | tableswitch dflt lo hi offs =>
    obtain ⟨x, r, hst, hs'⟩ := ox_1i hs
    clear hs
    subst hst
    have hs := hs'
    clear hs'
    try dsimp only at hs
    by_cases hq : x.toInt < lo ∨ hi < x.toInt
    · rw [if_pos hq] at hs
      by_cases h0 : 0 ≤ (pc : Int) + dflt
      · rw [if_pos h0] at hs
        obtain rfl := Option.some.inj hs
        exact lv_tableOut hx hb hd hq (by omega) (kk _ _ _ hP hS hl hσ)
      · rw [if_neg h0] at hs; cases hs
    · rw [if_neg hq] at hs
      cases ho : offs[(x.toInt - lo).toNat]? with
      | none => rw [ho] at hs; cases hs
      | some off =>
        rw [ho] at hs
        dsimp only at hs
        by_cases h0 : 0 ≤ (pc : Int) + off
        · rw [if_pos h0] at hs
          obtain rfl := Option.some.inj hs
          exact lv_tableIn hx hb hd (fun h => hq (Or.inl h)) (fun h => hq (Or.inr h)) ho (by omega) (kk _ _ _ hP hS hl hσ)
        · rw [if_neg h0] at hs; cases hs
  | invokestatic i =>
    cases h9 : Nat.beq a 901 with
    | false => unfold ox_s1 at hs; dsimp only at hs; rw [h9] at hs; cases hs
    | true =>
      unfold ox_s1 at hs
      dsimp only at hs
      rw [h9] at hs
      obtain rfl : a = 901 := Nat.eq_of_beq_eq_true h9
      obtain ⟨x, y, r, hst, hs'⟩ := ox_2i hs
      subst hst
      cases hg : Nat.ble ((r.map Value.category).sum) 8 with
      | false => rw [hg] at hs'; cases hs'
      | true =>
        rw [hg] at hs'
        obtain rfl := Option.some.inj hs'
        obtain rfl : len = 3 := eq_of_beq hn
        have hg := Nat.le_of_ble_eq_true hg
        have hcat : ((r.map (ox_cv ad)).map fun v => v.category).sum = (r.map Value.category).sum := by rw [List.map_map]; congr 1; exact List.map_congr_left (fun v _ => ox_cv_cat ad v)
        refine va_mmax hx hb (by rw [hml, hl.2.1]) hown (hts _ (ox_mm hc)) (hts _ ox_mm1) (hts _ ox_mm2) (hts _ ox_mm3) hR1 (by rw [hcat]; omega) hcl hsl hd ?_
        exact kk _ _ _ hP hS hl hσ
  | _ => cases hs
end OX2
end
section
/-- a thrown object of kind x -/
def ox_Xc (x : Nat) (a : Addr) (t : State) : Prop := ∃ cell : Cell, t.heap[a]? = some cell ∧ (∀ k, cell.vm ≠ .statics k) ∧ t.vm.findClass (ox_ex x) = some cell.cls
/-- what an invocation leaves, whatever its end -/
def ox_Q (D : va_G) (ad : Nat → Nat) (cy : Nat → ClassId) (xs : Nat → Int32) (k : Nat) (out : ox_O × ox_S × Nat × Nat) (s : State) (o : Outcome) (t : State) : Prop :=
  s.WarmedH t.vm ∧ (∃ Lc, s.sameButNew ({ t with vm := s.vm } : State) Lc out.2.2.1 out.2.2.2 ∧ ∀ q ∈ Lc, ox_A ad s.heap.size q.base) ∧ va_P D ox_cl (ox_ws ad cy out.2.1) t.heap ∧ out.2.1 174 = xs ∧ va_F (ox_A ad s.heap.size) s t ∧ out.2.2.1 ≤ ox_rc k ∧ out.2.2.2 ≤ ox_rs k ∧
  match out.1 with
  | .inl v => o = .returned (v.map (ox_cv ad))
  | .inr x => ∃ a, o = .threw a ∧ ox_Xc x a t
def ox_E (below : List Frame) (D : va_G) (ad : Nat → Nat) (cy : Nat → ClassId) (xs : Nat → Int32) (k : Nat) (out : ox_O × ox_S × Nat × Nat) (s : State) : State → Prop := fun t => ∃ o, t.status = .running ∧ Ended t below o ∧ ox_Q D ad cy xs k out s o t
def ox_Pc (D : va_G) (ad : Nat → Nat) (cy : Nat → ClassId) (L : Nat) (xs : Nat → Int32) (Zp : State → Prop) (as : List Value) (σ : ox_S) (a : Array Value) (U : State) : Prop :=
  a = (as.map (ox_cv ad)).toArray ∧ va_P D ox_cl (ox_ws ad cy σ) U.heap ∧ va_K D ox_cl (ox_tys cy) U ∧ va_X (ad 174) L xs U U.heap ∧ ad 174 < U.heap.size ∧ Zp U
/-- the contract of method i at level k, for these arguments and ints -/
def ox_M (l : Launch) (D : va_G) (ad : Nat → Nat) (cy : Nat → ClassId) (L : Nat) (xs : Nat → Int32) (Zp : State → Prop) (k i : Nat) (as : List Value) (σ : ox_S) (out : ox_O × ox_S × Nat × Nat) : Prop :=
  MetFree l (ox_nm i) (headSpec ox_gw (ox_rm k)) (ox_Pc D ad cy L xs Zp as σ) (fun _ _ _ _ _ => True) (fun _ s o t => ox_Q D ad cy xs k out s o t)
theorem ox_cwG {i : Nat} (h : i < 114) : ox_cw i ∈ ox_gw := List.mem_filter.mpr ⟨ox_w1 i h, ox_w1g i h⟩
/-- a method by its code word -/
theorem ox_code {i : Nat} {a : Array Value} {U : State} (h : (ox_cw i).before a U = true) : ∃ mk methY cY, U.methodNamed? (ox_nm i) = some mk ∧ U.vm.method? mk = some methY ∧ methY.code = some cY ∧ cY.code = ox_b i ∧ cY.maxLocals = ox_mL i ∧ methY.sig.returnType = ox_rt i ∧ methY.locks = false ∧ parseMethodDescriptor (ox_nm i).desc = some methY.sig ∧ cY.exceptionTable.toList.map (fun x => (x.startPc, x.endPc, x.handlerPc, x.catchType)) = ox_hh i := by
  unfold ox_cw at h
  split at h
  · rename_i hh
    obtain ⟨mk, hnamed⟩ := Cond.code_named h
    obtain ⟨methY, cY, h1, h2, h3, h4, h5, h6, h7, h8⟩ := Cond.code_spec hnamed h
    refine ⟨mk, methY, cY, hnamed, h1, h2, h3, h4, h5, h6, h8, ?_⟩
    rw [hh]
    have h9 : cY.exceptionTable = #[] := by simpa using h7
    rw [h9]
    rfl
  · obtain ⟨m9, methY, cY, hn9, h1, h2, h3, h4, h5, h6, h7, h8⟩ := Cond.codeWith_spec h
    refine ⟨m9, methY, cY, hn9, h1, h2, h3, h4, h6, h7, ?_, ?_⟩
    · exact h8
    · exact h5
section OX3
variable {p : Program} {l : Launch} {e : Env} {R : Room} {s : State} {m : MethodId} {args : Array Value} {below : List Frame} {meth : Method} {c : Code} {H : Heap} {locs : List Loc} {cells slots : Nat}
variable {D : va_G} {ad : Nat → Nat} {cy : Nat → ClassId} {L : Nat} {xs : Nat → Int32} {Zp : State → Prop} {U : State} {g : JFrame} {i k : Nat} {as : List Value} {σ : ox_S} {out : ox_O × ox_S × Nat × Nat} {a : Array Value} {mk : MethodId} {ig : Instr} {len : Nat}
theorem ox_call1 (X : Stand p l e (ox_rm (k + 1)) s m args below meth c U locs cells slots) (hg : g.method = m) (hsize : g.locals.size = c.maxLocals) (hdg : decode c.code g.pc = .ok (ig, len))
    (hW : 2 * g.monitorRoom + (g.stack.map fun v => v.category).sum ≤ 8) (hn : U.methodNamed? (ox_nm i) = some mk) (hi : i < 114) (hM : ox_M l D ad cy L xs Zp k i as σ out)
    (hc1 : cells + ox_rc k ≤ ox_rc (k + 1)) (hc2 : slots + ox_rs k ≤ ox_rs (k + 1)) (hws : ∀ w ∈ ox_gw, ∀ (a' : Array Value) (V : State), s.WarmedH V.vm → w.before a' V = true) (hP : ox_Pc D ad cy L xs Zp as σ a (U.calling g mk a)) :
    ∃ o s₂, Steps p.tables e below (doInvoke e (U.setTop g) [] mk a).1 s₂ ∧ Ended s₂ (U.setTop g).frames o ∧ ox_Q D ad cy xs k out (U.calling g mk a) o s₂ := by
  have hwU : ∀ w ∈ ox_gw, w.before a U = true := fun w hw => hws w hw a U X.warmed
  obtain ⟨mk', methY, cY, hn', hmY, hcY, -, hlY, -, -, -, -⟩ := ox_code (hwU _ (ox_cwG hi))
  cases hn.symm.trans hn'
  obtain ⟨kY, hkY, -⟩ := className_of_methodNamed hn
  obtain ⟨hcls, how, hml9, -⟩ := ox_w4 i (by omega)
  have hini : (Cond.initialized (ox_nm i).cls).before a U = true := by
    rw [hcls]
    exact hwU _ (ox_mem _ (ox_w2 _ how) rfl)
  have hinitY : kY.init = .initialized := Cond.initialized_spec (findClass_of_methodNamed hn) hkY hini
  have h : At U g.method c below := by rw [hg]; exact X.here
  have h1 : (headSpec ox_gw (ox_rm k)).pre.before a U = true := atoms_intro hwU
  have happ : (headSpec ox_gw (ox_rm k)).appliesLoose (ox_nm i) e.platform (U.calling g mk a) = true :=
    Spec.appliesLoose_calling (g := g) h hdg hn hkY hinitY
      (X.room_calling (g := g) (R' := (headSpec ox_gw (ox_rm k)).room) hsize hmY hcY (by show k + 1 ≤ k + 1; omega) (by rw [hlY]; show _ + _ + (40 + 31 * k) ≤ 40 + 31 * (k + 1); omega) hc1 hc2) h1
  obtain ⟨mid, hmid⟩ := h.above
  have hfr : (U.setTop g).frames = (.java g :: mid) ++ below := by rw [State.frames_setTop' g h.top, hmid]; rfl
  obtain ⟨o, s₂, hsteps, -, hend, hq⟩ := Steps.callFree hM p X.admits X.cas X.clock (acts := []) hfr happ hP trivial
  exact ⟨o, s₂, hsteps, hend, hq⟩
/-- behind the call: the caller stands again -/
theorem ox_call2 (X : Stand p l e R s m args below meth c U locs cells slots) (hg : g.method = m) (hdg : decode c.code g.pc = .ok (ig, len)) {o : Outcome} {s₂ : State} (hend : Ended s₂ (U.setTop g).frames o) (hq : ox_Q D ad cy xs k out (U.calling g mk a) o s₂) :
    ∃ (U' : State) (Lc : List Loc), U'.heap = s₂.heap ∧ U'.vm = s₂.vm ∧ Stand p l e R s m args below meth c U' (locs ++ Lc) (cells + out.2.2.1) (slots + out.2.2.2) ∧ (∀ q ∈ Lc, ox_A ad U.heap.size q.base) ∧
      (∀ v, o = .returned v → s₂ = U'.setTop { g with pc := g.pc + len, stack := v.toList ++ g.stack }) ∧ (∀ x, o = .threw x → s₂ = (U'.setTop g).pushFrame (.throwing x)) := by
  obtain ⟨hW₂, ⟨Lc, hsb, hLc⟩, -⟩ := hq
  obtain ⟨e2, q2, q3, q4, q5, q6⟩ := id hsb
  have h : At U g.method c below := by rw [hg]; exact X.here
  rw [State.frames_setTop' g h.top] at hend
  have e3 : s₂ = ({ (U.calling g mk a).setFrames s₂.frames with heap := s₂.heap, slotsUsed := s₂.slotsUsed } : State).setVm s₂.vm := by
    have : s₂ = ({ s₂ with vm := (U.calling g mk a).vm } : State).setVm s₂.vm := rfl
    rw [e2] at this
    exact this
  have hW' : U.WarmedH s₂.vm := hW₂
  obtain ⟨g₀, hg0⟩ := Option.isSome_iff_exists.mp h.top
  obtain ⟨r, hr⟩ := State.topJava?_eq_some.mp hg0
  have hsame : U.sameButNew ({ U with heap := s₂.heap, slotsUsed := s₂.slotsUsed } : State) Lc out.2.2.1 out.2.2.2 := by
    refine ⟨?_, q2, q3, q4, q5, q6⟩
    obtain ⟨t, ht, -⟩ := State.frames_cons hr
    show ({ U with heap := s₂.heap, slotsUsed := s₂.slotsUsed } : State) = { U.setFrames U.frames with heap := s₂.heap, slotsUsed := s₂.slotsUsed }
    rw [State.setFrames_self ht]
  have hr' : (({ U with heap := s₂.heap, slotsUsed := s₂.slotsUsed } : State).setVm s₂.vm).frames = .java g₀ :: r := hr
  refine ⟨(({ U with heap := s₂.heap, slotsUsed := s₂.slotsUsed } : State).setVm s₂.vm), Lc, rfl, rfl,
    ⟨X.admits, X.cas, X.clock, X.frames, X.room, X.hears, X.method, X.code, (X.here.setHeapUsed s₂.heap s₂.slotsUsed).setVm hW'.alike, X.tail, State.WarmedH.trans X.warmed hW', X.limits, X.bytes, X.same.trans (hsame.setVm s.vm)⟩, hLc, ?_, ?_⟩
  · intro v hv
    subst hv
    obtain ⟨c₂, i₂, len₂, hc₂, hd₂, hf₂⟩ := hend
    have hcc : c₂ = c := by
      have h1 : s₂.code? g.method = U.code? g.method := by
        rw [State.code?_eq, State.code?_eq, hW'.alike.method?]
      exact Option.some.inj (hc₂.symm.trans (h1.trans h.code))
    subst hcc
    have hlen : len₂ = len := by rw [hdg] at hd₂; cases hd₂; rfl
    subst hlen
    refine e3.trans ?_
    rw [hf₂, State.calling_eq h.top, State.setFrames_setFrames, State.setTop_of_frames _ hr', hr]
    rfl
  · intro x hx
    subst hx
    have hend : s₂.frames = .throwing x :: .java g :: U.frames.tail := hend
    refine e3.trans ?_
    rw [hend, State.calling_eq h.top, State.setFrames_setFrames]
    show _ = State.setFrames (State.setTop _ g) (.throwing x :: (State.setTop _ g).frames)
    rw [State.setTop_of_frames _ hr', State.frames_setFrames _ (State.cur_lt_of_frames hr'), State.setFrames_setFrames, hr]
    rfl
end OX3
end
section
theorem ox_args1 : ∀ (as : List Value) (k0 j : Nat) (v : Value), as.all ox_c1 = true → as[j]? = some v → ∀ ad : Nat → Nat, (k0 + j, ox_cv ad v) ∈ lv_args k0 (as.map (ox_cv ad)) := by
  intro as
  induction as with
  | nil => intro k0 j v _ h; simp at h
  | cons u as ih =>
    intro k0 j v ha h ad
    simp only [List.all_cons, Bool.and_eq_true] at ha
    have hu : (ox_cv ad u).category = 1 := by
      rw [ox_cv_cat]
      cases u <;> first | rfl | (simp [ox_c1] at ha)
    simp only [List.map_cons, lv_args]
    cases j with
    | zero =>
      simp at h
      subst h
      exact List.mem_cons_self ..
    | succ j =>
      refine List.mem_cons_of_mem _ ?_
      rw [hu]
      have h9 := ih (k0 + 1) j v ha.2 (by simpa using h) ad
      rw [show k0 + (j + 1) = k0 + 1 + j by omega]
      exact h9
theorem ox_entry (ad : Nat → Nat) (as : List Value) {n : Nat} (ha : as.all ox_c1 = true) (hn : as.length ≤ n) : ∃ lsr, (∀ m : MethodId, entryFrame m (as.map (ox_cv ad)).toArray n = F0 m 0 lsr []) ∧ ox_L ad lsr n (as.map some ++ List.replicate (n - as.length) none) := by
  have hlen : (lg_sl (as.map (ox_cv ad))).length ≤ n := by
    have h1 : ∀ vs : List Value, vs.all ox_c1 = true → (lg_sl (vs.map (ox_cv ad))).length = vs.length := by
      intro vs
      induction vs with
      | nil => intro _; rfl
      | cons u vs ih =>
        intro h
        simp only [List.all_cons, Bool.and_eq_true] at h
        have h2 := ih h.2
        cases u <;> first | (simp [ox_c1] at h; done) | (exact congrArg Nat.succ h2)
    rw [h1 as ha]
    exact hn
  have hl := lv_entry (as.map (ox_cv ad)) (n := n) hlen
  refine ⟨_, fun m => by rw [lg_entry_eq], ?_⟩
  refine ⟨by simp; omega, hl.1, hl.2.1, fun j v hv => ?_⟩
  have hj : as[j]? = some v := by
    rw [List.getD_eq_getElem?_getD] at hv
    rcases Nat.lt_or_ge j as.length with q | q
    · rw [List.getElem?_append_left (by simpa using q)] at hv
      simpa [q] using hv
    · rw [List.getElem?_append_right (by simpa using q)] at hv
      rw [List.getElem?_replicate] at hv
      split at hv <;> simp at hv
  have h9 := ox_args1 as 0 j v ha hj ad
  rw [Nat.zero_add] at h9
  exact hl.2.2 _ h9
section OX4
variable {l : Launch} {D : va_G} {ad : Nat → Nat} {cy : Nat → ClassId} {L : Nat} {xs : Nat → Int32} {Zp : State → Prop}
/-- what the machine says with fuel n is so on the real one -/
def ox_So (l : Launch) (D : va_G) (ad : Nat → Nat) (cy : Nat → ClassId) (L : Nat) (xs : Nat → Int32) (Zp : State → Prop) (n : Nat) : Prop :=
  ∀ (k mi pc : Nat) (ls : List (Option Value)) (st : List Value) (σ : ox_S) (c w : Nat) (out : ox_O × ox_S × Nat × Nat), ox_x L n k mi pc ls st σ c w = some out → 1 ≤ k → c ≤ ox_rc k → w ≤ ox_rs k →
    ∀ (p : Program) (e : Env) (s : State) (m : MethodId) (args : Array Value) (below : List Frame) (meth : Method) (cd : Code), ox_C p s m args meth cd mi D ad cy L xs → Zp s → cd.exceptionTable.toList.map (fun x => (x.startPc, x.endPc, x.handlerPc, x.catchType)) = ox_hh mi →
    ∀ (H : Heap) (locs : List Loc) (lsr : Array Slot), va_P D ox_cl (ox_ws ad cy σ) H → va_S (ox_A ad s.heap.size) s.heap H locs → ox_L ad lsr (ox_mL mi) ls → σ 174 = xs →
      W p l e (ox_rm k) s m args below meth cd H locs c w (ox_E below D ad cy xs k out s) (F0 m pc lsr (st.map (ox_cv ad)))
theorem ox_contract (hap : ox_ap ad) {n k i : Nat} (ih : ox_So l D ad cy L xs Zp n) {as : List Value} {σ : ox_S} {out : ox_O × ox_S × Nat × Nat} (h : ox_x L n k i 0 (as.map some ++ List.replicate (ox_mL i - as.length) none) [] σ 0 0 = some out) (hk : 1 ≤ k) (hi : i < 114) (hσ : σ 174 = xs) (hlen : as.length ≤ ox_mL i) (ha : as.all ox_c1 = true) :
    ox_M l D ad cy L xs Zp k i as σ out := by
  obtain ⟨hcls, how, hml9, hpl, hy⟩ := ox_w4 i (by omega)
  refine MetFree.of_bodyS (code := ox_b i) (maxLocals := ox_mL i) (ret := ox_rt i) hpl ?_ ?_
  · intro args s m hpre hn
    obtain ⟨mk, methY, cY, hn', h1, h2, h3, h4, h5, h6, -, -⟩ := ox_code (atoms_spec (ws := ox_gw) hpre _ (ox_cwG hi))
    cases hn.symm.trans hn'
    exact ⟨methY, cY, h1, h2, h3, h4, h5, h6⟩
  · intro p e s m args below meth c s₁ B hml hP _
    obtain ⟨rfl, hPh, hK, hX, hbl, hZ⟩ := hP
    have hts := atoms_spec (ws := ox_gw) B.pre
    have hown : s.vm.findClass (ox_R (ox_ow i)) = some m.cls := by
      rw [← hcls]
      exact findClass_of_methodNamed B.named
    have C : ox_C p s m (as.map (ox_cv ad)).toArray meth c i D ad cy L xs := ⟨by omega, B.exec, B.bytes, hml, hown, hts, B.returns, B.notSynchronized, hK, hap, hX, hbl⟩
    obtain ⟨mk, methY, cY, hn', h1, h2, h3, h4, h5, h6, h7, h8⟩ := ox_code (hts _ (ox_cwG hi))
    cases B.named.symm.trans hn'
    cases B.method.symm.trans h1
    cases (Stand.of_body B).code.symm.trans h2
    obtain ⟨lsr, he, hl⟩ := ox_entry ad as ha hlen
    have hh0 : s₁.heap = s.heap := by rw [B.state]; rfl
    obtain ⟨t, a1, o, b1, b2, b3⟩ := ih k i 0 _ [] σ 0 0 out h hk (Nat.zero_le _) (Nat.zero_le _) p e s m _ below meth c C hZ h8 s.heap [] lsr hPh va_S.rf hl hσ s₁ hh0 (Stand.of_body B)
    rw [he m]
    exact ⟨t, o, a1, b1, b2, b3⟩
end OX4
end
section
theorem ox_Sjoin {ad : Nat → Nat} {H0 H : Heap} {locs Lc : List Loc} {st t : State} (hS : va_S (ox_A ad H0.size) H0 H locs) (hh : st.heap = H) (hF : va_F (ox_A ad st.heap.size) st t) (hL : ∀ q ∈ Lc, ox_A ad H.size q.base) : va_S (ox_A ad H0.size) H0 t.heap (locs ++ Lc) := by
  subst hh
  have hA : ∀ q, ox_A ad st.heap.size q → ox_A ad H0.size q := by
    rintro q (h | h)
    · exact Or.inl h
    · exact Or.inr (Nat.le_trans hS.1 h)
  refine ⟨Nat.le_trans hS.1 hF.1, fun q h1 h2 => ?_, fun q hq => ?_⟩
  · rw [hF.2 q (Nat.lt_of_lt_of_le h1 hS.1) (fun h3 => ?_)]
    · exact hS.2.1 q h1 h2
    · exact h2 (hA q h3)
  · rcases List.mem_append.mp hq with h | h
    · exact hS.2.2 q h
    · exact hA _ (hL q h)
section OX5
variable {p : Program} {l : Launch} {e : Env} {s : State} {m : MethodId} {args : Array Value} {below : List Frame} {meth : Method} {cd : Code} {H : Heap} {locs : List Loc} {c w : Nat} {Q : State → Prop}
variable {D : va_G} {ad : Nat → Nat} {cy : Nat → ClassId} {L : Nat} {xs : Nat → Int32} {Zp : State → Prop} {i k mi pc : Nat} {as : List Value} {σ : ox_S} {out : ox_O × ox_S × Nat × Nat} {lsr : Array Slot} {rest stack : List Value}
/-- the nest facts and what a throw needs stay -/
def ox_HZ (D : va_G) (ad : Nat → Nat) (cy : Nat → ClassId) (Zp : State → Prop) : Prop := (∀ (s U : State) (σ : ox_S), Zp s → s.WarmedH U.vm → va_F (ox_A ad s.heap.size) s U → va_P D ox_cl (ox_ws ad cy σ) U.heap → Zp U) ∧ ∀ s : State, Zp s → ∀ q ∈ ox_NL, va_Nw (.methodLinkNest (ox_R q.1) q.2.1 (ox_nm q.2.2.1) "OrderAxioms") s
theorem ox_inv (hZ : ox_HZ D ad cy Zp) (C : ox_C p s m args meth cd mi D ad cy L xs) (hz : Zp s) (hP : va_P D ox_cl (ox_ws ad cy σ) H) (hS : va_S (ox_A ad s.heap.size) s.heap H locs) (hsz : lsr.size = cd.maxLocals) {ig : Instr} (hdg : decode cd.code pc = .ok (ig, 3)) (hW : (rest.map fun v => v.category).sum ≤ 8)
    (hfirst : ∀ T : State, T.heap = H → Stand p l e (ox_rm (k + 1)) s m args below meth cd T locs c w → ∃ (vm₁ : Vm) (mk : MethodId), Stand p l e (ox_rm (k + 1)) s m args below meth cd (T.setVm vm₁) locs c w ∧ s.methodNamed? (ox_nm i) = some mk ∧
      ∀ target, (∀ acts, Steps p.tables e below (doInvoke e ((T.setVm vm₁).setTop (F0 m pc lsr rest)) acts mk (as.map (ox_cv ad)).toArray).1 target) → Steps p.tables e below (T.setTop (F0 m pc lsr stack)) target)
    (hi : i < 114) (hM : ox_M l D ad cy L xs Zp k i as σ out) (hc1 : c + ox_rc k ≤ ox_rc (k + 1)) (hc2 : w + ox_rs k ≤ ox_rs (k + 1))
    (hret : ∀ v, out.1 = .inl v → ∀ (H' : Heap) (locs' : List Loc), va_P D ox_cl (ox_ws ad cy out.2.1) H' → va_S (ox_A ad s.heap.size) s.heap H' locs' → out.2.1 174 = xs → out.2.2.1 ≤ ox_rc k → out.2.2.2 ≤ ox_rs k → W p l e (ox_rm (k + 1)) s m args below meth cd H' locs' (c + out.2.2.1) (w + out.2.2.2) Q (F0 m (pc + 3) lsr ((v.map (ox_cv ad)).toList ++ rest)))
    (hthr : ∀ x, out.1 = .inr x → ∀ (T' : State) (locs' : List Loc) (a : Addr), va_P D ox_cl (ox_ws ad cy out.2.1) T'.heap → va_S (ox_A ad s.heap.size) s.heap T'.heap locs' → out.2.1 174 = xs → out.2.2.1 ≤ ox_rc k → out.2.2.2 ≤ ox_rs k → Stand p l e (ox_rm (k + 1)) s m args below meth cd T' locs' (c + out.2.2.1) (w + out.2.2.2) → ox_Xc x a T' → ∃ t, Steps p.tables e below ((T'.setTop (F0 m pc lsr rest)).pushFrame (.throwing a)) t ∧ Q t) :
    W p l e (ox_rm (k + 1)) s m args below meth cd H locs c w Q (F0 m pc lsr stack) := by
  obtain ⟨hmi, hx, hb, hml, hown, hts, hr, hlocks, hK, hap, hX, hbl⟩ := C
  intro T hT X
  obtain ⟨vm₁, mk, X₁, hnamed, hstep⟩ := hfirst T hT X
  have hT1 : (T.setVm vm₁).heap = H := hT
  have hWm : s.WarmedH vm₁ := X₁.warmed
  have hPc : ox_Pc D ad cy L xs Zp as σ (as.map (ox_cv ad)).toArray ((T.setVm vm₁).calling (F0 m pc lsr rest) mk (as.map (ox_cv ad)).toArray) := by
    have hheap : ((T.setVm vm₁).calling (F0 m pc lsr rest) mk (as.map (ox_cv ad)).toArray).heap = H := hT
    have hvm : ((T.setVm vm₁).calling (F0 m pc lsr rest) mk (as.map (ox_cv ad)).toArray).vm = vm₁ := rfl
    have hF : va_F (ox_A ad s.heap.size) s ((T.setVm vm₁).calling (F0 m pc lsr rest) mk (as.map (ox_cv ad)).toArray) := hS.F hheap
    refine ⟨rfl, by rw [hheap]; exact hP, va_K.moved (by rw [hvm]; exact hWm.alike) hK, va_X.kept (va_X.moved (by rw [hvm]; exact hWm.alike) hX) ?_, ?_, hZ.1 s _ σ hz (by rw [hvm]; exact hWm) hF (by rw [hheap]; exact hP)⟩
    · exact hF.2 _ hbl (ox_notA hap hbl)
    · exact Nat.lt_of_lt_of_le hbl hF.1
  obtain ⟨o, s₂, hsteps, hend, hq⟩ := ox_call1 (g := F0 m pc lsr rest) (ig := ig) (len := 3) X₁ rfl hsz hdg (by show 2 * 0 + (rest.map fun v => v.category).sum ≤ 8; omega) (X₁.named hnamed) hi hM hc1 hc2 (fun w hw a' V hV => word_at hV (ox_good hw) (hts w hw)) hPc
  obtain ⟨U', Lc, hh, hv, X', hLc, h1, h2⟩ := ox_call2 (g := F0 m pc lsr rest) (ig := ig) (len := 3) X₁ rfl hdg hend hq
  obtain ⟨hq1, -, hq3, hq4, hq5, hq6, hq7, hq8⟩ := hq
  rw [hT1] at hLc
  have hS' := ox_Sjoin hS (st := (T.setVm vm₁).calling (F0 m pc lsr rest) mk (as.map (ox_cv ad)).toArray) hT hq5 hLc
  cases ho : out.1 with
  | inl v =>
    rw [ho] at hq8
    dsimp only at hq8
    obtain ⟨t, a1, b1⟩ := hret v ho s₂.heap (locs ++ Lc) hq3 hS' hq4 hq6 hq7 U' hh X'
    refine ⟨t, hstep t (fun acts => ?_), b1⟩
    rw [doInvoke_state]
    refine hsteps.trans ?_
    rw [h1 _ hq8]
    exact a1
  | inr x =>
    rw [ho] at hq8
    obtain ⟨a, hq8, cell, hc, hst, hcl⟩ := hq8
    obtain ⟨t, a1, b1⟩ := hthr x ho U' (locs ++ Lc) a (by rw [hh]; exact hq3) (by rw [hh]; exact hS') hq4 hq6 hq7 X' ⟨cell, by rw [hh]; exact hc, hst, by rw [hv]; exact hcl⟩
    refine ⟨t, hstep t (fun acts => ?_), b1⟩
    rw [doInvoke_state]
    refine hsteps.trans ?_
    rw [h2 _ hq8]
    exact a1
end OX5
end
section
section OX6
variable {p : Program} {l : Launch} {e : Env} {R : Room} {s : State} {m : MethodId} {args : Array Value} {below : List Frame} {meth : Method} {cd : Code} {H : Heap} {locs : List Loc} {c w : Nat} {Q Q' : State → Prop} {g : JFrame}
variable {D : va_G} {ad : Nat → Nat} {cy : Nat → ClassId} {L : Nat} {xs : Nat → Int32} {Zp : State → Prop} {k mi pc : Nat} {σ : ox_S} {lsr : Array Slot}
theorem ox_mono (h : ∀ t, Q t → Q' t) (k : W p l e R s m args below meth cd H locs c w Q g) : W p l e R s m args below meth cd H locs c w Q' g := fun T hT X => by
  obtain ⟨t, a, b⟩ := k T hT X
  exact ⟨t, a, h t b⟩
theorem ox_retI {v : Int32} {ty : FieldType} (C : ox_C p s m args meth cd mi D ad cy L xs) (hP : va_P D ox_cl (ox_ws ad cy σ) H) (hS : va_S (ox_A ad s.heap.size) s.heap H locs) (hσ : σ 174 = xs) (hc : c ≤ ox_rc k) (hw : w ≤ ox_rs k) (hd : decode (ox_b mi) pc = .ok (.ireturn, 1)) (ht : ox_rt mi = some ty) (hn : narrow ty (.int v) = .int v) :
    W p l e R s m args below meth cd H locs c w (ox_E below D ad cy xs k (.inl (some (.int v)), σ, c, w) s) (F0 m pc lsr [.int v]) := by
  obtain ⟨hmi, hx, hb, hml, hown, hts, hr, hlocks, hK, hap, hX, hbl⟩ := C
  refine ox_mono ?_ (W.zret (Qc := fun _ st o t => o = .returned (some (.int v)) ∧ t.heap = H) (free := ox_A ad s.heap.size) hx hb (by rw [hr, ht]) hn (fun t ht hW => ⟨rfl, ht⟩) hS.2.2 hd hlocks)
  rintro t ⟨o, h1, h2, ⟨rfl, hh⟩, Lc, hFE, hL⟩
  exact ⟨_, h1, h2, hFE.2.1, ⟨Lc, hFE.2.2, hL⟩, by rw [hh]; exact hP, hσ, hS.F hh, hc, hw, rfl⟩
theorem ox_retV (C : ox_C p s m args meth cd mi D ad cy L xs) (hP : va_P D ox_cl (ox_ws ad cy σ) H) (hS : va_S (ox_A ad s.heap.size) s.heap H locs) (hσ : σ 174 = xs) (hc : c ≤ ox_rc k) (hw : w ≤ ox_rs k) (hd : decode (ox_b mi) pc = .ok (.return_, 1)) (ht : ox_rt mi = none) :
    W p l e R s m args below meth cd H locs c w (ox_E below D ad cy xs k (.inl none, σ, c, w) s) (F0 m pc lsr []) := by
  obtain ⟨hmi, hx, hb, hml, hown, hts, hr, hlocks, hK, hap, hX, hbl⟩ := C
  refine ox_mono ?_ (W.vret (Qc := fun _ st o t => o = .returned none ∧ t.heap = H) (free := ox_A ad s.heap.size) hx hb (by rw [hr, ht]) (fun t ht hW => ⟨rfl, ht⟩) hS.2.2 hd hlocks)
  rintro t ⟨o, h1, h2, ⟨rfl, hh⟩, Lc, hFE, hL⟩
  exact ⟨_, h1, h2, hFE.2.1, ⟨Lc, hFE.2.2, hL⟩, by rw [hh]; exact hP, hσ, hS.F hh, hc, hw, rfl⟩
/-- what is still to be shown of a throw -/
def ox_HT (l : Launch) (D : va_G) (ad : Nat → Nat) (cy : Nat → ClassId) (L : Nat) (xs : Nat → Int32) (Zp : State → Prop) : Prop :=
  ∀ (k mi pc i x b : Nat) (ls : List (Option Value)) (σ : ox_S) (c w : Nat) (p : Program) (e : Env) (s : State) (m : MethodId) (args : Array Value) (below : List Frame) (meth : Method) (cd : Code) (H : Heap) (locs : List Loc) (lsr : Array Slot),
    ox_C p s m args meth cd mi D ad cy L xs → Zp s → cd.exceptionTable.toList.map (fun x => (x.startPc, x.endPc, x.handlerPc, x.catchType)) = ox_hh mi → ox_I mi pc = some (.new i, 3, x, b) → x < 3 → 5 < k → c < ox_rc k → w + 6 ≤ ox_rs k →
    va_P D ox_cl (ox_ws ad cy σ) H → va_S (ox_A ad s.heap.size) s.heap H locs → ox_L ad lsr (ox_mL mi) ls → σ 174 = xs →
    W p l e (ox_rm k) s m args below meth cd H locs c w (ox_E below D ad cy xs k (.inr x, σ, c + 1, w + 6) s) (F0 m pc lsr [])
/-- what is still to be shown of a catch -/
def ox_HC (l : Launch) (D : va_G) (ad : Nat → Nat) (cy : Nat → ClassId) (L : Nat) (xs : Nat → Int32) (Zp : State → Prop) : Prop :=
  ∀ (k mi pc x h j : Nat) (ls : List (Option Value)) (rest : List Value) (c w : Nat) (p : Program) (e : Env) (s : State) (m : MethodId) (args : Array Value) (below : List Frame) (meth : Method) (cd : Code) (T' : State) (locs : List Loc) (lsr : Array Slot) (a : Addr) (Q : State → Prop),
    ox_C p s m args meth cd mi D ad cy L xs → Zp s → cd.exceptionTable.toList.map (fun x => (x.startPc, x.endPc, x.handlerPc, x.catchType)) = ox_hh mi → ox_hd mi pc x = some (h, j) → ox_nl ls j = true → j < ls.length → Stand p l e (ox_rm k) s m args below meth cd T' locs c w → ox_Xc x a T' → ox_L ad lsr (ox_mL mi) ls →
    (∀ lsr', ox_L ad lsr' (ox_mL mi) (ls.set j none) → W p l e (ox_rm k) s m args below meth cd T'.heap locs c w Q (F0 m h lsr' [])) → ∃ t, Steps p.tables e below ((T'.setTop (F0 m pc lsr rest)).pushFrame (.throwing a)) t ∧ Q t
theorem ox_kown : ∀ i, i < 115 → ox_sta i = false → ox_ow i < 7 := by decide +kernel
theorem ox_catsum (ad : Nat → Nat) (r : List Value) : ((r.map (ox_cv ad)).map fun v => v.category).sum = (r.map Value.category).sum := by
  rw [List.map_map]
  congr 1
  exact List.map_congr_left (fun v _ => ox_cv_cat ad v)
/-- the link of an invokevirtual -/
theorem ox_mlV {j pc i len a b : Nat} (h : ox_lnk j pc (.invokevirtual i, len, a, b) = true) : a < 114 ∧ Cond.methodLink (ox_R j) i (ox_nm a) ∈ ox_gw ∧ (parseMethodDescriptor (ox_nm a).desc).map (fun d => d.parameters.length) = some (b - 1) ∧ ox_sta a = false := by
  unfold ox_lnk at h
  dsimp only at h
  obtain ⟨q, hq, h⟩ := List.any_eq_true.mp h
  simp only [Bool.and_eq_true, beq_iff_eq, Bool.not_eq_true'] at h
  obtain ⟨⟨⟨⟨rfl, rfl⟩, rfl⟩, rfl⟩, h5⟩ := h
  obtain ⟨h1, h2, h3, h4⟩ := ox_MLok q hq
  rw [h5] at h3
  exact ⟨h2, ox_mem _ h1 rfl, h3, h5⟩
theorem ox_fV {o i a : Nat} {as rest : List Value} (C : ox_C p s m args meth cd mi D ad cy L xs) (hP : va_P D ox_cl (ox_ws ad cy σ) H) (ho : o < 174) (hko : ox_k o = ox_ow a) (hi : a < 114) (hst0 : ox_sta a = false) (hlink : Cond.methodLink (ox_R (ox_ow mi)) i (ox_nm a) ∈ ox_gw)
    (hlen : (parseMethodDescriptor (ox_nm a).desc).map (fun d => d.parameters.length) = some as.length) (hsz : lsr.size = cd.maxLocals) (hd : decode (ox_b mi) pc = .ok (.invokevirtual i, 3)) (T : State) (hT : T.heap = H) (X : Stand p l e R s m args below meth cd T locs c w) :
    ∃ (vm₁ : Vm) (mk : MethodId), Stand p l e R s m args below meth cd (T.setVm vm₁) locs c w ∧ s.methodNamed? (ox_nm a) = some mk ∧
      ∀ target, (∀ acts, Steps p.tables e below (doInvoke e ((T.setVm vm₁).setTop (F0 m pc lsr rest)) acts mk ((Value.ref o :: as).map (ox_cv ad)).toArray).1 target) → Steps p.tables e below (T.setTop (F0 m pc lsr ((as.map (ox_cv ad)).reverse ++ .ref (ad o) :: rest))) target := by
  obtain ⟨hmi, hx, hb, hml, hown, hts, hr, hlocks, hK, hap, hX, hbl⟩ := C
  obtain ⟨hcls, how, -, -, hy⟩ := ox_w4 a (by omega)
  obtain ⟨w1, w2⟩ := (ox_w3 a hi).2 hst0
  have hinst := hts _ (ox_mem _ w1 rfl)
  have hsel := hts _ (ox_mem _ w2 rfl)
  obtain ⟨mk, methM, hnamed, hmethM, hstM, habM⟩ := Cond.instanceMethod_spec hinst
  obtain ⟨mk', methY, cY, hn', h1, h2, h3, h4, h5, h6, h7, h8⟩ := ox_code (hts _ (ox_cwG hi))
  cases hnamed.symm.trans hn'
  cases hmethM.symm.trans h1
  have hk7 : ox_k o < 7 := by
    have := ox_kown a (by omega) hst0
    omega
  obtain ⟨cellB, hcB, hoB, hclB⟩ := va_recv hK hP (ox_clT _ hk7) (by rw [ox_ws_get ho, ox_enF hk7])
  dsimp only at hclB
  rw [hko, ← hcls] at hclB
  obtain ⟨c2, r2, m2, q1, q2, q3, q4, kP, hkP, hkPi⟩ := Cond.selects_spec hsel
  cases hclB.symm.trans q1
  cases (State.methodFound?_of_named hnamed hy).symm.trans q2
  cases hnamed.symm.trans q3
  have hselP : selectMethod e.platform s.vm cellB.cls mk = .method mk := by rw [Launch.admits_selectMethod X.admits]; exact q4
  obtain ⟨vm₁, X₁, hstep₁⟩ := X.invokevirtual hx hown (hts _ hlink) hnamed hmethM hstM hkP hkPi hy (a := ad o) (cell := cellB) (by rw [hT]; exact hcB)
    (fun z h => by rw [h] at hoB; cases hoB) hselP hmethM habM hkP hkPi (g := F0 m pc lsr ((as.map (ox_cv ad)).reverse ++ .ref (ad o) :: rest)) rfl (argsL := as.map (ox_cv ad)) (rest := rest) (by rw [h7] at hlen; simpa using hlen.symm) rfl (by rw [hb]; exact hd)
  exact ⟨vm₁, mk, X₁, hnamed, fun target h => hstep₁ target h⟩
/-- the link of an invokestatic of our own -/
theorem ox_mlS {j pc i len a b : Nat} (h : ox_lnk j pc (.invokestatic i, len, a, b) = true) (ha : Nat.beq a 901 = false) : a < 114 ∧ (Cond.methodLink (ox_R j) i (ox_nm a) ∈ ox_gw ∨ ∃ q ∈ ox_NL, q.1 = j ∧ q.2.1 = i ∧ q.2.2.1 = a) ∧ (parseMethodDescriptor (ox_nm a).desc).map (fun d => d.parameters.length) = some b ∧ ox_sta a = true := by
  unfold ox_lnk at h
  dsimp only at h
  rw [Bool.or_eq_true, Bool.or_eq_true] at h
  rcases h with (h | h) | h
  · obtain ⟨q, hq, h⟩ := List.any_eq_true.mp h
    simp only [Bool.and_eq_true, beq_iff_eq] at h
    obtain ⟨⟨⟨⟨rfl, rfl⟩, rfl⟩, rfl⟩, h5⟩ := h
    obtain ⟨h1, h2, h3, h4⟩ := ox_MLok q hq
    rw [h5] at h3
    exact ⟨h2, Or.inl (ox_mem _ h1 rfl), h3, h5⟩
  · obtain ⟨q, hq, h⟩ := List.any_eq_true.mp h
    simp only [Bool.and_eq_true, beq_iff_eq] at h
    obtain ⟨⟨⟨rfl, rfl⟩, rfl⟩, rfl⟩ := h
    obtain ⟨h1, h2, h3, h4⟩ := ox_NLok q hq
    exact ⟨h2, Or.inr ⟨q, hq, rfl, rfl, rfl⟩, h3, h4⟩
  · rw [Bool.and_eq_true, beq_iff_eq] at h
    rw [h.1] at ha
    cases ha
theorem ox_fS {i a : Nat} {as rest : List Value} (hZ : ox_HZ D ad cy Zp) (C : ox_C p s m args meth cd mi D ad cy L xs) (hz : Zp s) (hi : a < 114) (hst0 : ox_sta a = true) (hlink : Cond.methodLink (ox_R (ox_ow mi)) i (ox_nm a) ∈ ox_gw ∨ ∃ q ∈ ox_NL, q.1 = ox_ow mi ∧ q.2.1 = i ∧ q.2.2.1 = a)
    (hlen : (parseMethodDescriptor (ox_nm a).desc).map (fun d => d.parameters.length) = some as.length) (hd : decode (ox_b mi) pc = .ok (.invokestatic i, 3)) (T : State) (X : Stand p l e R s m args below meth cd T locs c w) :
    ∃ (vm₁ : Vm) (mk : MethodId), Stand p l e R s m args below meth cd (T.setVm vm₁) locs c w ∧ s.methodNamed? (ox_nm a) = some mk ∧
      ∀ target, (∀ acts, Steps p.tables e below (doInvoke e ((T.setVm vm₁).setTop (F0 m pc lsr rest)) acts mk (as.map (ox_cv ad)).toArray).1 target) → Steps p.tables e below (T.setTop (F0 m pc lsr ((as.map (ox_cv ad)).reverse ++ rest))) target := by
  obtain ⟨hmi, hx, hb, hml, hown, hts, hr, hlocks, hK, hap, hX, hbl⟩ := C
  obtain ⟨hcls, how, -, -, hy⟩ := ox_w4 a (by omega)
  have hstat := hts _ (ox_mem _ ((ox_w3 a hi).1 hst0) rfl)
  have hini : (Cond.initialized (ox_nm a).cls).before args s = true := by
    rw [hcls]
    exact hts _ (ox_mem _ (ox_w2 _ how) rfl)
  obtain ⟨mk, methM, cY, hnamed, hmethM, h2, h3, h4, h5, h6, h7, h8⟩ := ox_code (hts _ (ox_cwG hi))
  have hstatic : methM.isStatic = true := Cond.static_spec hnamed hmethM hstat
  obtain ⟨kP, hkP, -⟩ := className_of_methodNamed hnamed
  have hinitP : kP.init = .initialized := Cond.initialized_spec (findClass_of_methodNamed hnamed) hkP hini
  rcases hlink with hlink | ⟨q, hq, e1, e2, e3⟩
  · obtain ⟨vm₁, X₁, hstep₁⟩ := X.invokestatic hx hown (hts _ hlink) hnamed hmethM hstatic hkP hinitP hy (g := F0 m pc lsr ((as.map (ox_cv ad)).reverse ++ rest)) rfl (argsL := as.map (ox_cv ad)) (rest := rest) (by rw [h7] at hlen; simpa using hlen.symm) rfl (by rw [hb]; exact hd)
    exact ⟨vm₁, mk, X₁, hnamed, fun target h => hstep₁ target h⟩
  · have hl2 : (Cond.methodLinkNest (ox_R (ox_ow mi)) i (ox_nm a) "OrderAxioms").before args s = true := by
      have h9 := va_Nw.use (A := args) rfl (hZ.2 s hz q hq)
      rw [e1, e2, e3] at h9
      exact h9
    obtain ⟨vm₁, X₁, hstep₁⟩ := X.invokestaticNest hx hown hl2 hnamed hmethM hstatic hkP hinitP hy (g := F0 m pc lsr ((as.map (ox_cv ad)).reverse ++ rest)) rfl (argsL := as.map (ox_cv ad)) (rest := rest) (by rw [h7] at hlen; simpa using hlen.symm) rfl (by rw [hb]; exact hd)
    exact ⟨vm₁, mk, X₁, hnamed, fun target h => hstep₁ target h⟩
end OX6
section OX7
variable {l : Launch} {D : va_G} {ad : Nat → Nat} {cy : Nat → ClassId} {L : Nat} {xs : Nat → Int32} {Zp : State → Prop}
set_option maxHeartbeats 4000000 in
set_option maxRecDepth 100000 in
theorem ox_sound (hap : ox_ap ad) (hZ : ox_HZ D ad cy Zp) (hT : ox_HT l D ad cy L xs Zp) (hC : ox_HC l D ad cy L xs Zp) : ∀ n, ox_So l D ad cy L xs Zp n := by
  intro n
  induction n with
  | zero => intro k mi pc ls st σ c w out h; cases h
  | succ n ih =>
    intro k mi pc ls st σ c w out h hk hc hw p e s m args below meth cd C hz hex H locs lsr hP hS hl hσ
    have h : ox_F L (ox_x L n) k mi pc ls st σ c w = some out := h
    unfold ox_F at h
    cases hI : ox_I mi pc with
    | none => rw [hI] at h; cases h
    | some en =>
      rw [hI] at h
      simp only at h
      cases hs : ox_s1 L pc en ls st σ with
      | some q =>
        rw [hs] at h
        obtain ⟨pc', ls', st', σ'⟩ := q
        exact ox_snd1 (R := ox_rm k) hk (by show 21 ≤ 40 + 31 * k; omega) hc hw C hI hs hP hS hl hσ (fun H locs lsr hP hS hl hσ => ih k mi pc' ls' st' σ' c w out h hk hc hw p e s m args below meth cd C hz hex H locs lsr hP hS hl hσ)
      | none =>
        rw [hs] at h
        simp only at h
        obtain ⟨hd, hck⟩ := ox_I1 mi C.1 pc en hI
        obtain ⟨ei, len, a, b⟩ := en
        unfold ox_chk at hck
        rw [Bool.and_eq_true] at hck
        obtain ⟨hck, hn⟩ := hck
        have hml : cd.maxLocals = ox_mL mi := C.2.2.2.1
        have hb : cd.code = ox_b mi := C.2.2.1
        have hx := C.2.1
        have hown := C.2.2.2.2.1
        have hts := C.2.2.2.2.2.1
        cases ei with
        | ireturn =>
          obtain rfl : len = 1 := eq_of_beq hn
          dsimp only at h
          split at h
          · rename_i v
            split at h
            · rename_i ty ht
              split at h
              · rename_i hnw
                obtain rfl := Option.some.inj h
                exact ox_retI C hP hS hσ hc hw hd ht hnw
              · cases h
            · cases h
          · cases h
        | return_ =>
          obtain rfl : len = 1 := eq_of_beq hn
          dsimp only at h
          split at h
          · split at h
            · rename_i ht
              obtain rfl := Option.some.inj h
              exact ox_retV C hP hS hσ hc hw hd ht
            · cases h
          · cases h
        | new i =>
          obtain rfl : len = 3 := eq_of_beq hn
          cases st with
          | cons v r => cases h
          | nil =>
          dsimp only at h
          cases hg : (Nat.blt a 3 && Nat.blt 5 k && Nat.blt c (ox_rc k) && Nat.ble (w + 6) (ox_rs k)) with
          | false => rw [hg] at h; cases h
          | true =>
            rw [hg] at h
            obtain rfl := Option.some.inj h
            simp only [Bool.and_eq_true] at hg
            exact hT k mi pc i a b ls σ c w p e s m args below meth cd H locs lsr C hz hex hI (Nat.le_of_ble_eq_true hg.1.1.1) (Nat.le_of_ble_eq_true hg.1.1.2) (Nat.le_of_ble_eq_true hg.1.2) (Nat.le_of_ble_eq_true hg.2) hP hS hl hσ
        | invokevirtual i =>
          obtain rfl : len = 3 := eq_of_beq hn
          cases k with
          | zero => cases h
          | succ k =>
            dsimp only at h
            cases hg : ox_gd k c w a b st with
            | false => rw [hg] at h; cases h
            | true =>
              rw [hg] at h
              dsimp only [cond_true] at h
              obtain ⟨g0, g1, g2, g3, g4, g5, g6, g7⟩ := ox_gdi hg
              split at h
              · rename_i o as hta
                cases hg2 : (Nat.beq (ox_k o) (ox_ow a) && Nat.blt o 174) with
                | false => rw [hg2] at h; cases h
                | true =>
                  rw [hg2] at h
                  dsimp only [cond_true] at h
                  obtain ⟨hi, hlink, hlen, hst0⟩ := ox_mlV hck
                  rw [Bool.and_eq_true] at hg2
                  have hko : ox_k o = ox_ow a := Nat.eq_of_beq_eq_true hg2.1
                  have ho : o < 174 := Nat.le_of_ble_eq_true hg2.2
                  have hb1 : as.length + 1 = b := by
                    have h9 := congrArg List.length hta
                    simp only [List.length_reverse, List.length_take, List.length_cons] at h9
                    omega
                  have hall : (Value.ref o :: as).all ox_c1 = true := by rw [← hta, List.all_reverse]; exact g4
                  have hstk : st.map (ox_cv ad) = (as.map (ox_cv ad)).reverse ++ .ref (ad o) :: (st.drop b).map (ox_cv ad) := by
                    have h9 : st.take b = (Value.ref o :: as).reverse := by rw [← hta, List.reverse_reverse]
                    conv => lhs; rw [← List.take_append_drop b st, h9]
                    simp [ox_cv]
                  cases hxx : ox_x L n k a 0 (((Value.ref o :: as).map some) ++ List.replicate (ox_mL a - (as.length + 1)) none) [] σ 0 0 with
                  | none => rw [hxx] at h; cases h
                  | some q =>
                    rw [hxx] at h
                    have hM := ox_contract (k := k) (i := a) (as := .ref o :: as) hap ih hxx g1 hi hσ (by simp; omega) hall
                    rw [hstk]
                    refine ox_inv (i := a) (as := .ref o :: as) (rest := (st.drop b).map (ox_cv ad)) hZ C hz hP hS (by rw [hl.2.1, hml]) (ig := .invokevirtual i) (by rw [hb]; exact hd) (by rw [ox_catsum]; exact g7) ?_ hi hM g5 g6 ?_ ?_
                    · intro T hTh X
                      exact ox_fV C hP ho hko hi hst0 hlink (by rw [hlen]; simp; omega) (by rw [hl.2.1, hml]) hd T hTh X
                    · intro v hv H' locs' hP' hS' hσ' hc' hw'
                      obtain ⟨o1, σ', c', w'⟩ := q
                      dsimp only at hv hP' hσ' hc' hw' ⊢
                      subst hv
                      have h9 := ih (k + 1) mi (pc + 3) ls (v.toList ++ st.drop b) σ' (c + c') (w + w') out h hk (by omega) (by omega) p e s m args below meth cd C hz hex H' locs' lsr hP' hS' hl hσ'
                      rw [List.map_append] at h9
                      cases v <;> exact h9
                    · intro x hv T' locs' av hP' hS' hσ' hc' hw' X' hXc
                      obtain ⟨o1, σ', c', w'⟩ := q
                      dsimp only at hv hP' hσ' hc' hw' X' ⊢
                      subst hv
                      dsimp only at h
                      cases hh : ox_hd mi pc x with
                      | none => rw [hh] at h; cases h
                      | some hj =>
                        rw [hh] at h
                        obtain ⟨h1, j⟩ := hj
                        dsimp only at h
                        cases hnj : (ox_nl ls j && Nat.blt j ls.length) with
                        | false => rw [hnj] at h; cases h
                        | true =>
                        rw [hnj] at h
                        rw [Bool.and_eq_true] at hnj
                        exact hC (k + 1) mi pc x h1 j ls _ (c + c') (w + w') p e s m args below meth cd T' locs' lsr av _ C hz hex hh hnj.1 (Nat.le_of_ble_eq_true hnj.2) X' hXc hl (fun lsr' hl' => ih (k + 1) mi h1 (ls.set j none) [] σ' (c + c') (w + w') out h hk (by omega) (by omega) p e s m args below meth cd C hz hex T'.heap locs' lsr' hP' hS' hl' hσ')
              · cases h
        | invokestatic i =>
          obtain rfl : len = 3 := eq_of_beq hn
          cases k with
          | zero => cases h
          | succ k =>
            dsimp only at h
            cases hg : ox_gd k c w a b st with
            | false => rw [hg] at h; cases h
            | true =>
              rw [hg] at h
              dsimp only [cond_true] at h
              obtain ⟨g0, g1, g2, g3, g4, g5, g6, g7⟩ := ox_gdi hg
              cases ha9 : Nat.beq a 901 with
              | true =>
                have ha9 := Nat.eq_of_beq_eq_true ha9
                omega
              | false =>
                obtain ⟨hi, hlink, hlen, hst0⟩ := ox_mlS hck ha9
                have hb1 : ((st.take b).reverse).length = b := by simp only [List.length_reverse, List.length_take]; omega
                have hall : ((st.take b).reverse).all ox_c1 = true := by rw [List.all_reverse]; exact g4
                have hstk : st.map (ox_cv ad) = (((st.take b).reverse).map (ox_cv ad)).reverse ++ (st.drop b).map (ox_cv ad) := by
                  rw [List.map_reverse, List.reverse_reverse, ← List.map_append, List.take_append_drop]
                rw [show ox_mL a - b = ox_mL a - ((st.take b).reverse).length by rw [hb1]] at h
                rw [hstk]
                generalize (st.take b).reverse = as at h hb1 hall hstk ⊢
                cases hxx : ox_x L n k a 0 (as.map some ++ List.replicate (ox_mL a - as.length) none) [] σ 0 0 with
                | none => rw [hxx] at h; cases h
                | some q =>
                  rw [hxx] at h
                  have hM := ox_contract (k := k) (i := a) (as := as) hap ih hxx g1 hi hσ (by omega) hall
                  refine ox_inv (i := a) (as := as) (rest := (st.drop b).map (ox_cv ad)) hZ C hz hP hS (by rw [hl.2.1, hml]) (ig := .invokestatic i) (by rw [hb]; exact hd) (by rw [ox_catsum]; exact g7) ?_ hi hM g5 g6 ?_ ?_
                  · intro T hTh X
                    exact ox_fS hZ C hz hi hst0 hlink (by rw [hlen, hb1]) hd T X
                  · intro v hv H' locs' hP' hS' hσ' hc' hw'
                    obtain ⟨o1, σ', c', w'⟩ := q
                    dsimp only at hv hP' hσ' hc' hw' ⊢
                    subst hv
                    have h9 := ih (k + 1) mi (pc + 3) ls (v.toList ++ st.drop b) σ' (c + c') (w + w') out h hk (by omega) (by omega) p e s m args below meth cd C hz hex H' locs' lsr hP' hS' hl hσ'
                    rw [List.map_append] at h9
                    cases v <;> exact h9
                  · intro x hv T' locs' av hP' hS' hσ' hc' hw' X' hXc
                    obtain ⟨o1, σ', c', w'⟩ := q
                    dsimp only at hv
                    subst hv
                    cases h
        | _ => cases h
end OX7
end
section
section OX8
variable {p : Program} {l : Launch} {e : Env} {R R' : Room} {s T : State} {m : MethodId} {args : Array Value} {below : List Frame} {meth : Method} {c : Code} {locs : List Loc} {cells slots : Nat}
/-- the walk, begun anew where it stands -/
theorem ox_reroot (X : Stand p l e R s m args below meth c T locs cells slots) (hf : R'.frames ≤ R.frames) (hlo : R'.locals ≤ R.locals) (hc : cells + R'.cells ≤ R.cells) (hs : slots + R'.slots ≤ R.slots) :
    Stand p l e R' (T.setFrames (.invoking m args :: below)) m args below meth c T [] 0 0 := by
  have hcur : T.cur < T.threads.size := State.cur_lt_of_top X.here.top
  have hF : (T.setFrames (.invoking m args :: below)).frames = .invoking m args :: below := State.frames_setFrames _ hcur
  have hU := X.heapSize
  have hV := X.used
  refine ⟨X.admits, X.cas, X.clock, hF, ?_, ?_, X.method', X.code, X.here, X.tail, State.WarmedH.refl _, by rw [State.stackLimits_setFrames], by rw [State.stackBytes_setFrames], ?_⟩
  · obtain ⟨r1, r2, r3, r4⟩ := State.hasRoom_stack X.room
    have r5 := State.hasRoom_real X.room
    have h := X.room
    simp only [State.hasRoom, Bool.and_eq_true, decide_eq_true_eq] at h
    rw [State.localsInUse_invoking X.frames X.method X.code] at r3 r4 r5
    rw [X.frames, List.length_cons] at r1 r2
    have hL : (T.setFrames (.invoking m args :: below)).localsInUse = _ := State.localsInUse_invoking hF (meth := meth) (c := c) X.method' X.code
    simp only [State.hasRoom, Bool.and_eq_true, decide_eq_true_eq, hF, hL, List.length_cons, State.stackLimits_setFrames, State.stackBytes_setFrames, X.limits, X.bytes]
    refine ⟨⟨⟨⟨by omega, by omega, by omega, by omega, by omega, h.1.1.1.2.2.2.2.2⟩, ?_⟩, ?_⟩, X.book⟩
    · have := h.1.1.2
      show T.heap.size + R'.cells ≤ _
      omega
    · have := h.1.2
      show T.slotsUsed + R'.slots ≤ _
      omega
  · have h := X.hears
    have hcode : ∀ q, (T.setFrames (.invoking m args :: below)).code? q = s.code? q := fun q => by
      rw [State.code?_eq, State.code?_eq]
      show (T.vm.method? q).bind _ = _
      rw [X.warmed.alike.method?]
    have hmeth : (T.setFrames (.invoking m args :: below)).vm.method? m = s.vm.method? m := by
      show T.vm.method? m = _
      rw [X.warmed.alike.method?]
    cases below with
    | nil => simp only [State.hears] at h ⊢; rw [hmeth]; exact h
    | cons f r => cases f <;> simp only [State.hears] at h ⊢ <;> first | (rw [hcode]; exact h) | (rw [hmeth]; exact h)
  · obtain ⟨t, ht, -⟩ := State.frames_cons hF
    have h := (State.sameButNew.refl (T.setFrames (.invoking m args :: below)) ht).setFrames T.frames (State.cur_lt_of_frames hF)
    obtain ⟨g₀, hg⟩ := Option.isSome_iff_exists.mp X.here.top
    obtain ⟨r, hr⟩ := State.topJava?_eq_some.mp hg
    obtain ⟨t2, ht2, -⟩ := State.frames_cons hr
    rw [State.setFrames_setFrames, State.setFrames_self ht2] at h
    exact h
/-- the words of a throw of kind x -/
def ox_ic (x : Nat) : Nat := bif Nat.beq x 0 then 55 else bif Nat.beq x 1 then 66 else 173
def ox_xa (x : Nat) : List Cond := Bundle.ownAtoms "OrderAxioms" (ox_ic x) (ox_ex x) ["java/lang/RuntimeException", "java/lang/Exception"]
def ox_isS (w : Cond) : Bool := match w with
  | .isRef (.static _ _ _) => true
  | _ => false
def ox_isD (w : Cond) : Bool := match w with
  | .declares _ => true
  | .castable _ _ => true
  | _ => false
def ox_isL (w : Cond) : Bool := match w with
  | .laysStatic o _ _ => o == Bundle.tN
  | .isRef (.static o _ _) => o == Bundle.tN
  | _ => false
theorem ox_xg : ∀ x, x < 3 → ∀ w ∈ ox_xa x, (w.keepsFace = true) ∧ (w.onTables = true ∨ ox_isL w = true) := by decide +kernel
theorem ox_xg2 : ∀ x, x < 3 → ∀ w ∈ ox_xa x, ox_isS w = true ∨ w ∈ lw_tbl := by decide +kernel
end OX8
theorem ox_zff {V U : State} (hvm : V.vm = U.vm) (o n d : String) : U.fieldFound? o n d = V.fieldFound? o n d := by
  simp only [State.fieldFound?, hvm]
theorem ox_zL {V U : State} {w : Cond} (hw : ox_isL w = true) (hvm : V.vm = U.vm) (hU : ∀ (a : Nat) (cell : Cell), V.heap[a]? = some cell → cell.vm.isStatics = true → U.heap[a]? = some cell) (h : w.before #[] V = true) : w.before #[] U = true := by
  cases w with
  | laysStatic o n d =>
    obtain ⟨c, k, i, f, a, cell, hc, hi, hst, ha, hcell, hs, hcls, hlt, hty⟩ := Cond.laysStatic_spec h
    have e1 : U.vm.findClass o = some c := by rw [← hvm]; exact hc
    have e2 : U.fieldFound? o n d = some (c, k, i, f) := by rw [ox_zff hvm]; exact hi
    have e3 := hU a cell hcell hs
    simp [Cond.before, Cond.holds, Cond.value, e1, e2, ha, e3, hst, hs, hcls, hlt, hty]
  | isRef t =>
    cases t with
    | static o n d =>
      have hev : ∀ v, (Term.static o n d).eval #[] V none [] V = some v → (Term.static o n d).eval #[] U none [] U = some v := by
        intro v hv
        cases hi : V.fieldFound? o n d with
        | none => simp [Term.eval, State.fieldNamed?, hi] at hv
        | some q =>
          obtain ⟨c, k, i, f⟩ := q
          have e2 : U.fieldFound? o n d = some (c, k, i, f) := by rw [ox_zff hvm]; exact hi
          simp only [Term.eval, State.fieldNamed?, hi, e2, Option.bind_eq_bind, Option.bind_some] at hv ⊢
          cases hst : f.isStatic with
          | false => simp [hst] at hv
          | true =>
            simp only [hst] at hv ⊢
            cases ha : k.statics with
            | none => simp [ha] at hv
            | some a =>
              cases hcell : V.heap[a]? with
              | none => simp [ha, hcell] at hv
              | some cell =>
                cases hs : cell.vm.isStatics with
                | false => simp [ha, hcell, hs] at hv
                | true =>
                  have e3 := hU a cell hcell hs
                  simpa [ha, hcell, hs, e3] using hv
      cases hv : (Term.static o n d).eval #[] V none [] V with
      | none => simp [Cond.before, Cond.holds, Cond.value, hv] at h
      | some v =>
        have h2 := hev v hv
        simp only [Cond.before, Cond.holds, Cond.value, hv, h2] at h ⊢
        exact h
    | _ => simp [ox_isL] at hw
  | _ => simp [ox_isL] at hw
/-- the String constants of the class -/
def ox_SL : List (Nat × String) := [(53, "there are four threads"), (64, "no such thread"), (67, "no such kind"), (69, "no such place"), (74, "there are twelve events"), (80, "no such event"), (89, "no dependence of an event on a read before it"), (94, "no such way to make a relation"), (103, "no such relation"), (105, "there are forty relations"), (114, "there are eight rules"), (135, "more than 5000 executions"), (171, "no such outcome or read"), (178, "no such outcome or question"), (186, "no such execution"), (204, "no such read"), (212, "no such write"), (218, "no such relation or event"), (220, "no such event of a ring")]
/-- what throws and the one call across the nest need of a state -/
def ox_Z (ad : Nat → Nat) (s : State) : Prop :=
  (∀ q ∈ ox_NL, va_Nw (.methodLinkNest (ox_R q.1) q.2.1 (ox_nm q.2.2.1) "OrderAxioms") s) ∧ (∀ q ∈ ox_SL, ∃ a, vk_R "OrderAxioms" q.1 q.2 a s) ∧ (∀ x, x < 3 → ∀ w ∈ ox_xa x, w.before #[] s = true) ∧
  (∀ o, o < 174 → ∀ cell, s.heap[ad o]? = some cell → cell.vm.isStatics = false) ∧ ∀ x y, x < 3 → y < 3 → x ≠ y → va_Nc (ox_ex x) (ox_ex y) s
theorem ox_Pns {D : va_G} {ad : Nat → Nat} {cy : Nat → ClassId} {σ : ox_S} {H : Heap} (hP : va_P D ox_cl (ox_ws ad cy σ) H) {o : Nat} (ho : o < 174) {cell : Cell} (hc : H[ad o]? = some cell) : cell.vm.isStatics = false := by
  have h := hP o _ (ox_ws_get ho)
  by_cases h7 : ox_k o < 7
  · rw [ox_enF h7] at h
    obtain ⟨r, h1, cell', g1, g2, g3, -⟩ := h
    cases hc.symm.trans g1
    rw [g3]
    rfl
  · have hE : ∃ ca z, ox_en ad cy σ o = .inl (ca, z) := by
      unfold ox_en
      rw [if_neg h7]
      split
      · exact ⟨_, _, rfl⟩
      · split
        · exact ⟨_, _, rfl⟩
        · split <;> exact ⟨_, _, rfl⟩
    obtain ⟨ca, z, he⟩ := hE
    rw [he] at h
    have h : H[ad o]? = some (vp_cell ca z) := h
    cases hc.symm.trans h
    obtain ⟨n, a⟩ := z
    rcases a with f | f | f | f | f <;> rfl
theorem ox_Zs {D : va_G} {ad : Nat → Nat} {cy : Nat → ClassId} {σ : ox_S} {s U : State} (hz : ox_Z ad s) (hW : s.WarmedH U.vm) (hF : va_F (ox_A ad s.heap.size) s U) (hP : va_P D ox_cl (ox_ws ad cy σ) U.heap) : ox_Z ad U := by
  obtain ⟨h1, h2, h3, h4, h5⟩ := hz
  refine ⟨fun q hq => va_Nw.warmM hW (h1 q hq), fun q hq => ?_, fun x hx w hw => ?_, fun o ho cell hc => ox_Pns hP ho hc, fun x y hx hy hxy => va_Nc.moved hW.alike (h5 x y hx hy hxy)⟩
  · obtain ⟨a, ha⟩ := h2 q hq
    exact ⟨a, vk_R.warm hW ha⟩
  · obtain ⟨g1, g2⟩ := ox_xg x hx w hw
    have h5 : w.before #[] (s.setVm U.vm) = true := Cond.before_shiftedFace (State.Shifted.of_warmed hW) w g1 (h3 x hx w hw)
    rcases g2 with g2 | g2
    · exact va_tabs g2 (rfl : (s.setVm U.vm).vm = U.vm) h5
    · refine ox_zL (V := s.setVm U.vm) g2 rfl (fun a cell hc hs => ?_) h5
      have hc : s.heap[a]? = some cell := hc
      rw [hF.2 a (Array.getElem?_eq_some_iff.mp hc).1 ?_]
      · exact hc
      · rintro (⟨o, ho, e⟩ | q)
        · subst e
          rw [h4 o ho cell hc] at hs
          cases hs
        · exact absurd (Array.getElem?_eq_some_iff.mp hc).1 (by omega)
end
section
theorem ox_xi : ∀ x, x < 3 → Cond.initialized (ox_ex x) ∈ ox_gw ∧ Cond.instantiable (ox_ex x) 6 ∈ ox_gw := by decide +kernel
theorem ox_xf : ∀ x, x < 3 → Bundle.fit (ox_ex x) = true := by decide +kernel
theorem ox_ow5 : ∀ i, i < 115 → ox_ow i = 5 → 32 ≤ i ∧ i ≤ 50 := by decide +kernel
theorem ox_XL5 : ∀ q ∈ ox_XL, q.1 = 5 := by decide +kernel
def ox_patB (mi pc : Nat) : Bool := match ox_I mi pc with
  | some (.new _, _, x, _) => !(Nat.blt x 3) || (ox_hh mi == [] && (match ox_I mi (pc + 3) with | some (.dup, 1, _, _) => true | _ => false) && (match ox_I mi (pc + 4) with | some (.ldc j, 2, _, _) => ox_SL.any (fun q => q.1 == j) | _ => false) && (match ox_I mi (pc + 6) with | some (.invokespecial j, 3, _, _) => j == ox_ic x | _ => false) && (match ox_I mi (pc + 9) with | some (.athrow, 1, _, _) => true | _ => false))
  | _ => true
theorem ox_pat0 : ∀ mi, 32 ≤ mi → mi ≤ 50 → ∀ pc, 330 ≤ pc → ox_I mi pc = none := by
  intro mi h1 h2 pc h
  match mi, h1, h2 with
  | 0, h1, _ => exact absurd h1 (by omega)
  | 1, h1, _ => exact absurd h1 (by omega)
  | 2, h1, _ => exact absurd h1 (by omega)
  | 3, h1, _ => exact absurd h1 (by omega)
  | 4, h1, _ => exact absurd h1 (by omega)
  | 5, h1, _ => exact absurd h1 (by omega)
  | 6, h1, _ => exact absurd h1 (by omega)
  | 7, h1, _ => exact absurd h1 (by omega)
  | 8, h1, _ => exact absurd h1 (by omega)
  | 9, h1, _ => exact absurd h1 (by omega)
  | 10, h1, _ => exact absurd h1 (by omega)
  | 11, h1, _ => exact absurd h1 (by omega)
  | 12, h1, _ => exact absurd h1 (by omega)
  | 13, h1, _ => exact absurd h1 (by omega)
  | 14, h1, _ => exact absurd h1 (by omega)
  | 15, h1, _ => exact absurd h1 (by omega)
  | 16, h1, _ => exact absurd h1 (by omega)
  | 17, h1, _ => exact absurd h1 (by omega)
  | 18, h1, _ => exact absurd h1 (by omega)
  | 19, h1, _ => exact absurd h1 (by omega)
  | 20, h1, _ => exact absurd h1 (by omega)
  | 21, h1, _ => exact absurd h1 (by omega)
  | 22, h1, _ => exact absurd h1 (by omega)
  | 23, h1, _ => exact absurd h1 (by omega)
  | 24, h1, _ => exact absurd h1 (by omega)
  | 25, h1, _ => exact absurd h1 (by omega)
  | 26, h1, _ => exact absurd h1 (by omega)
  | 27, h1, _ => exact absurd h1 (by omega)
  | 28, h1, _ => exact absurd h1 (by omega)
  | 29, h1, _ => exact absurd h1 (by omega)
  | 30, h1, _ => exact absurd h1 (by omega)
  | 31, h1, _ => exact absurd h1 (by omega)
  | 32, _, _ => exact oxn_32 pc (by omega)
  | 33, _, _ => exact oxn_33 pc (by omega)
  | 34, _, _ => exact oxn_34 pc (by omega)
  | 35, _, _ => exact oxn_35 pc (by omega)
  | 36, _, _ => exact oxn_36 pc (by omega)
  | 37, _, _ => exact oxn_37 pc (by omega)
  | 38, _, _ => exact oxn_38 pc (by omega)
  | 39, _, _ => exact oxn_39 pc (by omega)
  | 40, _, _ => exact oxn_40 pc (by omega)
  | 41, _, _ => exact oxn_41 pc (by omega)
  | 42, _, _ => exact oxn_42 pc (by omega)
  | 43, _, _ => exact oxn_43 pc (by omega)
  | 44, _, _ => exact oxn_44 pc (by omega)
  | 45, _, _ => exact oxn_45 pc (by omega)
  | 46, _, _ => exact oxn_46 pc (by omega)
  | 47, _, _ => exact oxn_47 pc (by omega)
  | 48, _, _ => exact oxn_48 pc (by omega)
  | 49, _, _ => exact oxn_49 pc (by omega)
  | 50, _, _ => exact oxn_50 pc (by omega)
  | k + 51, _, h2 => exact absurd h2 (by omega)
theorem ox_pat1 : ∀ mi, mi < 51 → 32 ≤ mi → ∀ pc, pc < 330 → ox_patB mi pc = true := by decide +kernel
theorem ox_pat {mi pc i x b : Nat} (hmi : mi < 115) (hI : ox_I mi pc = some (.new i, 3, x, b)) (hx : x < 3) : ox_ow mi = 5 ∧ Cond.classLink "OrderAxioms" i (ox_ex x) ∈ ox_gw ∧ ox_hh mi = [] ∧ (∃ u v, ox_I mi (pc + 3) = some (.dup, 1, u, v)) ∧ (∃ j u v tx, ox_I mi (pc + 4) = some (.ldc j, 2, u, v) ∧ (j, tx) ∈ ox_SL) ∧ (∃ u v, ox_I mi (pc + 6) = some (.invokespecial (ox_ic x), 3, u, v)) ∧ (∃ u v, ox_I mi (pc + 9) = some (.athrow, 1, u, v)) := by
  obtain ⟨hd, hc⟩ := ox_I1 mi hmi pc _ hI
  unfold ox_chk at hc
  rw [Bool.and_eq_true] at hc
  have hc := hc.1
  unfold ox_lnk at hc
  dsimp only at hc
  rw [Bool.or_eq_true] at hc
  have hc2 : ox_ow mi = 5 ∧ Cond.classLink "OrderAxioms" i (ox_ex x) ∈ ox_gw := by
    rcases hc with h | h
    · have := eq_of_beq h
      omega
    · obtain ⟨q, hq, h⟩ := List.any_eq_true.mp h
      simp only [Bool.and_eq_true, beq_iff_eq] at h
      obtain ⟨⟨h1, rfl⟩, rfl⟩ := h
      have h5 := ox_XL5 q hq
      have h6 := ox_XLok q hq
      rw [h5] at h6
      exact ⟨by rw [← h1]; exact h5, ox_mem _ h6 rfl⟩
  obtain ⟨g1, g2⟩ := ox_ow5 mi hmi hc2.1
  have hpc : pc < 330 := by
    rcases Nat.lt_or_ge pc 330 with q | q
    · exact q
    · rw [ox_pat0 mi g1 g2 pc q] at hI; cases hI
  have hp := ox_pat1 mi (by omega) g1 pc hpc
  unfold ox_patB at hp
  rw [hI] at hp
  have hx3 : Nat.blt x 3 = true := Nat.ble_eq_true_of_le hx
  simp only [hx3, Bool.not_true, Bool.false_or, Bool.and_eq_true] at hp
  obtain ⟨⟨⟨⟨p0, p1⟩, p2⟩, p3⟩, p4⟩ := hp
  refine ⟨hc2.1, hc2.2, by simpa using p0, ?_, ?_, ?_, ?_⟩
  · split at p1
    · rename_i u v h; exact ⟨_, _, h⟩
    · cases p1
  · split at p2
    · rename_i j u v h
      obtain ⟨q, hq, h3⟩ := List.any_eq_true.mp p2
      obtain rfl := eq_of_beq h3
      exact ⟨_, _, _, q.2, h, hq⟩
    · cases p2
  · split at p3
    · rename_i j u v h
      obtain rfl := eq_of_beq p3
      exact ⟨_, _, h⟩
    · cases p3
  · split at p4
    · rename_i u v h; exact ⟨_, _, h⟩
    · cases p4
theorem ox_isLa {w : Cond} (hw : ox_isL w = true) (A : Array Value) (U : State) (h : w.before #[] U = true) : w.before A U = true := by
  cases w with
  | laysStatic o n d => exact h
  | isRef t => cases t with
    | static o n d => exact h
    | _ => simp [ox_isL] at hw
  | _ => simp [ox_isL] at hw
theorem ox_sbT {T X : State} {F : List Frame} {L : List Loc} {k n : Nat} (h : (T.setFrames F).sameButNew X L k n) : T.sameButNew X L k n := by
  obtain ⟨e1, h2⟩ := h
  refine ⟨?_, h2⟩
  rw [State.setFrames_setFrames] at e1
  exact e1
section OX9
variable {l : Launch} {D : va_G} {ad : Nat → Nat} {cy : Nat → ClassId} {L : Nat} {xs : Nat → Int32}
set_option maxHeartbeats 4000000 in
theorem ox_throw (htr : ∀ e : Env, l.admits e → e.platform.stackTraces = false) : ox_HT l D ad cy L xs (ox_Z ad) := by
  intro k mi pc i x b ls σ c w p e s m args below meth cd H locs lsr C hz hex hI hx3 h5 hc hw hP hS hl hσ
  obtain ⟨hmi, hx, hb, hml, hown, hts, hr, hlocks, hK, hap, hX, hbl⟩ := C
  obtain ⟨how, hcl, hh0, ⟨u1, v1, hI1⟩, ⟨j, u2, v2, tx, hI2, htx⟩, ⟨u3, v3, hI3⟩, ⟨u4, v4, hI4⟩⟩ := ox_pat hmi hI hx3
  have hd0 := (ox_I1 mi hmi pc _ hI).1
  have hd1 := (ox_I1 mi hmi (pc + 3) _ hI1).1
  have hd2 := (ox_I1 mi hmi (pc + 4) _ hI2).1
  have hd3 := (ox_I1 mi hmi (pc + 6) _ hI3).1
  have hd4 := (ox_I1 mi hmi (pc + 9) _ hI4).1
  dsimp only at hd0 hd1 hd2 hd3 hd4
  rw [how] at hown
  intro T hT X
  have X' := ox_reroot (R' := { frames := k, cells := 1, slots := 6, locals := 40 + 31 * k }) X (Nat.le_refl _) (Nat.le_refl _) (by show c + 1 ≤ ox_rc k; omega) (by show w + 6 ≤ ox_rs k; omega)
  generalize hs' : T.setFrames (.invoking m args :: below) = s' at X'
  have hvm' : s'.vm = T.vm := by rw [← hs']; rfl
  have hheap' : s'.heap = T.heap := by rw [← hs']; rfl
  have hW : s.WarmedH s'.vm := by rw [hvm']; exact X.warmed
  have hts' : ∀ w ∈ ox_gw, w.before args s' = true := fun w hw => word_at hW (ox_good hw) (hts w hw)
  have hown' : s'.vm.findClass "OrderAxioms" = some m.cls := by rw [hW.alike.findClass]; exact hown
  have hz' : ox_Z ad s' := ox_Zs (σ := σ) hz hW (hS.F (by rw [hheap', hT])) (by rw [hheap', hT]; exact hP)
  obtain ⟨qa, hqa⟩ := hz'.2.1 _ htx
  have hatoms : ∀ a ∈ Bundle.ownAtoms "OrderAxioms" (ox_ic x) (ox_ex x) ["java/lang/RuntimeException", "java/lang/Exception"], a.before args s' = true := by
    intro a ha
    have h9 := hz'.2.2.1 x hx3 a ha
    obtain ⟨-, g2⟩ := ox_xg x hx3 a ha
    rcases g2 with g2 | g2
    · exact va_tabs g2 rfl h9
    · exact ox_isLa g2 args s' h9
  obtain ⟨hini, hins⟩ := ox_xi x hx3
  have htab : cd.exceptionTable.toList = [] := by
    rw [hh0] at hex
    simpa using hex
  have K : W p l e { frames := k, cells := 1, slots := 6, locals := 40 + 31 * k } s' m args below meth cd T.heap [] 0 0 (fun t => ∃ a, t.status = .running ∧ Ended t below (.threw a) ∧ s'.WarmedH t.vm ∧ s'.sameButNew ({ t with vm := s'.vm } : State) [] 1 6 ∧ ∃ ce, t.heap[a]? = some ce ∧ Bundle.OwnCell args s' (ox_ex x) a (.ref qa) ce) (F0 m pc lsr []) := by
    refine W.newc hx hb hown' (hts' _ hcl) (hts' _ hins) (hts' _ hini) rfl hd0 (Nat.le_refl 1) (Nat.le_refl 6) (fun cC kC hfc hk hkind hsz => ?_)
    refine lv_dup hx hb hd1 rfl ?_
    refine va_ldcS hx hb hown' hqa hd2 ?_
    intro T2 hT2 X2
    have hcell : T2.heap[T.heap.size]? = some (freshCell cC kC) := by rw [hT2]; simp
    obtain ⟨U, st, h1, h2, h3, h4, h6⟩ := X2.ctorThrowS hx (htr e X2.admits) hown' (ox_xf x hx3) (by decide +kernel) hatoms (fun x hx => by cases hx) hfc hk hcell (by rw [hheap']; exact Nat.le_refl _) (msg := .ref qa) rfl (g := F0 m (pc + 3 + 1 + 2) lsr [.ref qa, .ref T.heap.size, .ref T.heap.size]) rfl (by rw [hl.2.1, hml]) rfl rfl (rest := []) rfl (by rw [hb]; exact hd3) (by rw [hb]; exact hd4) (by rw [htab]; intro x hx; cases hx) (by show 2 + 3 < k; omega) (by show 2 * 0 + 1 + (13 * 3 + 42) ≤ 40 + 31 * k; omega) hlocks
    exact ⟨U, st, _, h1, h2, h3, h4, h6⟩
  obtain ⟨t, a1, a, b1, b2, b3, b4, ce, hce, hoc⟩ := K T rfl X'
  have hold : ∀ q cell, H[q]? = some cell → t.heap[q]? = some cell := fun q cell hq => b4.old_cell (by rw [hheap', hT]; exact hq)
  refine ⟨t, a1, .threw a, b1, b2, State.WarmedH.trans hW b3, ⟨locs, ?_, hS.2.2⟩, ?_, hσ, ?_, by show c + 1 ≤ _; omega, hw, a, rfl, ce, hce, ?_, ?_⟩
  · have h9 : T.sameButNew ({ t with vm := s'.vm } : State) [] 1 6 := ox_sbT (by rw [hs']; exact b4)
    have h10 := X.same.trans (h9.setVm s.vm)
    rw [List.append_nil] at h10
    exact h10
  · exact hP.kept (fun k q hq => by
      have hlt := (hP k q hq).lt
      rw [hold q.1 H[q.1] (Array.getElem?_eq_getElem hlt), Array.getElem?_eq_getElem hlt])
  · have hF0 := hS.F (t := s') (by rw [hheap', hT])
    refine ⟨?_, fun q h1 h2 => ?_⟩
    · have := b4.2.1
      rw [hheap', hT] at this
      exact Nat.le_trans hS.1 this
    · have hlt : q < H.size := Nat.lt_of_lt_of_le h1 hS.1
      rw [hold q H[q] (Array.getElem?_eq_getElem hlt), ← Array.getElem?_eq_getElem hlt]
      exact hS.2.1 q h1 h2
  · intro kk; rw [hoc.vm]; simp
  · rw [b3.alike.findClass]; exact hoc.cls
end OX9
end
section
theorem ox_cat : ∀ q ∈ [13, 19, 43], Cond.classLink "OrderAxiomsLaw" q (ox_ex (ox_hx q)) ∈ ox_gw ∧ ox_hx q < 3 := by decide +kernel
theorem ox_hhc : ∀ i, i < 115 → ∀ q ∈ ox_hh i, q.2.2.2 ∈ [13, 19, 43] ∧ ox_ow i = 8 := by decide +kernel
theorem ox_xcast : ∀ x, x < 3 → Cond.castable (ox_ex x) (ox_ex x) ∈ ox_xa x := by decide +kernel
theorem ox_goc {E : CtlPost} {e : Env} {d : Bool} {acts : List Action} {s : State} {f : JFrame} {a : Addr} {Q : Handler → Pre} {x : ExceptionTableEntry} {t : List ExceptionTableEntry} {c : ClassId} {cell : Cell} {vm' : Vm} (hx : covers x f.pc = true) (h0 : x.catchType ≠ 0)
    (hg : (Jvm.resolveClass f.method.cls x.catchType).Gives e.toSetting s.vm (.ok c) vm') (hsz : vm'.classes.size ≤ s.vm.classes.size) (hcell : s.heap[a]? = some cell) (hobj : ∀ k, cell.vm ≠ .statics k)
    (hk : ∃ k, vm'.classes[cell.cls]? = some k) (hc : ∃ k, vm'.classes[c]? = some k) :
    wp (findHandler.go f a (x :: t)) Q E e d acts s ↔ if vm'.assignable cell.cls c = true then Q (.found x.handlerPc) d acts (s.setVm vm') else wp (findHandler.go f a t) Q E e d acts (s.setVm vm') := by
  obtain ⟨ha, ht⟩ := hg.op (op := VmOp.resolveClass f.method.cls x.catchType) rfl
  simp only [covers] at hx
  cases hfit : vm'.assignable cell.cls c <;>
    simp [findHandler.go, hx, h0, ha, ht, hsz, hcell, hobj, hk, hc, hfit, VmOp.dirties, VmOp.acts]
theorem ox_scan {ad : Nat → Nat} {s0 : State} {args : Array Value} {e : Env} {f : JFrame} {a : Addr} {x : Nat} {cell : Cell} (hpl : e.platform.magicAccessors = ({} : Platform).magicAccessors) (hown : s0.vm.findClass "OrderAxiomsLaw" = some f.method.cls) (hts : ∀ w ∈ ox_gw, w.before args s0 = true) (hz : ox_Z ad s0) (hx : x < 3) (hobj : ∀ k, cell.vm ≠ .statics k) (hcl : s0.vm.findClass (ox_ex x) = some cell.cls) :
    ∀ (es : List ExceptionTableEntry) (S : State) (y0 : ExceptionTableEntry), s0.WarmedH S.vm → S.heap[a]? = some cell → (∀ y ∈ es, y.catchType ∈ [13, 19, 43]) → es.find? (fun y => covers y f.pc && ox_hx y.catchType == x) = some y0 →
      ∃ vm', s0.WarmedH vm' ∧ ∀ (Q : Handler → Pre) (E : CtlPost) (d : Bool) (acts : List Action), wp (findHandler.go f a es) Q E e d acts S ↔ Q (.found y0.handlerPc) d acts (S.setVm vm') := by
  intro es
  induction es with
  | nil => intro S y0 _ _ _ h; cases h
  | cons y t ih =>
    intro S y0 hW hcell hct hfind
    rw [List.find?_cons] at hfind
    cases hcov : covers y f.pc with
    | false =>
      rw [hcov] at hfind
      obtain ⟨vm', hW', h⟩ := ih S y0 hW hcell (fun z hz => hct z (List.mem_cons_of_mem _ hz)) hfind
      exact ⟨vm', hW', fun Q E d acts => (W.findHandler_go_skip hcov).trans (h Q E d acts)⟩
    | true =>
      rw [hcov] at hfind
      have hy := hct y (List.mem_cons_self ..)
      obtain ⟨hlk, hy3⟩ := ox_cat _ hy
      have h0 : y.catchType ≠ 0 := by intro q; rw [q] at hy; simp at hy
      obtain ⟨cc, hfcc, hl2⟩ := Cond.classLink_spec hown (hts _ hlk) e.platform hpl
      obtain ⟨hg₁, hwarm₁, hready₁⟩ := State.classEntry (e := e) hW hl2
      generalize hvm : S.vm.noted f.method.cls y.catchType (.cls cc) = vm₁ at hg₁ hwarm₁ hready₁
      have hsz : vm₁.classes.size ≤ S.vm.classes.size := by rw [← hvm]; no_record
      have hk1 : ∃ k, vm₁.classes[cell.cls]? = some k := by
        obtain ⟨k, hk⟩ := Vm.classAt_of_findClass hcl
        obtain ⟨k', hk', -⟩ := hwarm₁.alike.2.2 _ _ hk
        exact ⟨k', hk'⟩
      have hk2 : ∃ k, vm₁.classes[cc]? = some k := by
        obtain ⟨k, hk⟩ := Vm.classAt_of_findClass hfcc
        obtain ⟨k', hk', -⟩ := hwarm₁.alike.2.2 _ _ hk
        exact ⟨k', hk'⟩
      by_cases hxy : ox_hx y.catchType = x
      · subst hxy
        obtain rfl : y = y0 := by simpa using hfind
        obtain ⟨c1, c2, e1, e2, e3⟩ := Cond.castable_spec (hz.2.2.1 _ hx _ (ox_xcast _ hx))
        cases e1.symm.trans hcl
        cases e2.symm.trans hcl
        cases hfcc.symm.trans hcl
        refine ⟨vm₁, hwarm₁, fun Q E d acts => (ox_goc hcov h0 hg₁ hsz hcell hobj hk1 hk2).trans ?_⟩
        rw [if_pos (by rw [hwarm₁.alike.assignable]; exact e3)]
      · have hb : (ox_hx y.catchType == x) = false := by simpa using hxy
        rw [hb] at hfind
        obtain ⟨c1, c2, e1, e2, e3⟩ := hz.2.2.2.2 x (ox_hx y.catchType) hx hy3 (fun q => hxy q.symm)
        cases e1.symm.trans hcl
        cases e2.symm.trans hfcc
        obtain ⟨vm', hW', h⟩ := ih (S.setVm vm₁) y0 hwarm₁ hcell (fun z hz => hct z (List.mem_cons_of_mem _ hz)) hfind
        refine ⟨vm', hW', fun Q E d acts => (ox_goc hcov h0 hg₁ hsz hcell hobj hk1 hk2).trans ?_⟩
        rw [if_neg (by rw [hwarm₁.alike.assignable, e3]; decide)]
        exact h Q E d acts
end
section
theorem ox_L.store0 {ad : Nat → Nat} {lsr ls' : Array Slot} {n i : Nat} {ls : List (Option Value)} {v : Value} (h : ox_L ad lsr n ls) (hnl : ox_nl ls i = true)
    (h' : lv_has ls' n ((i, v) :: (ox_lv ad ls).filter (fun q => !(q.1 == i) && !(q.1 + 1 == i && q.2.category == 2)))) : ox_L ad ls' n (ls.set i none) := by
  refine ⟨by rw [List.length_set]; exact h.1, h'.1, h'.2.1, fun j u hu => ?_⟩
  rw [ox_getD_set] at hu
  by_cases hj : i = j ∧ j < ls.length
  · rw [if_pos hj] at hu; cases hu
  · rw [if_neg hj] at hu
    have hij : j ≠ i := by
      intro q
      rcases Nat.lt_or_ge j ls.length with hlt | hge
      · exact hj ⟨q.symm, hlt⟩
      · rw [List.getD_eq_getElem?_getD, List.getElem?_eq_none hge] at hu; cases hu
    refine h'.2.2 (j, ox_cv ad u) (List.mem_cons_of_mem _ (List.mem_filter.mpr ⟨ox_lv_mem.mpr ⟨u, hu, rfl⟩, ?_⟩))
    have hc : ¬ (j + 1 = i ∧ u.category = 2) := fun q => ox_nl_spec hnl q.1 hu q.2
    simp only [ox_cv_cat, Bool.and_eq_true, Bool.not_eq_true', beq_eq_false_iff_ne, ne_eq, Bool.and_eq_false_iff]
    refine ⟨hij, ?_⟩
    by_cases h1 : j + 1 = i
    · exact Or.inr (fun q => hc ⟨h1, q⟩)
    · exact Or.inl h1
theorem ox_stepCatch {e : Env} {s s2 : State} {a : Addr} {f : JFrame} {r : List Frame} {pc : Nat} (hfind : ∀ (Q : Handler → Pre) (E : CtlPost) (d : Bool) (acts : List Action), wp (findHandler f a) Q E e d acts s ↔ Q (.found pc) d acts s2) :
    (stepThrowing e s a (.java f :: r)).Is (s2.setFrames (.java { f with pc := pc, stack := [.ref a] } :: r)) [] := by
  simp only [stepThrowing, searchFrame, vmDo]
  generalize hr : Sem.go _ e false [] s = res
  obtain ⟨as, rfl, ha⟩ := Sem.eq_ok_of hr (a := Handler.found pc) (s' := s2) (acts' := []) (by simp [hfind _ _ _ _])
  exact ⟨rfl, ha⟩
section OX10
variable {l : Launch} {D : va_G} {ad : Nat → Nat} {cy : Nat → ClassId} {L : Nat} {xs : Nat → Int32}
theorem ox_catch : ox_HC l D ad cy L xs (ox_Z ad) := by
  intro k mi pc x h j ls rest c w p e s m args below meth cd T' locs lsr a Q C hz hex hhd hnl hj X hXc hl kk
  obtain ⟨hmi, hx, hb, hml, hown, hts, hr, hlocks, hK, hap, hX, hbl⟩ := C
  obtain ⟨cell, hcell, hobj, hcl⟩ := hXc
  unfold ox_hd at hhd
  cases hf : (ox_hh mi).find? (fun h => decide (h.1 ≤ pc) && decide (pc < h.2.1) && ox_hx h.2.2.2 == x) with
  | none => rw [hf] at hhd; cases hhd
  | some q =>
    rw [hf] at hhd
    dsimp only at hhd
    obtain ⟨hq1, hq2⟩ := ox_hhc mi hmi q (List.mem_of_find?_eq_some hf)
    have hq3 := List.find?_some hf
    simp only [Bool.and_eq_true, beq_iff_eq] at hq3
    have hx3 : x < 3 := by rw [← hq3.2]; exact (ox_cat _ hq1).2
    rw [hq2] at hown
    have hpl : e.platform.magicAccessors = ({} : Platform).magicAccessors := by rw [X.admits.platform]
    obtain ⟨y0, hy0, hyq⟩ : ∃ y0, cd.exceptionTable.toList.find? (fun y => covers y pc && ox_hx y.catchType == x) = some y0 ∧ (y0.startPc, y0.endPc, y0.handlerPc, y0.catchType) = q := by
      rw [← hex, List.find?_map] at hf
      cases hf2 : cd.exceptionTable.toList.find? (fun y => covers y pc && ox_hx y.catchType == x) with
      | none => rw [show ((fun h : Nat × Nat × Nat × Nat => decide (h.1 ≤ pc) && decide (pc < h.2.1) && ox_hx h.2.2.2 == x) ∘ fun x : ExceptionTableEntry => (x.startPc, x.endPc, x.handlerPc, x.catchType)) = (fun y => covers y pc && ox_hx y.catchType == x) from rfl, hf2] at hf; cases hf
      | some y0 =>
        rw [show ((fun h : Nat × Nat × Nat × Nat => decide (h.1 ≤ pc) && decide (pc < h.2.1) && ox_hx h.2.2.2 == x) ∘ fun x : ExceptionTableEntry => (x.startPc, x.endPc, x.handlerPc, x.catchType)) = (fun y => covers y pc && ox_hx y.catchType == x) from rfl, hf2] at hf
        exact ⟨y0, rfl, Option.some.inj hf⟩
    have hct : ∀ y ∈ cd.exceptionTable.toList, y.catchType ∈ [13, 19, 43] := fun y hy => (ox_hhc mi hmi _ (by rw [← hex]; exact List.mem_map.mpr ⟨y, hy, rfl⟩)).1
    obtain ⟨vm', hW', hfind⟩ := ox_scan (f := F0 m pc lsr rest) (a := a) hpl hown hts hz hx3 hobj (by rw [← X.warmed.alike.findClass]; exact hcl) cd.exceptionTable.toList ((T'.setTop (F0 m pc lsr rest)).pushFrame (.throwing a)) y0 (by rw [Stand.throwing_vm]; exact X.warmed) (by rw [Stand.throwing_heap]; exact hcell) hct hy0
    have X' := X.noted hW'
    have hfind2 : ∀ (Q : Handler → Pre) (E : CtlPost) (d : Bool) (acts : List Action), wp (findHandler (F0 m pc lsr rest) a) Q E e d acts ((T'.setTop (F0 m pc lsr rest)).pushFrame (.throwing a)) ↔ Q (.found y0.handlerPc) d acts (((T'.setTop (F0 m pc lsr rest)).pushFrame (.throwing a)).setVm vm') := fun Q E d acts =>
      (W.findHandler_eq (f := F0 m pc lsr rest) (by rw [Stand.throwing_vm]; exact X.method') X.code).trans (hfind Q E d acts)
    have hsteps : ∀ target, Steps p.tables e below ((T'.setVm vm').setTop (F0 m y0.handlerPc lsr [.ref a])) target → Steps p.tables e below ((T'.setTop (F0 m pc lsr rest)).pushFrame (.throwing a)) target := by
      intro target hrest
      have hAt : At T' (F0 m pc lsr rest).method cd below := X.here
      obtain ⟨hgo, hw⟩ := hAt.throwing a
      refine Steps.head hgo hw ?_
      rw [stepThread_throwing (frames_entered hAt.top _), (ox_stepCatch (s := (T'.setTop (F0 m pc lsr rest)).pushFrame (.throwing a)) hfind2).1]
      obtain ⟨g₀, hg⟩ := Option.isSome_iff_exists.mp hAt.top
      obtain ⟨r, hr⟩ := State.topJava?_eq_some.mp hg
      have hr' : (T'.setVm vm').frames = .java g₀ :: r := hr
      rw [State.setTop_of_frames _ hr'] at hrest
      rw [State.pushFrame, State.setTop_of_frames _ hr, State.setFrames_setFrames]
      show Steps p.tables e below (State.setFrames (State.setFrames (T'.setVm vm') _) _) target
      rw [State.setFrames_setFrames, hr]
      exact hrest
    have hW2 : W p l e (ox_rm k) s m args below meth cd T'.heap locs c w Q (F0 m y0.handlerPc lsr [.ref a]) := by
      have hh : y0.handlerPc = q.2.2.1 := by rw [← hyq]
      rw [hh]
      split at hhd
      · rename_i kk' u1 u2 u3 hI
        obtain ⟨rfl, rfl⟩ := Prod.mk.inj (Option.some.inj hhd)
        obtain ⟨hd, hc⟩ := ox_I1 mi hmi _ _ hI
        dsimp only at hd
        unfold ox_chk at hc
        rw [Bool.and_eq_true] at hc
        obtain rfl : u1 = 1 := eq_of_beq hc.2
        exact lv_astore_n hx hb hd rfl hl.has (by rw [← hl.1]; exact hj) rfl (fun ls' hl' => kk ls' (hl.store0 hnl hl'))
      · rename_i kk' u1 u2 u3 hI
        obtain ⟨rfl, rfl⟩ := Prod.mk.inj (Option.some.inj hhd)
        obtain ⟨hd, hc⟩ := ox_I1 mi hmi _ _ hI
        dsimp only at hd
        unfold ox_chk at hc
        rw [Bool.and_eq_true] at hc
        obtain rfl : u1 = 2 := eq_of_beq hc.2
        exact lv_astore hx hb hd hl.has (by rw [← hl.1]; exact hj) rfl (fun ls' hl' => kk ls' (hl.store0 hnl hl'))
      · cases hhd
    obtain ⟨t, a1, b1⟩ := hW2 (T'.setVm vm') rfl X'
    exact ⟨t, hsteps t a1, b1⟩
end OX10
end
section
/-- the machine is sound on the real one -/
theorem ox_snd {l : Launch} {D : va_G} {ad : Nat → Nat} {cy : Nat → ClassId} {L : Nat} {xs : Nat → Int32} (hap : ox_ap ad) (htr : ∀ e : Env, l.admits e → e.platform.stackTraces = false) (n : Nat) : ox_So l D ad cy L xs (ox_Z ad) n :=
  ox_sound hap ⟨fun s U σ hz hW hF hP => ox_Zs hz hW hF hP, fun s hz => hz.1⟩ (ox_throw htr) ox_catch n
def ox_gs (a b : Nat) (st : List Value) : Bool := Nat.blt a 114 && Nat.ble b st.length && Nat.ble b (ox_mL a) && (st.take b).all ox_c1 && Nat.ble (((st.drop b).map Value.category).sum) 8
theorem ox_rc4 {k : Nat} (h : k ≤ 9) : ox_rc k = 4 ∧ ox_rs k = 64 := by
  have hb : Nat.beq k 10 = false := by
    cases e : Nat.beq k 10 with
    | false => rfl
    | true => exact absurd (Nat.eq_of_beq_eq_true e) (by omega)
  simp [ox_rc, ox_rs, hb]
theorem ox_gsd {k a b : Nat} {st : List Value} (h : ox_gs a b st = true) (hk : 1 ≤ k) (hk8 : k ≤ 8) : ox_gd k 0 0 a b st = true := by
  simp only [ox_gs, Bool.and_eq_true] at h
  obtain ⟨⟨⟨⟨g0, g1⟩, g2⟩, g3⟩, g4⟩ := h
  have h1 := ox_rc4 (k := k) (by omega)
  have h2 := ox_rc4 (k := k + 1) (by omega)
  simp only [ox_gd, Bool.and_eq_true]
  refine ⟨⟨⟨⟨⟨⟨⟨g0, Nat.ble_eq_true_of_le hk⟩, g1⟩, g2⟩, g3⟩, ?_⟩, ?_⟩, g4⟩
  · rw [h1.1, h2.1]; rfl
  · rw [h1.2, h2.2]; rfl
section OXS
variable {L k mi pc i a b o : Nat} {ls : List (Option Value)} {st as : List Value} {σ σ' : ox_S} {out : ox_O × ox_S × Nat × Nat} {v : Option Value}
theorem ox_rV (hI : ox_I mi pc = some (.invokevirtual i, 3, a, b)) (hst : (st.take b).reverse = .ref o :: as) (hb : ox_gs a b st = true) (hko : (Nat.beq (ox_k o) (ox_ow a) && Nat.blt o 174) = true) (hk : 1 ≤ k) (hk8 : k ≤ 8)
    (hcall : oz_R L k a 0 (((Value.ref o :: as).map some) ++ List.replicate (ox_mL a - (as.length + 1)) none) [] σ 0 0 (.inl v, σ', 0, 0)) (K : oz_R L (k + 1) mi (pc + 3) ls (v.toList ++ st.drop b) σ' 0 0 out) : oz_R L (k + 1) mi pc ls st σ 0 0 out := by
  obtain ⟨n1, h1⟩ := hcall
  obtain ⟨n2, h2⟩ := K
  refine ⟨max n1 n2 + 1, fun m hm => ?_⟩
  obtain ⟨m', rfl⟩ : ∃ m', m = m' + 1 := ⟨m - 1, by omega⟩
  show ox_F L (ox_x L m') (k + 1) mi pc ls st σ 0 0 = _
  unfold ox_F
  rw [hI]
  simp only [ox_s1]
  rw [ox_gsd hb hk hk8, hst]
  simp only [cond_true, hko]
  rw [h1 m' (by omega)]
  exact h2 m' (by omega)
theorem ox_rS (hI : ox_I mi pc = some (.invokestatic i, 3, a, b)) (hb : ox_gs a b st = true) (ha : Nat.beq a 901 = false) (hk : 1 ≤ k) (hk8 : k ≤ 8)
    (hcall : oz_R L k a 0 (((st.take b).reverse.map some) ++ List.replicate (ox_mL a - b) none) [] σ 0 0 (.inl v, σ', 0, 0)) (K : oz_R L (k + 1) mi (pc + 3) ls (v.toList ++ st.drop b) σ' 0 0 out) : oz_R L (k + 1) mi pc ls st σ 0 0 out := by
  obtain ⟨n1, h1⟩ := hcall
  obtain ⟨n2, h2⟩ := K
  refine ⟨max n1 n2 + 1, fun m hm => ?_⟩
  obtain ⟨m', rfl⟩ : ∃ m', m = m' + 1 := ⟨m - 1, by omega⟩
  show ox_F L (ox_x L m') (k + 1) mi pc ls st σ 0 0 = _
  unfold ox_F
  rw [hI]
  simp only [ox_s1, ha, cond_false]
  rw [ox_gsd hb hk hk8]
  simp only [cond_true]
  rw [h1 m' (by omega)]
  exact h2 m' (by omega)
theorem ox_rT {x b' : Nat} (hI : ox_I mi pc = some (.new i, 3, x, b')) (hx : x < 3) (hk : 5 < k) (hk9 : k ≤ 9) : oz_R L k mi pc ls [] σ 0 0 (.inr x, σ, 1, 6) := by
  refine ⟨1, fun m hm => ?_⟩
  obtain ⟨m', rfl⟩ : ∃ m', m = m' + 1 := ⟨m - 1, by omega⟩
  show ox_F L (ox_x L m') k mi pc ls [] σ 0 0 = _
  unfold ox_F
  rw [hI]
  have h1 := ox_rc4 hk9
  have g1 : Nat.blt x 3 = true := Nat.ble_eq_true_of_le hx
  have g2 : Nat.blt 5 k = true := Nat.ble_eq_true_of_le hk
  simp only [ox_s1, g1, g2, h1.1, h1.2]
  rfl
/-- an array's place, read -/
theorem ox_rI {n : Int32} {r : List Value} {c w : Nat} (hI : ox_I mi pc = some (.iaload, 1, a, b)) (hk : (ox_k o = 10 ∧ o < 174) ∨ ox_k o = 14) (hn : ¬ (n < 0 ∨ ox_n L o ≤ n.toNatClampNeg)) (K : oz_R L k mi (pc + 1) ls (.int (σ o n.toNatClampNeg) :: r) σ c w out) : oz_R L k mi pc ls (.int n :: .ref o :: r) σ c w out :=
  ox_r1 hI (by simp only [ox_s1, ox_a]; rw [if_pos ⟨hk, hn⟩]) K
theorem ox_rZ {n : Int32} {r : List Value} {c w : Nat} (hI : ox_I mi pc = some (.baload, 1, a, b)) (hk : ox_k o = 11 ∧ o < 174) (hn : ¬ (n < 0 ∨ ox_n L o ≤ n.toNatClampNeg)) (K : oz_R L k mi (pc + 1) ls (.int (σ o n.toNatClampNeg) :: r) σ c w out) : oz_R L k mi pc ls (.int n :: .ref o :: r) σ c w out :=
  ox_r1 hI (by simp only [ox_s1, ox_a]; rw [if_pos ⟨hk, hn⟩]) K
theorem ox_rA {n : Int32} {r : List Value} {c w : Nat} (hI : ox_I mi pc = some (.aaload, 1, a, b)) (hk : ox_k o = 12 ∧ o < 174) (hn : ¬ (n < 0 ∨ ox_n L o ≤ n.toNatClampNeg)) (K : oz_R L k mi (pc + 1) ls (.ref (ox_r o n.toNatClampNeg) :: r) σ c w out) : oz_R L k mi pc ls (.int n :: .ref o :: r) σ c w out :=
  ox_r1 hI (by simp only [ox_s1, ox_a]; rw [if_pos ⟨hk, hn⟩]) K
/-- an array's place, written -/
theorem ox_rIs {n x : Int32} {r : List Value} {c w : Nat} (hI : ox_I mi pc = some (.iastore, 1, a, b)) (hk : ox_k o = 10 ∧ o < 174) (hn : ¬ (n < 0 ∨ ox_n L o ≤ n.toNatClampNeg)) (K : oz_R L k mi (pc + 1) ls r (ox_up σ o n.toNatClampNeg x) c w out) : oz_R L k mi pc ls (.int x :: .int n :: .ref o :: r) σ c w out :=
  ox_r1 hI (by simp only [ox_s1, ox_a3]; rw [if_pos ⟨hk, hn⟩]) K
theorem ox_rZs {n x : Int32} {r : List Value} {c w : Nat} (hI : ox_I mi pc = some (.bastore, 1, a, b)) (hk : ox_k o = 11 ∧ o < 174) (hn : ¬ (n < 0 ∨ ox_n L o ≤ n.toNatClampNeg)) (K : oz_R L k mi (pc + 1) ls r (ox_up σ o n.toNatClampNeg (vp_nar .boolean x)) c w out) : oz_R L k mi pc ls (.int x :: .int n :: .ref o :: r) σ c w out :=
  ox_r1 hI (by simp only [ox_s1, ox_a3]; rw [if_pos ⟨hk, hn⟩]) K
theorem ox_rDiv {x y : Int32} {r : List Value} {c w : Nat} (hI : ox_I mi pc = some (.idiv, 1, a, b)) (hy : ¬ y = 0) (K : oz_R L k mi (pc + 1) ls (.int (x / y) :: r) σ c w out) : oz_R L k mi pc ls (.int y :: .int x :: r) σ c w out :=
  ox_r1 hI (by simp only [ox_s1, ox_2]; rw [if_neg hy]) K
theorem ox_rRem {x y : Int32} {r : List Value} {c w : Nat} (hI : ox_I mi pc = some (.irem, 1, a, b)) (hy : ¬ y = 0) (K : oz_R L k mi (pc + 1) ls (.int (x - x / y * y) :: r) σ c w out) : oz_R L k mi pc ls (.int y :: .int x :: r) σ c w out :=
  ox_r1 hI (by simp only [ox_s1, ox_2]; rw [if_neg hy]) K
end OXS
theorem ot_isBelow (L k : Nat) (i n : Int32) (σ : ox_S) : oz_R L k 49 0 [some (.int i), some (.int n)] [] σ 0 0 (.inl (some (.int (if 0 ≤ i ∧ i < n then 1 else 0))), σ, 0, 0) := by
  refine ox_rN 2 rfl (ox_rIf (fun h => ?_) (fun h => ?_))
  · refine ox_rN 1 rfl ?_
    have e : (if 0 ≤ i ∧ i < n then (1 : Int32) else 0) = 0 := if_neg (fun q => Int32.not_le.mpr h q.1)
    rw [e]
    exact ox_rRet rfl rfl rfl
  · refine ox_rN 3 rfl (ox_rIf (fun h2 => ?_) (fun h2 => ?_))
    · refine ox_rN 1 rfl ?_
      have e : (if 0 ≤ i ∧ i < n then (1 : Int32) else 0) = 0 := if_neg (fun q => Int32.not_lt.mpr h2 q.2)
      rw [e]
      exact ox_rRet rfl rfl rfl
    · refine ox_rN 2 rfl ?_
      have e : (if 0 ≤ i ∧ i < n then (1 : Int32) else 0) = 1 := if_pos ⟨Int32.not_lt.mp h, Int32.not_le.mp h2⟩
      rw [e]
      exact ox_rRet rfl rfl rfl
end
section
/-- runs to an end of which Post holds; nothing is made but what a throw makes -/
def oT (L k mi pc : Nat) (ls : List (Option Value)) (st : List Value) (σ : ox_S) (Post : ox_O → ox_S → Prop) : Prop :=
  ∃ o σ', Post o σ' ∧ oz_R L k mi pc ls st σ 0 0 (o, σ', (match o with | .inl _ => 0 | .inr _ => 1), (match o with | .inl _ => 0 | .inr _ => 6))
section OXT
variable {L k mi pc pc' i a b o : Nat} {ls ls' : List (Option Value)} {st st' as r : List Value} {σ σ' : ox_S} {v : Option Value} {Post PostC : ox_O → ox_S → Prop} {x y n : Int32}
theorem oT_N (n : Nat) (h : ox_sN L mi n (pc, ls, st, σ) = some (pc', ls', st', σ')) (K : oT L k mi pc' ls' st' σ' Post) : oT L k mi pc ls st σ Post := by
  obtain ⟨o, s2, hp, hr⟩ := K
  exact ⟨o, s2, hp, ox_rN n h hr⟩
theorem oT_If {C : Prop} [Decidable C] {a b : Nat} (h1 : C → oT L k mi a ls st σ Post) (h2 : ¬ C → oT L k mi b ls st σ Post) : oT L k mi (if C then a else b) ls st σ Post := by
  by_cases h : C
  · rw [if_pos h]; exact h1 h
  · rw [if_neg h]; exact h2 h
theorem oT_Ret {v : Int32} {ty : FieldType} (hI : ox_I mi pc = some (.ireturn, 1, 0, 0)) (ht : ox_rt mi = some ty) (hv : narrow ty (.int v) = .int v) (hp : Post (.inl (some (.int v))) σ) : oT L k mi pc ls [.int v] σ Post :=
  ⟨_, _, hp, ox_rRet hI ht hv⟩
theorem oT_Retv (hI : ox_I mi pc = some (.return_, 1, 0, 0)) (ht : ox_rt mi = none) (hp : Post (.inl none) σ) : oT L k mi pc ls [] σ Post :=
  ⟨_, _, hp, ox_rRetv hI ht⟩
theorem oT_T {b' : Nat} {x : Nat} (hI : ox_I mi pc = some (.new i, 3, x, b')) (hx : x < 3) (hk : 5 < k) (hk9 : k ≤ 9) (hp : Post (.inr x) σ) : oT L k mi pc ls [] σ Post :=
  ⟨_, _, hp, ox_rT hI hx hk hk9⟩
theorem oT_V (hI : ox_I mi pc = some (.invokevirtual i, 3, a, b)) (hst : (st.take b).reverse = .ref o :: as) (hb : ox_gs a b st = true) (hko : (Nat.beq (ox_k o) (ox_ow a) && Nat.blt o 174) = true) (hk : 1 ≤ k) (hk8 : k ≤ 8)
    (hcall : oT L k a 0 (((Value.ref o :: as).map some) ++ List.replicate (ox_mL a - (as.length + 1)) none) [] σ PostC) (hno : ∀ x σ', ¬ PostC (.inr x) σ') (K : ∀ v σ', PostC (.inl v) σ' → oT L (k + 1) mi (pc + 3) ls (v.toList ++ st.drop b) σ' Post) : oT L (k + 1) mi pc ls st σ Post := by
  obtain ⟨o1, s1, hp1, hr1⟩ := hcall
  cases o1 with
  | inr x => exact absurd hp1 (hno x s1)
  | inl v =>
    obtain ⟨o2, s2, hp2, hr2⟩ := K v s1 hp1
    exact ⟨o2, s2, hp2, ox_rV hI hst hb hko hk hk8 hr1 hr2⟩
theorem oT_S (hI : ox_I mi pc = some (.invokestatic i, 3, a, b)) (hb : ox_gs a b st = true) (ha : Nat.beq a 901 = false) (hk : 1 ≤ k) (hk8 : k ≤ 8)
    (hcall : oT L k a 0 (((st.take b).reverse.map some) ++ List.replicate (ox_mL a - b) none) [] σ PostC) (hno : ∀ x σ', ¬ PostC (.inr x) σ') (K : ∀ v σ', PostC (.inl v) σ' → oT L (k + 1) mi (pc + 3) ls (v.toList ++ st.drop b) σ' Post) : oT L (k + 1) mi pc ls st σ Post := by
  obtain ⟨o1, s1, hp1, hr1⟩ := hcall
  cases o1 with
  | inr x => exact absurd hp1 (hno x s1)
  | inl v =>
    obtain ⟨o2, s2, hp2, hr2⟩ := K v s1 hp1
    exact ⟨o2, s2, hp2, ox_rS hI hb ha hk hk8 hr1 hr2⟩
theorem oT_I (hI : ox_I mi pc = some (.iaload, 1, a, b)) (hk : (ox_k o = 10 ∧ o < 174) ∨ ox_k o = 14) (hn : ¬ (n < 0 ∨ ox_n L o ≤ n.toNatClampNeg)) (K : oT L k mi (pc + 1) ls (.int (σ o n.toNatClampNeg) :: r) σ Post) : oT L k mi pc ls (.int n :: .ref o :: r) σ Post := by
  obtain ⟨o2, s2, hp2, hr2⟩ := K
  exact ⟨o2, s2, hp2, ox_rI hI hk hn hr2⟩
theorem oT_Z (hI : ox_I mi pc = some (.baload, 1, a, b)) (hk : ox_k o = 11 ∧ o < 174) (hn : ¬ (n < 0 ∨ ox_n L o ≤ n.toNatClampNeg)) (K : oT L k mi (pc + 1) ls (.int (σ o n.toNatClampNeg) :: r) σ Post) : oT L k mi pc ls (.int n :: .ref o :: r) σ Post := by
  obtain ⟨o2, s2, hp2, hr2⟩ := K
  exact ⟨o2, s2, hp2, ox_rZ hI hk hn hr2⟩
theorem oT_A (hI : ox_I mi pc = some (.aaload, 1, a, b)) (hk : ox_k o = 12 ∧ o < 174) (hn : ¬ (n < 0 ∨ ox_n L o ≤ n.toNatClampNeg)) (K : oT L k mi (pc + 1) ls (.ref (ox_r o n.toNatClampNeg) :: r) σ Post) : oT L k mi pc ls (.int n :: .ref o :: r) σ Post := by
  obtain ⟨o2, s2, hp2, hr2⟩ := K
  exact ⟨o2, s2, hp2, ox_rA hI hk hn hr2⟩
theorem oT_Is (hI : ox_I mi pc = some (.iastore, 1, a, b)) (hk : ox_k o = 10 ∧ o < 174) (hn : ¬ (n < 0 ∨ ox_n L o ≤ n.toNatClampNeg)) (K : oT L k mi (pc + 1) ls r (ox_up σ o n.toNatClampNeg x) Post) : oT L k mi pc ls (.int x :: .int n :: .ref o :: r) σ Post := by
  obtain ⟨o2, s2, hp2, hr2⟩ := K
  exact ⟨o2, s2, hp2, ox_rIs hI hk hn hr2⟩
theorem oT_Zs (hI : ox_I mi pc = some (.bastore, 1, a, b)) (hk : ox_k o = 11 ∧ o < 174) (hn : ¬ (n < 0 ∨ ox_n L o ≤ n.toNatClampNeg)) (K : oT L k mi (pc + 1) ls r (ox_up σ o n.toNatClampNeg (vp_nar .boolean x)) Post) : oT L k mi pc ls (.int x :: .int n :: .ref o :: r) σ Post := by
  obtain ⟨o2, s2, hp2, hr2⟩ := K
  exact ⟨o2, s2, hp2, ox_rZs hI hk hn hr2⟩
theorem oT_Div (hI : ox_I mi pc = some (.idiv, 1, a, b)) (hy : ¬ y = 0) (K : oT L k mi (pc + 1) ls (.int (x / y) :: r) σ Post) : oT L k mi pc ls (.int y :: .int x :: r) σ Post := by
  obtain ⟨o2, s2, hp2, hr2⟩ := K
  exact ⟨o2, s2, hp2, ox_rDiv hI hy hr2⟩
theorem oT_Rem (hI : ox_I mi pc = some (.irem, 1, a, b)) (hy : ¬ y = 0) (K : oT L k mi (pc + 1) ls (.int (x - x / y * y) :: r) σ Post) : oT L k mi pc ls (.int y :: .int x :: r) σ Post := by
  obtain ⟨o2, s2, hp2, hr2⟩ := K
  exact ⟨o2, s2, hp2, ox_rRem hI hy hr2⟩
theorem oT.mono (h : oT L k mi pc ls st σ PostC) (hm : ∀ o σ', PostC o σ' → Post o σ') : oT L k mi pc ls st σ Post := by
  obtain ⟨o, s2, hp, hr⟩ := h
  exact ⟨o, s2, hm _ _ hp, hr⟩
end OXT
/-- an index in range -/
theorem ox_ix {m N : Nat} (h : m < N) (hN : N < 2 ^ 31) : ¬ (nI m < 0 ∨ N ≤ (nI m).toNatClampNeg) := nI_in h hN
theorem ox_inc (m : Nat) : nI m + Int32.ofInt 1 = nI (m + 1) := nI_1 m
/-- how many of the first c values of place p are below v -/
def orkS (σ : ox_S) (p : Nat) (v : Int32) : Nat → Nat
  | 0 => 0
  | c + 1 => orkS σ p v c + (if σ (34 + p) c < v then 1 else 0)
theorem orkS_le (σ : ox_S) (p : Nat) (v : Int32) : ∀ c, orkS σ p v c ≤ c
  | 0 => Nat.le_refl 0
  | c + 1 => by
    have := orkS_le σ p v c
    unfold orkS
    split <;> omega
theorem ox_k34 : ∀ p, p < 4 → ox_k (34 + p) = 10 ∧ 34 + p < 174 ∧ ox_nz (34 + p) = 13 ∧ ox_k (39 + p) = 10 ∧ 39 + p < 174 ∧ ox_nz (39 + p) = 13 ∧ ox_k (18 + p) = 10 ∧ 18 + p < 174 ∧ ox_nz (18 + p) = 12 := by decide
theorem ox_lnN {L o N : Nat} (ho : o < 174) (h : ox_nz o = N) : ox_n L o = N := by
  have hb : Nat.blt o 174 = true := Nat.ble_eq_true_of_le ho
  simp only [ox_n, hb, cond_true, h]
theorem ox_ixL {L o N m : Nat} (ho : o < 174) (h : ox_nz o = N) (hm : m < N) (hN : N < 2 ^ 31) : ¬ (nI m < 0 ∨ ox_n L o ≤ (nI m).toNatClampNeg) := by
  rw [ox_lnN ho h]
  exact nI_in hm hN
theorem ot_rankOf {L k p c : Nat} {v : Int32} {σ : ox_S} (hp : p < 4) (hc : c ≤ 13) (hσ : σ 32 p = nI c) :
    oT L k 18 0 [some (.ref 3), some (.int (nI p)), some (.int v), none, none] [] σ (fun o σ' => o = .inl (some (.int (nI (orkS σ p v c)))) ∧ σ' = σ) := by
  refine oT_N 4 rfl ?_
  have hp4 : (nI p).toNatClampNeg = p := nI_clamp (by omega)
  have loop : ∀ d i, i + d = c → oT L k 18 5 [some (.ref 3), some (.int (nI p)), some (.int v), some (.int (nI (orkS σ p v i))), some (.int (nI i))] [] σ (fun o σ' => o = .inl (some (.int (nI (orkS σ p v c)))) ∧ σ' = σ) := by
    intro d
    induction d with
    | zero =>
      intro i hi
      obtain rfl : i = c := by omega
      refine oT_N 4 rfl (oT_I (o := 32) (n := nI p) rfl (Or.inl ⟨rfl, by decide⟩) (ox_ix (N := 4) hp (by decide)) ?_)
      rw [hp4, hσ]
      refine oT_N 1 rfl (oT_If (fun h => ?_) (fun h => ?_))
      · refine oT_N 1 rfl (oT_Ret rfl rfl rfl ⟨rfl, rfl⟩)
      · exact absurd (nI_le (Nat.le_refl i) (by omega)) h
    | succ d ih =>
      intro i hi
      refine oT_N 4 rfl (oT_I (o := 32) (n := nI p) rfl (Or.inl ⟨rfl, by decide⟩) (ox_ix (N := 4) hp (by decide)) ?_)
      rw [hp4, hσ]
      refine oT_N 1 rfl (oT_If (fun h => ?_) (fun h => ?_))
      · exact absurd h (nI_ge (by omega) (by omega))
      · have h34 := ox_k34 p hp
        refine oT_N 3 rfl (oT_A (o := 33) (n := nI p) rfl ⟨rfl, by decide⟩ (ox_ix (N := 4) hp (by decide)) ?_)
        rw [hp4]
        refine oT_N 1 rfl (oT_I (o := 34 + p) (n := nI i) rfl (Or.inl ⟨h34.1, h34.2.1⟩) (ox_ixL h34.2.1 h34.2.2.1 (by omega) (by decide)) ?_)
        rw [nI_clamp (show i < 2 ^ 31 by omega)]
        have e := ih (i + 1) (by omega)
        refine oT_N 2 rfl (oT_If (fun h2 => ?_) (fun h2 => ?_))
        · refine oT_N 2 rfl ?_
          rw [show orkS σ p v (i + 1) = orkS σ p v i from by simp only [orkS]; rw [if_neg (Int32.not_lt.mpr h2)]; rfl, ← ox_inc i] at e
          exact e
        · refine oT_N 3 rfl ?_
          rw [show orkS σ p v (i + 1) = orkS σ p v i + 1 from by simp only [orkS]; rw [if_pos (Int32.not_le.mp h2)], ← ox_inc i, ← ox_inc (orkS σ p v i)] at e
          exact e
  exact loop c 0 (by omega)
end
section
/-- the code of what the reference says that it throws -/
def oth (f s : Int32) : Int32 := if f = 0 then (if s = 0 then 0 else 2) else 1
theorem ot_throwing {L k : Nat} {f s : Int32} {σ : ox_S} : oT L k 52 0 [some (.ref 7), some (.int f), some (.int s)] [] σ (fun o σ' => o = .inl (some (.int (if oth f s = 0 then 0 else 1))) ∧ σ' = ox_up σ 7 0 (oth f s)) := by
  refine oT_N 3 rfl (oT_If (fun h0 => ?_) (fun h0 => ?_))
  · refine oT_N 2 rfl (oT_If (fun h1 => ?_) (fun h1 => ?_))
    · refine oT_N 5 rfl (oT_If (fun h2 => ?_) (fun h2 => ?_))
      · refine oT_N 1 rfl (oT_Ret rfl rfl rfl ?_)
        simp [oth, h0, h1]
      · exact absurd (show Int32.ofInt 0 ≤ 0 by decide) h2
    · refine oT_N 6 rfl (oT_If (fun h2 => ?_) (fun h2 => ?_))
      · exact absurd h2 (show ¬ Int32.ofInt 2 ≤ 0 by decide)
      · refine oT_N 2 rfl (oT_Ret rfl rfl rfl ?_)
        simp [oth, h0, h1]
  · refine oT_N 6 rfl (oT_If (fun h1 => ?_) (fun h1 => ?_))
    · exact absurd h1 (show ¬ Int32.ofInt 1 ≤ 0 by decide)
    · refine oT_N 2 rfl (oT_Ret rfl rfl rfl ?_)
      simp [oth, h0]
theorem ot_isOf {L k : Nat} {i n : Int32} {σ : ox_S} : oT L k 57 0 [some (.int i), some (.int n)] [] σ (fun o σ' => o = .inl (some (.int (if 0 ≤ i ∧ i < n then 1 else 0))) ∧ σ' = σ) := by
  refine oT_N 2 rfl (oT_If (fun h => ?_) (fun h => ?_))
  · refine oT_N 1 rfl (oT_Ret rfl rfl rfl ⟨?_, rfl⟩)
    rw [if_neg (fun q => Int32.not_le.mpr h q.1)]
    rfl
  · refine oT_N 3 rfl (oT_If (fun h2 => ?_) (fun h2 => ?_))
    · refine oT_N 1 rfl (oT_Ret rfl rfl rfl ⟨?_, rfl⟩)
      rw [if_neg (fun q => Int32.not_lt.mpr h2 q.2)]
      rfl
    · refine oT_N 2 rfl (oT_Ret rfl rfl rfl ⟨?_, rfl⟩)
      rw [if_pos ⟨Int32.not_lt.mp h, Int32.not_le.mp h2⟩]
      rfl
theorem ot_isBelow' {L k : Nat} {i n : Int32} {σ : ox_S} : oT L k 49 0 [some (.int i), some (.int n)] [] σ (fun o σ' => o = .inl (some (.int (if 0 ≤ i ∧ i < n then 1 else 0))) ∧ σ' = σ) :=
  ⟨_, _, ⟨rfl, rfl⟩, ot_isBelow L k i n σ⟩
/-- OrderAxioms.thread -/
theorem ot_thread {L k : Nat} {σ : ox_S} (hk : 6 ≤ k) (hk9 : k ≤ 9) : oT L k 32 0 [some (.ref 0)] [] σ (fun o σ' => if σ 1 0 < 4 then o = .inl (some (.int (σ 1 0 + 1 - 1))) ∧ σ' = ox_up σ 1 0 (σ 1 0 + 1) else o = .inr 0 ∧ σ' = σ) := by
  refine oT_N 5 rfl (oT_If (fun (h0 : σ 1 0 < 4) => ?_) (fun (h0 : ¬ σ 1 0 < 4) => ?_))
  · refine oT_N 12 rfl (oT_Ret rfl rfl rfl ?_)
    rw [if_pos h0]
    exact ⟨rfl, rfl⟩
  · refine oT_T rfl (by decide) (by omega) (by omega) ?_
    rw [if_neg h0]
    exact ⟨rfl, rfl⟩
/-- the reference's thread -/
theorem ot_mthread {L k : Nat} {σ : ox_S} (hk : 2 ≤ k) (hk9 : k ≤ 9) : oT L k 53 0 [some (.ref 7)] [] σ (fun o σ' => if σ 7 1 = 4 then (∃ v, o = .inl (some (.int v))) ∧ σ' = ox_up σ 7 0 1 else o = .inl (some (.int (σ 7 1 + 1 - 1))) ∧ σ' = ox_up (ox_up σ 7 0 0) 7 1 (σ 7 1 + 1)) := by
  obtain ⟨k, rfl⟩ : ∃ k', k = k' + 1 := ⟨k - 1, by omega⟩
  refine oT_N 5 rfl (oT_If (fun (h0 : σ 7 1 = 4) => ?_) (fun (h0 : ¬ σ 7 1 = 4) => ?_))
  · refine oT_N 3 rfl (oT_V rfl rfl rfl rfl (by omega) (by omega) ot_throwing (fun x σ2 h => by cases h.1) (fun v σ2 hv => ?_))
    obtain ⟨hv, rfl⟩ := hv
    cases hv
    refine oT_N 1 rfl (oT_If (fun h1 => ?_) (fun h1 => ?_))
    · exact absurd h1 (by decide)
    · refine oT_N 1 rfl (oT_Ret rfl rfl rfl ?_)
      rw [if_pos h0]
      exact ⟨⟨_, rfl⟩, rfl⟩
  · refine oT_N 2 rfl (oT_V rfl rfl rfl rfl (by omega) (by omega) ot_throwing (fun x σ2 h => by cases h.1) (fun v σ2 hv => ?_))
    obtain ⟨hv, rfl⟩ := hv
    cases hv
    refine oT_N 1 rfl (oT_If (fun h1 => ?_) (fun h1 => ?_))
    · refine oT_N 10 rfl (oT_Ret rfl rfl rfl ?_)
      rw [if_neg h0]
      exact ⟨rfl, rfl⟩
    · exact absurd rfl h1
end
section
/-- a program: threads, events, and of each event its thread, kind, place, value, and what depends on it -/
abbrev oPr : Type := Nat × Nat × (Nat → Nat) × (Nat → Nat) × (Nat → Nat) × (Nat → Int32) × (Nat → Nat → Bool)
abbrev oPr.T (P : oPr) : Nat := P.1
abbrev oPr.n (P : oPr) : Nat := P.2.1
abbrev oPr.th (P : oPr) : Nat → Nat := P.2.2.1
abbrev oPr.kd (P : oPr) : Nat → Nat := P.2.2.2.1
abbrev oPr.pl (P : oPr) : Nat → Nat := P.2.2.2.2.1
abbrev oPr.vl (P : oPr) : Nat → Int32 := P.2.2.2.2.2.1
abbrev oPr.dp (P : oPr) : Nat → Nat → Bool := P.2.2.2.2.2.2
def oPr.ok (P : oPr) : Prop := P.T ≤ 4 ∧ P.n ≤ 12 ∧ ∀ e, e < P.n → P.th e < P.T ∧ P.kd e ≤ 2 ∧ (P.kd e < 2 → P.pl e < 4)
/-- the reference holds the program -/
def oM (σ : ox_S) (P : oPr) : Prop := P.ok ∧ σ 7 1 = nI P.T ∧ σ 7 2 = nI P.n ∧ ∀ e, e < P.n → σ 43 e = nI (P.th e) ∧ σ 44 e = nI (P.kd e) ∧ σ 45 e = (if P.kd e < 2 then nI (P.pl e) else -1) ∧ σ 46 e = P.vl e ∧ ∀ b, b < P.n → σ 47 (12 * e + b) = (if P.dp e b then 1 else 0)
/-- reads among the first m events; writes to p among them -/
def ocR (P : oPr) : Nat → Nat
  | 0 => 0
  | m + 1 => ocR P m + (if P.kd m = 0 then 1 else 0)
def ocW (P : oPr) (p : Nat) : Nat → Nat
  | 0 => 0
  | m + 1 => ocW P p m + (if P.kd m = 1 ∧ P.pl m = p then 1 else 0)
theorem ocR_le (P : oPr) : ∀ m, ocR P m ≤ m
  | 0 => Nat.le_refl 0
  | m + 1 => by
    have := ocR_le P m
    unfold ocR
    split <;> omega
theorem ocW_le (P : oPr) (p : Nat) : ∀ m, ocW P p m ≤ m
  | 0 => Nat.le_refl 0
  | m + 1 => by
    have := ocW_le P p m
    unfold ocW
    split <;> omega
theorem ox_add0 (x : Int32) : x + Int32.ofInt 0 = x := Int32.add_zero x
theorem ot_reads {L k : Nat} {σ : ox_S} {P : oPr} (h : oM σ P) : oT L k 63 0 [some (.ref 7), none, none] [] σ (fun o σ' => o = .inl (some (.int (nI (ocR P P.n)))) ∧ σ' = σ) := by
  obtain ⟨⟨hT, hn, hok⟩, h1, h2, h3⟩ := h
  refine oT_N 4 rfl ?_
  have loop : ∀ d i, i + d = P.n → oT L k 63 4 [some (.ref 7), some (.int (nI (ocR P i))), some (.int (nI i))] [] σ (fun o σ' => o = .inl (some (.int (nI (ocR P P.n)))) ∧ σ' = σ) := by
    intro d
    induction d with
    | zero =>
      intro i hi
      refine oT_N 4 rfl (oT_If (fun (h0 : σ 7 2 ≤ nI i) => ?_) (fun (h0 : ¬ σ 7 2 ≤ nI i) => ?_))
      · obtain rfl : i = P.n := by omega
        exact oT_N 1 rfl (oT_Ret rfl rfl rfl ⟨rfl, rfl⟩)
      · rw [h2] at h0
        exact absurd (nI_le (by omega) (by omega)) h0
    | succ d ih =>
      intro i hi
      have e := ih (i + 1) (by omega)
      obtain ⟨g1, g2, g3, -⟩ := h3 i (by omega)
      refine oT_N 4 rfl (oT_If (fun (h0 : σ 7 2 ≤ nI i) => ?_) (fun (h0 : ¬ σ 7 2 ≤ nI i) => ?_))
      · rw [h2] at h0
        exact absurd h0 (nI_ge (by omega) (by omega))
      · refine oT_N 4 rfl (oT_I (o := 44) (n := nI i) rfl (Or.inl ⟨rfl, by decide⟩) (ox_ix (N := 12) (by omega) (by decide)) ?_)
        rw [nI_clamp (show i < 2 ^ 31 by omega), g2]
        refine oT_N 1 rfl (oT_If (fun (h9 : nI (P.kd i) = 0) => ?_) (fun (h9 : ¬ nI (P.kd i) = 0) => ?_))
        · have hk : P.kd i = 0 := (nI_eq (by have := hok i (by omega); omega) (by decide)).mp h9
          refine oT_N 6 rfl ?_
          rw [show ocR P (i + 1) = ocR P i + 1 by simp only [ocR]; rw [if_pos hk], ← ox_inc i, ← ox_inc (ocR P i)] at e
          exact e
        · have hk : ¬ P.kd i = 0 := fun q => h9 (by rw [q]; rfl)
          refine oT_N 5 rfl ?_
          rw [show ocR P (i + 1) = ocR P i by simp only [ocR]; rw [if_neg hk]; rfl, ← ox_inc i] at e
          rw [← ox_add0 (nI (ocR P i))] at e
          exact e
  exact loop P.n 0 (by omega)
theorem ox_kdI {P : oPr} {e m : Nat} (h : P.kd e ≤ 2) (hm : m < 2 ^ 31) : nI (P.kd e) = nI m ↔ P.kd e = m := nI_eq (by omega) hm
theorem ox_plI {P : oPr} {e p : Nat} (hk : P.kd e < 2) (h : P.kd e < 2 → P.pl e < 4) (hp : p < 2 ^ 31) : (if P.kd e < 2 then nI (P.pl e) else -1) = nI p ↔ P.pl e = p := by
  rw [if_pos hk]
  exact nI_eq (by have := h hk; omega) hp
theorem ot_writes {L k : Nat} {σ : ox_S} {P : oPr} {p : Nat} (h : oM σ P) (hp : p < 2 ^ 31) : oT L k 64 0 [some (.ref 7), some (.int (nI p)), none, none] [] σ (fun o σ' => o = .inl (some (.int (nI (ocW P p P.n)))) ∧ σ' = σ) := by
  obtain ⟨⟨hT, hn, hok⟩, h1, h2, h3⟩ := h
  refine oT_N 4 rfl ?_
  have loop : ∀ d i, i + d = P.n → oT L k 64 4 [some (.ref 7), some (.int (nI p)), some (.int (nI (ocW P p i))), some (.int (nI i))] [] σ (fun o σ' => o = .inl (some (.int (nI (ocW P p P.n)))) ∧ σ' = σ) := by
    intro d
    induction d with
    | zero =>
      intro i hi
      refine oT_N 4 rfl (oT_If (fun (h0 : σ 7 2 ≤ nI i) => ?_) (fun (h0 : ¬ σ 7 2 ≤ nI i) => ?_))
      · obtain rfl : i = P.n := by omega
        exact oT_N 1 rfl (oT_Ret rfl rfl rfl ⟨rfl, rfl⟩)
      · rw [h2] at h0
        exact absurd (nI_le (by omega) (by omega)) h0
    | succ d ih =>
      intro i hi
      have e := ih (i + 1) (by omega)
      obtain ⟨g1, g2, g3, -⟩ := h3 i (by omega)
      obtain ⟨o1, o2, o3⟩ := hok i (by omega)
      refine oT_N 4 rfl (oT_If (fun (h0 : σ 7 2 ≤ nI i) => ?_) (fun (h0 : ¬ σ 7 2 ≤ nI i) => ?_))
      · rw [h2] at h0
        exact absurd h0 (nI_ge (by omega) (by omega))
      · refine oT_N 4 rfl (oT_I (o := 44) (n := nI i) rfl (Or.inl ⟨rfl, by decide⟩) (ox_ix (N := 12) (by omega) (by decide)) ?_)
        rw [nI_clamp (show i < 2 ^ 31 by omega), g2]
        have hno : ¬ (P.kd i = 1 ∧ P.pl i = p) → oT L k 64 4 [some (.ref 7), some (.int (nI p)), some (.int (nI (ocW P p i) + Int32.ofInt 0)), some (.int (nI i + Int32.ofInt 1))] [] σ (fun o σ' => o = .inl (some (.int (nI (ocW P p P.n)))) ∧ σ' = σ) := fun hk => by
          rw [show ocW P p (i + 1) = ocW P p i by simp only [ocW]; rw [if_neg hk]; rfl, ← ox_inc i] at e
          rw [ox_add0]
          exact e
        refine oT_N 2 rfl (oT_If (fun (h9 : nI (P.kd i) = nI 1) => ?_) (fun (h9 : ¬ nI (P.kd i) = nI 1) => ?_))
        · have hk : P.kd i = 1 := (ox_kdI o2 (by decide)).mp h9
          refine oT_N 3 rfl (oT_I (o := 45) (n := nI i) rfl (Or.inl ⟨rfl, by decide⟩) (ox_ix (N := 12) (by omega) (by decide)) ?_)
          rw [nI_clamp (show i < 2 ^ 31 by omega), g3]
          refine oT_N 2 rfl (oT_If (fun (h8 : (if P.kd i < 2 then nI (P.pl i) else -1) = nI p) => ?_) (fun (h8 : ¬ (if P.kd i < 2 then nI (P.pl i) else -1) = nI p) => ?_))
          · have hq := (ox_plI (by omega) o3 hp).mp h8
            refine oT_N 6 rfl ?_
            rw [show ocW P p (i + 1) = ocW P p i + 1 by simp only [ocW]; rw [if_pos ⟨hk, hq⟩], ← ox_inc i, ← ox_inc (ocW P p i)] at e
            exact e
          · exact oT_N 5 rfl (hno (fun q => h8 ((ox_plI (by omega) o3 hp).mpr q.2)))
        · exact oT_N 5 rfl (hno (fun q => h9 (by rw [q.1])))
  exact loop P.n 0 (by omega)
end
section
/-- the reference's 'in' holds 0 and 1 alone -/
def oZ1 (σ : ox_S) (o N : Nat) : Prop := ∀ q, q < N → σ o q = 0 ∨ σ o q = 1
theorem ox_nb {x : Int32} (h : x = 0 ∨ x = 1) : narrow .boolean (.int x) = .int x := by
  rcases h with rfl | rfl <;> rfl
theorem ox_i3 (r a b : Nat) : (Int16.ofInt 144).toInt32 * nI r + (Int8.ofInt 12).toInt32 * nI a + nI b = nI (144 * r + 12 * a + b) := by
  rw [show (Int16.ofInt 144).toInt32 = nI 144 from rfl, show (Int8.ofInt 12).toInt32 = nI 12 from rfl, pk_mul, pk_mul, nI_add, nI_add]
theorem ot_is {L k r a b : Nat} {σ : ox_S} (hz : oZ1 σ 56 5760) (hr : r < 40) (ha : a < 12) (hb : b < 12) : oT L k 72 0 [some (.ref 7), some (.int (nI r)), some (.int (nI a)), some (.int (nI b))] [] σ (fun o σ' => o = .inl (some (.int (σ 56 (144 * r + 12 * a + b)))) ∧ σ' = σ) := by
  have hq : 144 * r + 12 * a + b < 5760 := by omega
  refine oT_N 11 rfl (oT_Z (o := 56) (n := (Int16.ofInt 144).toInt32 * nI r + (Int8.ofInt 12).toInt32 * nI a + nI b) rfl ⟨rfl, by decide⟩ (by rw [ox_i3]; exact ox_ix (N := 5760) hq (by decide)) ?_)
  rw [ox_i3, nI_clamp (by omega)]
  exact oT_Ret rfl rfl (ox_nb (hz _ hq)) ⟨rfl, rfl⟩
/-- is there one among the first m between a and b -/
def oJn (σ : ox_S) (r s a b : Nat) : Nat → Bool
  | 0 => false
  | m + 1 => oJn σ r s a b m || (decide (σ 56 (144 * r + 12 * a + m) = 1) && decide (σ 56 (144 * s + 12 * m + b) = 1))
theorem oJn_true {σ : ox_S} {r s a b i n : Nat} (h : oJn σ r s a b i = true) (hi : i ≤ n) : oJn σ r s a b n = true := by
  induction n with
  | zero => obtain rfl : i = 0 := by omega
            exact h
  | succ n ih =>
    rcases Nat.lt_or_ge n i with q | q
    · obtain rfl : i = n + 1 := by omega
      exact h
    · simp only [oJn, ih q, Bool.true_or]
theorem ot_isJoined {L k r s a b n : Nat} {σ : ox_S} (hz : oZ1 σ 56 5760) (hn : σ 7 2 = nI n) (hn12 : n ≤ 12) (hr : r < 40) (hs : s < 40) (ha : a < 12) (hb : b < 12) (hk : 2 ≤ k) (hk9 : k ≤ 9) :
    oT L k 73 0 [some (.ref 7), some (.int (nI r)), some (.int (nI s)), some (.int (nI a)), some (.int (nI b)), none, none] [] σ (fun o σ' => o = .inl (some (.int (if oJn σ r s a b n then 1 else 0))) ∧ σ' = σ) := by
  obtain ⟨k, rfl⟩ : ∃ k', k = k' + 1 := ⟨k - 1, by omega⟩
  refine oT_N 4 rfl ?_
  have hend : ∀ x : Bool, narrow .boolean (.int (if x then 1 else 0)) = .int (if x then 1 else 0) := fun x => by cases x <;> rfl
  have loop : ∀ d i, i + d = n → oT L (k + 1) 73 6 [some (.ref 7), some (.int (nI r)), some (.int (nI s)), some (.int (nI a)), some (.int (nI b)), some (.int (if oJn σ r s a b i then 1 else 0)), some (.int (nI i))] [] σ (fun o σ' => o = .inl (some (.int (if oJn σ r s a b n then 1 else 0))) ∧ σ' = σ) := by
    intro d
    induction d with
    | zero =>
      intro i hi
      obtain rfl : i = n := by omega
      refine oT_N 4 rfl (oT_If (fun (h0 : σ 7 2 ≤ nI i) => ?_) (fun (h0 : ¬ σ 7 2 ≤ nI i) => ?_))
      · exact oT_N 1 rfl (oT_Ret rfl rfl (hend _) ⟨rfl, rfl⟩)
      · rw [hn] at h0
        exact absurd (nI_le (by omega) (by omega)) h0
    | succ d ih =>
      intro i hi
      have e := ih (i + 1) (by omega)
      refine oT_N 4 rfl (oT_If (fun (h0 : σ 7 2 ≤ nI i) => ?_) (fun (h0 : ¬ σ 7 2 ≤ nI i) => ?_))
      · rw [hn] at h0
        exact absurd h0 (nI_ge (by omega) (by omega))
      · cases hj : oJn σ r s a b i with
        | true =>
          rw [if_pos rfl]
          refine oT_N 2 rfl (oT_If (fun (h1 : (1 : Int32) = 0) => absurd h1 (by decide)) (fun _ => ?_))
          refine oT_N 1 rfl (oT_Ret rfl rfl rfl ⟨?_, rfl⟩)
          rw [oJn_true hj (by omega)]
          rfl
        | false =>
          rw [if_neg (by decide)]
          refine oT_N 2 rfl (oT_If (fun _ => ?_) (fun (h1 : ¬ (0 : Int32) = 0) => absurd rfl h1))
          have g1 := hz (144 * r + 12 * a + i) (by omega)
          have g2 := hz (144 * s + 12 * i + b) (by omega)
          refine oT_N 4 rfl (oT_V rfl rfl rfl rfl (by omega) (by omega) (ot_is hz hr ha (by omega)) (fun x σ2 h => by cases h.1) (fun v σ2 hv => ?_))
          obtain ⟨hv, rfl⟩ := hv
          cases hv
          refine oT_N 1 rfl (oT_If (fun (h2 : σ2 56 (144 * r + 12 * a + i) = 0) => ?_) (fun (h2 : ¬ σ2 56 (144 * r + 12 * a + i) = 0) => ?_))
          · refine oT_N 4 rfl ?_
            rw [show oJn σ2 r s a b (i + 1) = false by simp [oJn, hj, h2], ← ox_inc i] at e
            exact e
          · refine oT_N 4 rfl (oT_V rfl rfl rfl rfl (by omega) (by omega) (ot_is hz hs (by omega) hb) (fun x σ2 h => by cases h.1) (fun v σ3 hv => ?_))
            obtain ⟨hv, rfl⟩ := hv
            cases hv
            have h2' : σ3 56 (144 * r + 12 * a + i) = 1 := by rcases g1 with q | q; exact absurd q h2; exact q
            refine oT_N 1 rfl (oT_If (fun (h3 : σ3 56 (144 * s + 12 * i + b) = 0) => ?_) (fun (h3 : ¬ σ3 56 (144 * s + 12 * i + b) = 0) => ?_))
            · refine oT_N 4 rfl ?_
              rw [show oJn σ3 r s a b (i + 1) = false by simp [oJn, hj, h3], ← ox_inc i] at e
              exact e
            · have h3' : σ3 56 (144 * s + 12 * i + b) = 1 := by rcases g2 with q | q; exact absurd q h3; exact q
              refine oT_N 5 rfl ?_
              rw [show oJn σ3 r s a b (i + 1) = true by simp [oJn, h2', h3'], ← ox_inc i] at e
              exact e
  exact loop n 0 (by omega)
end
section
theorem ot_sourceAt {L k e : Nat} {σ : ox_S} {P : oPr} (h : oM σ P) (he : e < P.n) : oT L k 69 0 [some (.ref 7), some (.int (nI e)), none, none] [] σ (fun o σ' => o = .inl (some (.int (σ 52 (ocR P e)))) ∧ σ' = σ) := by
  obtain ⟨⟨hT, hn, hok⟩, h1, h2, h3⟩ := h
  refine oT_N 4 rfl ?_
  have loop : ∀ d i, i + d = e → oT L k 69 4 [some (.ref 7), some (.int (nI e)), some (.int (nI (ocR P i))), some (.int (nI i))] [] σ (fun o σ' => o = .inl (some (.int (σ 52 (ocR P e)))) ∧ σ' = σ) := by
    intro d
    induction d with
    | zero =>
      intro i hi
      obtain rfl : i = e := by omega
      have hc := ocR_le P i
      refine oT_N 3 rfl (oT_If (fun (h0 : nI i ≤ nI i) => ?_) (fun (h0 : ¬ nI i ≤ nI i) => absurd (nI_le (Nat.le_refl i) (by omega)) h0))
      refine oT_N 3 rfl (oT_I (o := 52) (n := nI (ocR P i)) rfl (Or.inl ⟨rfl, by decide⟩) (ox_ix (N := 12) (by omega) (by decide)) ?_)
      rw [nI_clamp (by omega)]
      exact oT_Ret rfl rfl rfl ⟨rfl, rfl⟩
    | succ d ih =>
      intro i hi
      have e9 := ih (i + 1) (by omega)
      obtain ⟨g1, g2, g3, -⟩ := h3 i (by omega)
      refine oT_N 3 rfl (oT_If (fun (h0 : nI e ≤ nI i) => absurd h0 (nI_ge (by omega) (by omega))) (fun _ => ?_))
      refine oT_N 4 rfl (oT_I (o := 44) (n := nI i) rfl (Or.inl ⟨rfl, by decide⟩) (ox_ix (N := 12) (by omega) (by decide)) ?_)
      rw [nI_clamp (show i < 2 ^ 31 by omega), g2]
      refine oT_N 1 rfl (oT_If (fun (h9 : nI (P.kd i) = 0) => ?_) (fun (h9 : ¬ nI (P.kd i) = 0) => ?_))
      · have hk : P.kd i = 0 := (nI_eq (by have := hok i (by omega); omega) (by decide)).mp h9
        refine oT_N 6 rfl ?_
        rw [show ocR P (i + 1) = ocR P i + 1 by simp only [ocR]; rw [if_pos hk], ← ox_inc i, ← ox_inc (ocR P i)] at e9
        exact e9
      · have hk : ¬ P.kd i = 0 := fun q => h9 (by rw [q]; rfl)
        refine oT_N 5 rfl ?_
        rw [show ocR P (i + 1) = ocR P i by simp only [ocR]; rw [if_neg hk]; rfl, ← ox_inc i, ← ox_add0 (nI (ocR P i))] at e9
        exact e9
  exact loop e 0 (by omega)
/-- a fence of a's thread behind a, ahead of m -/
def oFn (P : oPr) (a : Nat) : Nat → Bool
  | 0 => false
  | m + 1 => oFn P a m || (decide (a < m) && decide (P.kd m = 2) && decide (P.th m = P.th a))
theorem oFn_low {P : oPr} {a : Nat} : ∀ m, m ≤ a + 1 → oFn P a m = false
  | 0, _ => rfl
  | m + 1, h => by
    have ih := oFn_low (P := P) (a := a) m (by omega)
    simp only [oFn, ih, Bool.false_or, show ¬ a < m by omega, decide_false, Bool.false_and]
theorem ot_isFenced {L k a b : Nat} {σ : ox_S} {P : oPr} (h : oM σ P) (ha : a < P.n) (hb : b < P.n) : oT L k 70 0 [some (.ref 7), some (.int (nI a)), some (.int (nI b)), none, none] [] σ (fun o σ' => o = .inl (some (.int (if oFn P a b && decide (P.kd a ≠ 2) && decide (P.kd b ≠ 2) then 1 else 0))) ∧ σ' = σ) := by
  obtain ⟨⟨hT, hn, hok⟩, h1, h2, h3⟩ := h
  obtain ⟨ga1, ga2, -⟩ := h3 a ha
  obtain ⟨gb1, gb2, -⟩ := h3 b hb
  obtain ⟨oa1, oa2, -⟩ := hok a ha
  obtain ⟨ob1, ob2, -⟩ := hok b hb
  refine oT_N 6 rfl ?_
  have hexit : ∀ i, b ≤ i → i < 2 ^ 31 → oT L k 70 7 [some (.ref 7), some (.int (nI a)), some (.int (nI b)), some (.int (if oFn P a b then 1 else 0)), some (.int (nI i))] [] σ (fun o σ' => o = .inl (some (.int (if oFn P a b && decide (P.kd a ≠ 2) && decide (P.kd b ≠ 2) then 1 else 0))) ∧ σ' = σ) := by
    intro i hi hi2
    refine oT_N 3 rfl (oT_If (fun _ => ?_) (fun (h0 : ¬ nI b ≤ nI i) => absurd (nI_le hi hi2) h0))
    cases hf : oFn P a b with
    | false =>
      refine oT_N 2 rfl (oT_If (fun _ => ?_) (fun (h1 : ¬ (0 : Int32) = 0) => absurd rfl h1))
      exact oT_N 1 rfl (oT_Ret rfl rfl rfl ⟨rfl, rfl⟩)
    | true =>
      refine oT_N 2 rfl (oT_If (fun (h1 : (1 : Int32) = 0) => absurd h1 (by decide)) (fun _ => ?_))
      refine oT_N 3 rfl (oT_I (o := 44) (n := nI a) rfl (Or.inl ⟨rfl, by decide⟩) (ox_ix (N := 12) (by omega) (by decide)) ?_)
      rw [nI_clamp (show a < 2 ^ 31 by omega), ga2]
      refine oT_N 2 rfl (oT_If (fun (h2 : nI (P.kd a) = nI 2) => ?_) (fun (h2 : ¬ nI (P.kd a) = nI 2) => ?_))
      · have hk := (ox_kdI oa2 (by decide)).mp h2
        refine oT_N 1 rfl (oT_Ret rfl rfl rfl ⟨?_, rfl⟩)
        simp [hk]
      · have hk : P.kd a ≠ 2 := fun q => h2 (by rw [q])
        refine oT_N 3 rfl (oT_I (o := 44) (n := nI b) rfl (Or.inl ⟨rfl, by decide⟩) (ox_ix (N := 12) (by omega) (by decide)) ?_)
        rw [nI_clamp (show b < 2 ^ 31 by omega), gb2]
        refine oT_N 2 rfl (oT_If (fun (h3 : nI (P.kd b) = nI 2) => ?_) (fun (h3 : ¬ nI (P.kd b) = nI 2) => ?_))
        · have hk2 := (ox_kdI ob2 (by decide)).mp h3
          refine oT_N 1 rfl (oT_Ret rfl rfl rfl ⟨?_, rfl⟩)
          simp [hk2]
        · have hk2 : P.kd b ≠ 2 := fun q => h3 (by rw [q])
          refine oT_N 2 rfl (oT_Ret rfl rfl rfl ⟨?_, rfl⟩)
          simp [hk, hk2]
  have loop : ∀ d i, a < i → i + d = b → oT L k 70 7 [some (.ref 7), some (.int (nI a)), some (.int (nI b)), some (.int (if oFn P a i then 1 else 0)), some (.int (nI i))] [] σ (fun o σ' => o = .inl (some (.int (if oFn P a b && decide (P.kd a ≠ 2) && decide (P.kd b ≠ 2) then 1 else 0))) ∧ σ' = σ) := by
    intro d
    induction d with
    | zero =>
      intro i hai hi
      obtain rfl : i = b := by omega
      exact hexit i (Nat.le_refl i) (by omega)
    | succ d ih =>
      intro i hai hi
      have e := ih (i + 1) (by omega) (by omega)
      obtain ⟨g1, g2, -⟩ := h3 i (by omega)
      obtain ⟨o1, o2, -⟩ := hok i (by omega)
      refine oT_N 3 rfl (oT_If (fun (h0 : nI b ≤ nI i) => absurd h0 (nI_ge (by omega) (by omega))) (fun _ => ?_))
      cases hf : oFn P a i with
      | true =>
        refine oT_N 2 rfl (oT_If (fun (h1 : (1 : Int32) = 0) => absurd h1 (by decide)) (fun _ => ?_))
        refine oT_N 5 rfl ?_
        rw [show oFn P a (i + 1) = true by simp [oFn, hf], ← ox_inc i] at e
        exact e
      | false =>
        refine oT_N 2 rfl (oT_If (fun _ => ?_) (fun (h1 : ¬ (0 : Int32) = 0) => absurd rfl h1))
        refine oT_N 3 rfl (oT_I (o := 44) (n := nI i) rfl (Or.inl ⟨rfl, by decide⟩) (ox_ix (N := 12) (by omega) (by decide)) ?_)
        rw [nI_clamp (show i < 2 ^ 31 by omega), g2]
        refine oT_N 2 rfl (oT_If (fun (h2 : nI (P.kd i) = nI 2) => ?_) (fun (h2 : ¬ nI (P.kd i) = nI 2) => ?_))
        · have hk := (ox_kdI o2 (by decide)).mp h2
          refine oT_N 3 rfl (oT_I (o := 43) (n := nI i) rfl (Or.inl ⟨rfl, by decide⟩) (ox_ix (N := 12) (by omega) (by decide)) ?_)
          rw [nI_clamp (show i < 2 ^ 31 by omega), g1]
          refine oT_N 3 rfl (oT_I (o := 43) (n := nI a) rfl (Or.inl ⟨rfl, by decide⟩) (ox_ix (N := 12) (by omega) (by decide)) ?_)
          rw [nI_clamp (show a < 2 ^ 31 by omega), ga1]
          refine oT_N 1 rfl (oT_If (fun (h4 : nI (P.th i) = nI (P.th a)) => ?_) (fun (h4 : ¬ nI (P.th i) = nI (P.th a)) => ?_))
          · have ht := (nI_eq (by omega) (by omega)).mp h4
            refine oT_N 5 rfl ?_
            rw [show oFn P a (i + 1) = true by simp [oFn, hai, hk, ht], ← ox_inc i] at e
            exact e
          · have ht : P.th i ≠ P.th a := fun q => h4 (by rw [q])
            refine oT_N 4 rfl ?_
            rw [show oFn P a (i + 1) = false by simp [oFn, hf, ht], ← ox_inc i] at e
            exact e
        · have hk : P.kd i ≠ 2 := fun q => h2 (by rw [q])
          refine oT_N 4 rfl ?_
          rw [show oFn P a (i + 1) = false by simp [oFn, hf, hk], ← ox_inc i] at e
          exact e
  rcases Nat.lt_or_ge (a + 1) b with q | q
  · have e := loop (b - (a + 1)) (a + 1) (by omega) (by omega)
    rw [oFn_low (a + 1) (Nat.le_refl _), ← ox_inc a] at e
    exact e
  · have e := hexit (a + 1) q (by omega)
    rw [oFn_low b q, ← ox_inc a] at e
    rw [oFn_low b q]
    exact e
end
section
/-- is b in relation r with a, as the reference's 'in' says -/
def oB (σ : ox_S) (r a b : Nat) : Bool := decide (σ 56 (144 * r + 12 * a + b) = 1)
theorem ot_isB {L k r a b : Nat} {σ : ox_S} (hz : oZ1 σ 56 5760) (hr : r < 40) (ha : a < 12) (hb : b < 12) : oT L k 72 0 [some (.ref 7), some (.int (nI r)), some (.int (nI a)), some (.int (nI b))] [] σ (fun o σ' => o = .inl (some (.int (if oB σ r a b then 1 else 0))) ∧ σ' = σ) :=
  (ot_is hz hr ha hb).mono (fun o σ' h => by
    obtain ⟨rfl, rfl⟩ := h
    refine ⟨?_, rfl⟩
    rcases hz (144 * r + 12 * a + b) (by omega) with q | q <;> simp [oB, q])
/-- what a made relation says, by its how, over what it is made of -/
def oMd (σ : ox_S) (n h x y a b : Nat) : Bool := match h with
  | 0 => oB σ x a b || oB σ y a b
  | 1 => oB σ x a b && oB σ y a b
  | 2 => oB σ x a b && !(oB σ y a b)
  | 3 => oJn σ x y a b n
  | 4 => oB σ x b a
  | _ => oB σ x a b
theorem ox_b01 (x : Bool) : narrow .boolean (.int (if x then 1 else 0)) = .int (if x then 1 else 0) := by cases x <;> rfl
set_option maxHeartbeats 1000000 in
theorem ot_isMade {L k r h x y a b n : Nat} {σ : ox_S} (hz : oZ1 σ 56 5760) (hn : σ 7 2 = nI n) (hn12 : n ≤ 12) (hr : r < 40) (hh : h ≤ 5) (h48 : σ 48 r = nI h) (h49 : σ 49 r = nI x) (h50 : σ 50 r = nI y) (hx : x < 40) (hy : y < 40) (ha : a < 12) (hb : b < 12) (hk : 3 ≤ k) (hk9 : k ≤ 9) :
    oT L k 74 0 [some (.ref 7), some (.int (nI r)), some (.int (nI a)), some (.int (nI b)), none, none] [] σ (fun o σ' => o = .inl (some (.int (if oMd σ n h x y a b then 1 else 0))) ∧ σ' = σ) := by
  obtain ⟨k, rfl⟩ : ∃ k', k = k' + 1 := ⟨k - 1, by omega⟩
  have hrc : (nI r).toNatClampNeg = r := nI_clamp (by omega)
  refine oT_N 3 rfl (oT_I (o := 49) (n := nI r) rfl (Or.inl ⟨rfl, by decide⟩) (ox_ix (N := 40) hr (by decide)) ?_)
  rw [hrc, h49]
  refine oT_N 4 rfl (oT_I (o := 50) (n := nI r) rfl (Or.inl ⟨rfl, by decide⟩) (ox_ix (N := 40) hr (by decide)) ?_)
  rw [hrc, h50]
  refine oT_N 4 rfl (oT_I (o := 48) (n := nI r) rfl (Or.inl ⟨rfl, by decide⟩) (ox_ix (N := 40) hr (by decide)) ?_)
  rw [hrc, h48]
  match h, hh with
  | 0, _ =>
    refine oT_N 5 rfl (oT_V rfl rfl rfl rfl (by omega) (by omega) (ot_isB hz hx ha hb) (fun x σ2 h => by cases h.1) (fun v σ2 hv => ?_))
    obtain ⟨hv, rfl⟩ := hv
    cases hv
    cases h1 : oB σ2 x a b with
    | true =>
      refine oT_N 1 rfl (oT_If (fun (q : (1 : Int32) = 0) => absurd q (by decide)) (fun _ => ?_))
      refine oT_N 2 rfl (oT_Ret rfl rfl rfl ⟨?_, rfl⟩)
      simp [oMd, h1]
    | false =>
      refine oT_N 1 rfl (oT_If (fun _ => ?_) (fun (q : ¬ (0 : Int32) = 0) => absurd rfl q))
      refine oT_N 4 rfl (oT_V rfl rfl rfl rfl (by omega) (by omega) (ot_isB hz hy ha hb) (fun x σ2 h => by cases h.1) (fun v σ3 hv => ?_))
      obtain ⟨hv, rfl⟩ := hv
      cases hv
      cases h2 : oB σ3 y a b with
      | true =>
        refine oT_N 1 rfl (oT_If (fun (q : (1 : Int32) = 0) => absurd q (by decide)) (fun _ => ?_))
        refine oT_N 2 rfl (oT_Ret rfl rfl rfl ⟨?_, rfl⟩)
        simp [oMd, h2]
      | false =>
        refine oT_N 1 rfl (oT_If (fun _ => ?_) (fun (q : ¬ (0 : Int32) = 0) => absurd rfl q))
        refine oT_N 1 rfl (oT_Ret rfl rfl rfl ⟨?_, rfl⟩)
        simp [oMd, h1, h2]
  | 1, _ =>
    refine oT_N 5 rfl (oT_V rfl rfl rfl rfl (by omega) (by omega) (ot_isB hz hx ha hb) (fun x σ2 h => by cases h.1) (fun v σ2 hv => ?_))
    obtain ⟨hv, rfl⟩ := hv
    cases hv
    cases h1 : oB σ2 x a b with
    | false =>
      refine oT_N 1 rfl (oT_If (fun _ => ?_) (fun (q : ¬ (0 : Int32) = 0) => absurd rfl q))
      refine oT_N 1 rfl (oT_Ret rfl rfl rfl ⟨?_, rfl⟩)
      simp [oMd, h1]
    | true =>
      refine oT_N 1 rfl (oT_If (fun (q : (1 : Int32) = 0) => absurd q (by decide)) (fun _ => ?_))
      refine oT_N 4 rfl (oT_V rfl rfl rfl rfl (by omega) (by omega) (ot_isB hz hy ha hb) (fun x σ2 h => by cases h.1) (fun v σ3 hv => ?_))
      obtain ⟨hv, rfl⟩ := hv
      cases hv
      cases h2 : oB σ3 y a b with
      | true =>
        refine oT_N 1 rfl (oT_If (fun (q : (1 : Int32) = 0) => absurd q (by decide)) (fun _ => ?_))
        refine oT_N 2 rfl (oT_Ret rfl rfl rfl ⟨?_, rfl⟩)
        simp [oMd, h1, h2]
      | false =>
        refine oT_N 1 rfl (oT_If (fun _ => ?_) (fun (q : ¬ (0 : Int32) = 0) => absurd rfl q))
        refine oT_N 1 rfl (oT_Ret rfl rfl rfl ⟨?_, rfl⟩)
        simp [oMd, h2]
  | 2, _ =>
    refine oT_N 5 rfl (oT_V rfl rfl rfl rfl (by omega) (by omega) (ot_isB hz hx ha hb) (fun x σ2 h => by cases h.1) (fun v σ2 hv => ?_))
    obtain ⟨hv, rfl⟩ := hv
    cases hv
    cases h1 : oB σ2 x a b with
    | false =>
      refine oT_N 1 rfl (oT_If (fun _ => ?_) (fun (q : ¬ (0 : Int32) = 0) => absurd rfl q))
      refine oT_N 1 rfl (oT_Ret rfl rfl rfl ⟨?_, rfl⟩)
      simp [oMd, h1]
    | true =>
      refine oT_N 1 rfl (oT_If (fun (q : (1 : Int32) = 0) => absurd q (by decide)) (fun _ => ?_))
      refine oT_N 4 rfl (oT_V rfl rfl rfl rfl (by omega) (by omega) (ot_isB hz hy ha hb) (fun x σ2 h => by cases h.1) (fun v σ3 hv => ?_))
      obtain ⟨hv, rfl⟩ := hv
      cases hv
      cases h2 : oB σ3 y a b with
      | true =>
        refine oT_N 1 rfl (oT_If (fun (q : (1 : Int32) = 0) => absurd q (by decide)) (fun _ => ?_))
        refine oT_N 1 rfl (oT_Ret rfl rfl rfl ⟨?_, rfl⟩)
        simp [oMd, h2]
      | false =>
        refine oT_N 1 rfl (oT_If (fun _ => ?_) (fun (q : ¬ (0 : Int32) = 0) => absurd rfl q))
        refine oT_N 2 rfl (oT_Ret rfl rfl rfl ⟨?_, rfl⟩)
        simp [oMd, h1, h2]
  | 3, _ =>
    refine oT_N 6 rfl (oT_V rfl rfl rfl rfl (by omega) (by omega) (ot_isJoined hz hn hn12 hx hy ha hb (by omega) (by omega)) (fun x σ2 h => by cases h.1) (fun v σ2 hv => ?_))
    obtain ⟨hv, rfl⟩ := hv
    cases hv
    exact oT_Ret rfl rfl (ox_b01 _) ⟨rfl, rfl⟩
  | 4, _ =>
    refine oT_N 5 rfl (oT_V rfl rfl rfl rfl (by omega) (by omega) (ot_isB hz hx hb ha) (fun x σ2 h => by cases h.1) (fun v σ2 hv => ?_))
    obtain ⟨hv, rfl⟩ := hv
    cases hv
    exact oT_Ret rfl rfl (ox_b01 _) ⟨rfl, rfl⟩
  | 5, _ =>
    refine oT_N 5 rfl (oT_V rfl rfl rfl rfl (by omega) (by omega) (ot_isB hz hx ha hb) (fun x σ2 h => by cases h.1) (fun v σ2 hv => ?_))
    obtain ⟨hv, rfl⟩ := hv
    cases hv
    exact oT_Ret rfl rfl (ox_b01 _) ⟨rfl, rfl⟩
  | h + 6, hh => exact absurd hh (by omega)
end
section
/-- the smallest relation over f, on the first n, that is closed under steps -/
def oTc (n : Nat) (f : Nat → Nat → Bool) (a b : Nat) : Prop :=
  ∀ g : Nat → Nat → Prop, (∀ x y, x < n → y < n → f x y = true → g x y) → (∀ x y z, x < n → y < n → z < n → g x y → g y z → g x z) → g a b
theorem oTc_of {n : Nat} {f : Nat → Nat → Bool} {a b : Nat} (ha : a < n) (hb : b < n) (h : f a b = true) : oTc n f a b := fun _ h1 _ => h1 a b ha hb h
theorem oTc_tr {n : Nat} {f : Nat → Nat → Bool} {a b c : Nat} (ha : a < n) (hb : b < n) (hc : c < n) (h : oTc n f a b) (h2 : oTc n f b c) : oTc n f a c := fun g g1 g2 => g2 a b c ha hb hc (h g g1 g2) (h2 g g1 g2)
/-- how many of the first N -/
def oCn (f : Nat → Bool) : Nat → Nat
  | 0 => 0
  | N + 1 => oCn f N + (if f N then 1 else 0)
theorem oCn_le (f : Nat → Bool) : ∀ N, oCn f N ≤ N
  | 0 => Nat.le_refl 0
  | N + 1 => by
    have := oCn_le f N
    unfold oCn
    split <;> omega
theorem oCn_up {f g : Nat → Bool} {q : Nat} (hf : f q = false) (hg : g q = true) (ho : ∀ j, j ≠ q → g j = f j) : ∀ N, oCn g N = oCn f N + (if q < N then 1 else 0)
  | 0 => rfl
  | N + 1 => by
    have ih := oCn_up hf hg ho N
    unfold oCn
    by_cases h : N = q
    · subst h
      rw [ih, hf, hg]
      simp
    · rw [ih, ho N h]
      have hh : (q < N + 1) ↔ (q < N) := by omega
      simp only [hh]
      omega
/-- what 'close' may have done so far -/
def oCj (σ σ' : ox_S) (r n : Nat) : Prop :=
  (∀ o, o ≠ 56 → σ' o = σ o) ∧ (∀ q, (∀ a b, a < n → b < n → q ≠ 144 * r + 12 * a + b) → σ' 56 q = σ 56 q) ∧ oZ1 σ' 56 5760 ∧
  (∀ a b, a < n → b < n → oB σ r a b = true → oB σ' r a b = true) ∧ ∀ a b, a < n → b < n → oB σ' r a b = true → oTc n (oB σ r) a b
def oMu (σ : ox_S) (r : Nat) : Nat := oCn (fun q => decide (σ 56 (144 * r + q) = 1)) 144
theorem oJn_ex {σ : ox_S} {r s a b : Nat} : ∀ n, oJn σ r s a b n = true ↔ ∃ c, c < n ∧ oB σ r a c = true ∧ oB σ s c b = true
  | 0 => by simp [oJn]
  | n + 1 => by
    have ih := oJn_ex (σ := σ) (r := r) (s := s) (a := a) (b := b) n
    simp only [oJn, Bool.or_eq_true, ih, Bool.and_eq_true]
    constructor
    · rintro (⟨c, hc, h1, h2⟩ | ⟨h1, h2⟩)
      · exact ⟨c, by omega, h1, h2⟩
      · exact ⟨n, by omega, h1, h2⟩
    · rintro ⟨c, hc, h1, h2⟩
      rcases Nat.lt_or_ge c n with q | q
      · exact Or.inl ⟨c, q, h1, h2⟩
      · obtain rfl : c = n := by omega
        exact Or.inr ⟨h1, h2⟩
theorem oCj_set {σ τ : ox_S} {r n a b : Nat} (hn : n ≤ 12) (hr : r < 40) (ha : a < n) (hb : b < n) (h : oCj σ τ r n) (hB : oB τ r a b = false) (hJ : oJn τ r r a b n = true) :
    oCj σ (ox_up τ 56 (144 * r + 12 * a + b) 1) r n ∧ oMu (ox_up τ 56 (144 * r + 12 * a + b) 1) r = oMu τ r + 1 := by
  obtain ⟨h1, h2, h3, h4, h5⟩ := h
  have e56 : ∀ q, ox_up τ 56 (144 * r + 12 * a + b) 1 56 q = if q = 144 * r + 12 * a + b then 1 else τ 56 q := fun q => by rw [ox_up_eq]; rfl
  refine ⟨⟨fun o ho => by rw [ox_up_ne ho]; exact h1 o ho, fun q hq => ?_, fun q hq => ?_, fun x y hx hy hxy => ?_, fun x y hx hy hxy => ?_⟩, ?_⟩
  · rw [e56, if_neg (hq a b ha hb)]; exact h2 q hq
  · rw [e56]
    split
    · exact Or.inr rfl
    · exact h3 q hq
  · have h9 := h4 x y hx hy hxy
    simp only [oB, e56, decide_eq_true_eq] at h9 ⊢
    split
    · rfl
    · exact h9
  · simp only [oB, e56, decide_eq_true_eq] at hxy
    by_cases hq : 144 * r + 12 * x + y = 144 * r + 12 * a + b
    · have : x = a := by omega
      have : y = b := by omega
      subst x; subst y
      obtain ⟨c, hc, c1, c2⟩ := (oJn_ex n).mp hJ
      exact oTc_tr ha hc hb (h5 a c ha hc c1) (h5 c b hc hb c2)
    · rw [if_neg hq] at hxy
      exact h5 x y hx hy (by simp only [oB, decide_eq_true_eq]; exact hxy)
  · unfold oMu
    have hB' : τ 56 (144 * r + 12 * a + b) ≠ 1 := by simpa [oB] using hB
    have h9 := oCn_up (f := fun q => decide (τ 56 (144 * r + q) = 1)) (g := fun q => decide (ox_up τ 56 (144 * r + 12 * a + b) 1 56 (144 * r + q) = 1)) (q := 12 * a + b)
      (by rw [← Nat.add_assoc]; exact decide_eq_false hB')
      (by simp only [e56]; rw [if_pos (by omega)]; rfl)
      (fun j hj => by simp only [e56]; rw [if_neg (by omega)]) 144
    rw [if_pos (by omega)] at h9
    exact h9
/-- inside a round of 'close' that began at τ: fl says whether a pair came -/
def oCi (σ τ τ' : ox_S) (r n : Nat) (fl : Bool) (a b : Nat) : Prop :=
  oCj σ τ' r n ∧ (fl = true → oMu τ r < oMu τ' r) ∧ (fl = false → τ' = τ ∧ ∀ x y, x < n → y < n → (x < a ∨ (x = a ∧ y < b)) → oB τ r x y = true ∨ oJn τ r r x y n = false)
set_option maxHeartbeats 1000000 in
theorem ot_close {L k r n : Nat} {σ : ox_S} (hz : oZ1 σ 56 5760) (hn : σ 7 2 = nI n) (hn12 : n ≤ 12) (hr : r < 40) (hk : 3 ≤ k) (hk9 : k ≤ 9) :
    oT L k 75 0 [some (.ref 7), some (.int (nI r)), none, none, none] [] σ (fun o σ' => o = .inl none ∧ oCj σ σ' r n ∧ ∀ a b, a < n → b < n → (oB σ' r a b = true ↔ oTc n (oB σ r) a b)) := by
  obtain ⟨k, rfl⟩ : ∃ k', k = k' + 1 := ⟨k - 1, by omega⟩
  refine oT_N 2 rfl ?_
  have outer : ∀ (d : Nat) (τ : ox_S) (l3 l4 : Option Value), oCj σ τ r n → 144 - oMu τ r < d → oT L (k + 1) 75 2 [some (.ref 7), some (.int (nI r)), some (.int 1), l3, l4] [] τ (fun o σ' => o = .inl none ∧ oCj σ σ' r n ∧ ∀ a b, a < n → b < n → (oB σ' r a b = true ↔ oTc n (oB σ r) a b)) := by
    intro d
    induction d with
    | zero => intro τ l3 l4 hJ hd; omega
    | succ d ih =>
      intro τ l3 l4 hJ hd
      have inner : ∀ (db a b : Nat) (fl : Bool) (τ' : ox_S), a < n → b + db = n → oCi σ τ τ' r n fl a b →
          (∀ (fl : Bool) (τ' : ox_S) (l : Option Value), oCi σ τ τ' r n fl (a + 1) 0 → oT L (k + 1) 75 10 [some (.ref 7), some (.int (nI r)), some (.int (if fl then 1 else 0)), some (.int (nI (a + 1))), l] [] τ' (fun o σ' => o = .inl none ∧ oCj σ σ' r n ∧ ∀ a b, a < n → b < n → (oB σ' r a b = true ↔ oTc n (oB σ r) a b))) →
          oT L (k + 1) 75 21 [some (.ref 7), some (.int (nI r)), some (.int (if fl then 1 else 0)), some (.int (nI a)), some (.int (nI b))] [] τ' (fun o σ' => o = .inl none ∧ oCj σ σ' r n ∧ ∀ a b, a < n → b < n → (oB σ' r a b = true ↔ oTc n (oB σ r) a b)) := by
        intro db
        induction db with
        | zero =>
          intro a b fl τ' ha hb hI cont
          obtain rfl : b = n := by omega
          have h7 : τ' 7 2 = nI b := by rw [hI.1.1 7 (by decide)]; exact hn
          refine oT_N 4 rfl (oT_If (fun _ => ?_) (fun (h0 : ¬ τ' 7 2 ≤ nI b) => ?_))
          · refine oT_N 2 rfl ?_
            have e := cont fl τ' (some (.int (nI b))) ⟨hI.1, hI.2.1, fun hf => ⟨(hI.2.2 hf).1, fun x y hx hy hxy => (hI.2.2 hf).2 x y hx hy (by omega)⟩⟩
            rw [← ox_inc a] at e
            exact e
          · rw [h7] at h0
            exact absurd (nI_le (Nat.le_refl b) (by omega)) h0
        | succ db ihb =>
          intro a b fl τ' ha hb hI cont
          have h7 : τ' 7 2 = nI n := by rw [hI.1.1 7 (by decide)]; exact hn
          have hz' := hI.1.2.2.1
          refine oT_N 4 rfl (oT_If (fun (h0 : τ' 7 2 ≤ nI b) => ?_) (fun _ => ?_))
          · rw [h7] at h0
            exact absurd h0 (nI_ge (by omega) (by omega))
          · have hnext : ∀ hx : oB τ' r a b = true ∨ oJn τ' r r a b n = false, oT L (k + 1) 75 21 [some (.ref 7), some (.int (nI r)), some (.int (if fl then 1 else 0)), some (.int (nI a)), some (.int (nI b + Int32.ofInt 1))] [] τ' (fun o σ' => o = .inl none ∧ oCj σ σ' r n ∧ ∀ a b, a < n → b < n → (oB σ' r a b = true ↔ oTc n (oB σ r) a b)) := fun hx => by
              have e := ihb a (b + 1) fl τ' ha (by omega) ⟨hI.1, hI.2.1, fun hf => ⟨(hI.2.2 hf).1, fun x y hx2 hy2 hxy => by
                have ht := (hI.2.2 hf).1
                by_cases hq : x = a ∧ y = b
                · rw [hq.1, hq.2, ← ht]; exact hx
                · exact (hI.2.2 hf).2 x y hx2 hy2 (by omega)⟩⟩ cont
              rw [← ox_inc b] at e
              exact e
            refine oT_N 4 rfl (oT_V rfl rfl rfl rfl (by omega) (by omega) (ot_isB hz' hr (by omega) (by omega)) (fun x σ2 h => by cases h.1) (fun v σ2 hv => ?_))
            obtain ⟨hv, rfl⟩ := hv
            cases hv
            cases h1 : oB σ2 r a b with
            | true =>
              refine oT_N 1 rfl (oT_If (fun (q : (1 : Int32) = 0) => absurd q (by decide)) (fun _ => ?_))
              exact oT_N 2 rfl (hnext (Or.inl h1))
            | false =>
              refine oT_N 1 rfl (oT_If (fun _ => ?_) (fun (q : ¬ (0 : Int32) = 0) => absurd rfl q))
              refine oT_N 5 rfl (oT_V rfl rfl rfl rfl (by omega) (by omega) (ot_isJoined hz' h7 hn12 hr hr (by omega) (by omega) (by omega) (by omega)) (fun x σ2 h => by cases h.1) (fun v σ3 hv => ?_))
              obtain ⟨hv, rfl⟩ := hv
              cases hv
              cases h2 : oJn σ3 r r a b n with
              | false =>
                refine oT_N 1 rfl (oT_If (fun _ => ?_) (fun (q : ¬ (0 : Int32) = 0) => absurd rfl q))
                exact oT_N 3 rfl (hnext (Or.inr h2))
              | true =>
                refine oT_N 1 rfl (oT_If (fun (q : (1 : Int32) = 0) => absurd q (by decide)) (fun _ => ?_))
                refine oT_N 12 rfl (oT_Zs (o := 56) (n := (Int16.ofInt 144).toInt32 * nI r + (Int8.ofInt 12).toInt32 * nI a + nI b) (x := Int32.ofInt 1) rfl ⟨rfl, by decide⟩ (by rw [ox_i3]; exact ox_ix (N := 5760) (by omega) (by decide)) ?_)
                rw [ox_i3, nI_clamp (by omega), show vp_nar .boolean (Int32.ofInt 1) = 1 from rfl]
                obtain ⟨s1, s2⟩ := oCj_set hn12 hr ha (by omega) hI.1 h1 h2
                have e := ihb a (b + 1) true (ox_up σ3 56 (144 * r + 12 * a + b) 1) ha (by omega) ⟨s1, fun _ => by
                  rw [s2]
                  cases fl with
                  | true => have := hI.2.1 rfl; omega
                  | false => rw [(hI.2.2 rfl).1]; omega, fun hf => by cases hf⟩ cont
                refine oT_N 4 rfl ?_
                rw [← ox_inc b] at e
                exact e
      have mid : ∀ (da a : Nat) (fl : Bool) (τ' : ox_S) (l : Option Value), a + da = n → oCi σ τ τ' r n fl a 0 → oT L (k + 1) 75 10 [some (.ref 7), some (.int (nI r)), some (.int (if fl then 1 else 0)), some (.int (nI a)), l] [] τ' (fun o σ' => o = .inl none ∧ oCj σ σ' r n ∧ ∀ a b, a < n → b < n → (oB σ' r a b = true ↔ oTc n (oB σ r) a b)) := by
        intro da
        induction da with
        | zero =>
          intro a fl τ' l ha hI
          obtain rfl : a = n := by omega
          have h7 : τ' 7 2 = nI a := by rw [hI.1.1 7 (by decide)]; exact hn
          refine oT_N 4 rfl (oT_If (fun _ => ?_) (fun (h0 : ¬ τ' 7 2 ≤ nI a) => ?_))
          · refine oT_N 1 rfl ?_
            cases fl with
            | true =>
              have h9 := hI.2.1 rfl
              have h10 := oCn_le (fun q => decide (τ' 56 (144 * r + q) = 1)) 144
              exact ih τ' _ _ hI.1 (by unfold oMu at *; omega)
            | false =>
              obtain ⟨rfl, hcl⟩ := hI.2.2 rfl
              refine oT_N 2 rfl (oT_If (fun _ => ?_) (fun (q : ¬ (0 : Int32) = 0) => absurd rfl q))
              refine oT_Retv rfl rfl ⟨rfl, hI.1, fun x y hx hy => ⟨fun h => hI.1.2.2.2.2 x y hx hy h, fun h => ?_⟩⟩
              refine h (fun x y => oB τ' r x y = true) (fun x y hx hy h => hI.1.2.2.2.1 x y hx hy h) (fun x y z hx hy hz h1 h2 => ?_)
              rcases hcl x z hx hz (Or.inl hx) with q | q
              · exact q
              · exact absurd ((oJn_ex a).mpr ⟨y, hy, h1, h2⟩) (by rw [q]; decide)
          · rw [h7] at h0
            exact absurd (nI_le (Nat.le_refl a) (by omega)) h0
        | succ da iha =>
          intro a fl τ' l ha hI
          have h7 : τ' 7 2 = nI n := by rw [hI.1.1 7 (by decide)]; exact hn
          refine oT_N 4 rfl (oT_If (fun (h0 : τ' 7 2 ≤ nI a) => ?_) (fun _ => ?_))
          · rw [h7] at h0
            exact absurd h0 (nI_ge (by omega) (by omega))
          · refine oT_N 2 rfl ?_
            exact inner n a 0 fl τ' (by omega) (by omega) hI (fun fl τ' l h => iha (a + 1) fl τ' l (by omega) h)
      refine oT_N 2 rfl (oT_If (fun (q : (1 : Int32) = 0) => absurd q (by decide)) (fun _ => ?_))
      refine oT_N 4 rfl ?_
      exact mid n 0 false τ l4 (by omega) ⟨hJ, fun h => (by cases h), fun _ => ⟨rfl, fun x y _ _ h => by omega⟩⟩
  exact outer 145 σ none none ⟨fun _ _ => rfl, fun _ _ => rfl, hz, fun _ _ _ _ h => h, fun a b ha hb h => oTc_of ha hb h⟩ (by omega)
end
section
/-- PROGRAM; of one place; FROM -/
def oPg (P : oPr) (a b : Nat) : Bool := decide (P.th a = P.th b) && decide (a < b)
def oAl (P : oPr) (a b : Nat) : Bool := decide (P.kd a ≠ 2) && decide (P.kd b ≠ 2) && decide (P.pl a = P.pl b)
def oFr (P : oPr) (σ : ox_S) (a b : Nat) : Bool := decide (P.kd b = 0) && decide (σ 52 (ocR P b) = nI a)
/-- the given relations, by the sources σ 52 and the ranks σ 55 -/
def oGv (P : oPr) (σ : ox_S) (r a b : Nat) : Bool := match r with
  | 0 => oPg P a b
  | 1 => oFr P σ a b
  | 2 => decide (P.kd a = 1) && decide (P.kd b = 1) && oAl P a b && decide (σ 55 a < σ 55 b)
  | 3 => decide (P.kd a = 0) && decide (P.kd b = 1) && oAl P a b && (decide (σ 52 (ocR P a) < 0) || decide (σ 55 (σ 52 (ocR P a)).toNatClampNeg < σ 55 b))
  | 4 => oFr P σ a b && decide (P.th a ≠ P.th b)
  | 5 => oPg P a b && oAl P a b
  | 6 => P.dp a b
  | 7 => oPg P a b && (oFn P a b && decide (P.kd a ≠ 2) && decide (P.kd b ≠ 2))
  | r => oPg P a b && decide (P.kd a = (r - 8) / 2) && decide (P.kd b = (r - 8) % 2)
/-- sources are events or none -/
def oSr (σ : ox_S) (P : oPr) : Prop := ∀ e, e < P.n → P.kd e = 0 → σ 52 (ocR P e) < 0 ∨ ∃ w, w < 12 ∧ σ 52 (ocR P e) = nI w
section OXG
variable {L k r a b : Nat} {σ : ox_S} {P : oPr} {Post : ox_O → ox_S → Prop}
/-- the first part of isGiven: up to its switch -/
theorem ot_isGiven0 (h : oM σ P) (ha : a < P.n) (hb : b < P.n) (hk : 1 ≤ k) (hk9 : k ≤ 8)
    (K : oT L (k + 1) 71 94 [some (.ref 7), some (.int (nI r)), some (.int (nI a)), some (.int (nI b)), some (.int (if oPg P a b then 1 else 0)), some (.int (if oAl P a b then 1 else 0)), some (.int (if oFr P σ a b then 1 else 0))] [] σ Post) :
    oT L (k + 1) 71 0 [some (.ref 7), some (.int (nI r)), some (.int (nI a)), some (.int (nI b)), none, none, none] [] σ Post := by
  obtain ⟨⟨hT, hn, hok⟩, h1, h2, h3⟩ := id h
  obtain ⟨ga1, ga2, ga3, -⟩ := h3 a ha
  obtain ⟨gb1, gb2, gb3, -⟩ := h3 b hb
  obtain ⟨oa1, oa2, oa3⟩ := hok a ha
  obtain ⟨ob1, ob2, ob3⟩ := hok b hb
  have hac : (nI a).toNatClampNeg = a := nI_clamp (by omega)
  have hbc : (nI b).toNatClampNeg = b := nI_clamp (by omega)
  have m92 : ∀ fr : Bool, oFr P σ a b = fr → oT L (k + 1) 71 92 [some (.ref 7), some (.int (nI r)), some (.int (nI a)), some (.int (nI b)), some (.int (if oPg P a b then 1 else 0)), some (.int (if oAl P a b then 1 else 0)), none] [.int (if fr then 1 else 0)] σ Post := fun fr hf => by
    subst hf
    exact oT_N 1 rfl K
  have m67 : ∀ al : Bool, oAl P a b = al → oT L (k + 1) 71 67 [some (.ref 7), some (.int (nI r)), some (.int (nI a)), some (.int (nI b)), some (.int (if oPg P a b then 1 else 0)), none, none] [.int (if al then 1 else 0)] σ Post := fun al hal => by
    subst hal
    refine oT_N 4 rfl (oT_I (o := 44) (n := nI b) rfl (Or.inl ⟨rfl, by decide⟩) (ox_ix (N := 12) (by omega) (by decide)) ?_)
    rw [hbc, gb2]
    refine oT_N 1 rfl (oT_If (fun (q : nI (P.kd b) = 0) => ?_) (fun (q : ¬ nI (P.kd b) = 0) => ?_))
    · have hkb : P.kd b = 0 := (nI_eq (by omega) (by decide)).mp q
      refine oT_N 2 rfl (oT_V rfl rfl rfl rfl (by omega) (by omega) (ot_sourceAt h hb) (fun x σ2 h => by cases h.1) (fun v σ2 hv => ?_))
      obtain ⟨hv, rfl⟩ := hv
      cases hv
      refine oT_N 2 rfl (oT_If (fun (q2 : σ2 52 (ocR P b) = nI a) => ?_) (fun (q2 : ¬ σ2 52 (ocR P b) = nI a) => ?_))
      · exact oT_N 2 rfl (m92 true (by simp [oFr, hkb, q2]))
      · exact oT_N 1 rfl (m92 false (by simp [oFr, q2]))
    · have hkb : ¬ P.kd b = 0 := fun e => q (by rw [e]; rfl)
      exact oT_N 1 rfl (m92 false (by simp [oFr, hkb]))
  have m25 : ∀ pg : Bool, oPg P a b = pg → oT L (k + 1) 71 25 [some (.ref 7), some (.int (nI r)), some (.int (nI a)), some (.int (nI b)), none, none, none] [.int (if pg then 1 else 0)] σ Post := fun pg hpg => by
    subst hpg
    refine oT_N 4 rfl (oT_I (o := 44) (n := nI a) rfl (Or.inl ⟨rfl, by decide⟩) (ox_ix (N := 12) (by omega) (by decide)) ?_)
    rw [hac, ga2]
    refine oT_N 2 rfl (oT_If (fun (q : nI (P.kd a) = nI 2) => ?_) (fun (q : ¬ nI (P.kd a) = nI 2) => ?_))
    · have hka := (ox_kdI oa2 (by decide)).mp q
      exact oT_N 1 rfl (m67 false (by simp [oAl, hka]))
    · have hka : P.kd a ≠ 2 := fun e => q (by rw [e])
      refine oT_N 3 rfl (oT_I (o := 44) (n := nI b) rfl (Or.inl ⟨rfl, by decide⟩) (ox_ix (N := 12) (by omega) (by decide)) ?_)
      rw [hbc, gb2]
      refine oT_N 2 rfl (oT_If (fun (q2 : nI (P.kd b) = nI 2) => ?_) (fun (q2 : ¬ nI (P.kd b) = nI 2) => ?_))
      · have hkb := (ox_kdI ob2 (by decide)).mp q2
        exact oT_N 1 rfl (m67 false (by simp [oAl, hkb]))
      · have hkb : P.kd b ≠ 2 := fun e => q2 (by rw [e])
        refine oT_N 3 rfl (oT_I (o := 45) (n := nI a) rfl (Or.inl ⟨rfl, by decide⟩) (ox_ix (N := 12) (by omega) (by decide)) ?_)
        rw [hac, ga3, if_pos (show P.kd a < 2 by omega)]
        refine oT_N 3 rfl (oT_I (o := 45) (n := nI b) rfl (Or.inl ⟨rfl, by decide⟩) (ox_ix (N := 12) (by omega) (by decide)) ?_)
        rw [hbc, gb3, if_pos (show P.kd b < 2 by omega)]
        have pa := oa3 (by omega)
        have pb := ob3 (by omega)
        refine oT_N 1 rfl (oT_If (fun (q3 : nI (P.pl a) = nI (P.pl b)) => ?_) (fun (q3 : ¬ nI (P.pl a) = nI (P.pl b)) => ?_))
        · have hp := (nI_eq (by omega) (by omega)).mp q3
          exact oT_N 2 rfl (m67 true (by simp [oAl, hka, hkb, hp]))
        · have hp : P.pl a ≠ P.pl b := fun e => q3 (by rw [e])
          exact oT_N 1 rfl (m67 false (by simp [oAl, hp]))
  refine oT_N 3 rfl (oT_I (o := 43) (n := nI a) rfl (Or.inl ⟨rfl, by decide⟩) (ox_ix (N := 12) (by omega) (by decide)) ?_)
  rw [hac, ga1]
  refine oT_N 3 rfl (oT_I (o := 43) (n := nI b) rfl (Or.inl ⟨rfl, by decide⟩) (ox_ix (N := 12) (by omega) (by decide)) ?_)
  rw [hbc, gb1]
  refine oT_N 1 rfl (oT_If (fun (q : nI (P.th a) = nI (P.th b)) => ?_) (fun (q : ¬ nI (P.th a) = nI (P.th b)) => ?_))
  · have ht := (nI_eq (by omega) (by omega)).mp q
    refine oT_N 3 rfl (oT_If (fun (q2 : nI b ≤ nI a) => ?_) (fun (q2 : ¬ nI b ≤ nI a) => ?_))
    · have hl := (nI_leI (by omega) (by omega)).mp q2
      exact oT_N 1 rfl (m25 false (by simp [oPg, show ¬ a < b by omega]))
    · have hl : a < b := Nat.lt_of_not_le (fun e => q2 (nI_le e (by omega)))
      exact oT_N 2 rfl (m25 true (by simp [oPg, ht, hl]))
  · have ht : P.th a ≠ P.th b := fun e => q (by rw [e])
    exact oT_N 1 rfl (m25 false (by simp [oPg, ht]))
end OXG
end
section
theorem ox_i2 (a b : Nat) : (Int8.ofInt 12).toInt32 * nI a + nI b = nI (12 * a + b) := by
  rw [show (Int8.ofInt 12).toInt32 = nI 12 from rfl, pk_mul, nI_add]
set_option maxHeartbeats 2000000 in
theorem ot_isGiven {L k r a b : Nat} {σ : ox_S} {P : oPr} (h : oM σ P) (hs : oSr σ P) (hr : r < 12) (ha : a < P.n) (hb : b < P.n) (hk : 2 ≤ k) (hk9 : k ≤ 9) :
    oT L k 71 0 [some (.ref 7), some (.int (nI r)), some (.int (nI a)), some (.int (nI b)), none, none, none] [] σ (fun o σ' => o = .inl (some (.int (if oGv P σ r a b then 1 else 0))) ∧ σ' = σ) := by
  obtain ⟨k, rfl⟩ : ∃ k', k = k' + 1 := ⟨k - 1, by omega⟩
  refine ot_isGiven0 h ha hb (by omega) (by omega) ?_
  obtain ⟨⟨hT, hn, hok⟩, h1, h2, h3⟩ := id h
  obtain ⟨ga1, ga2, ga3, -, ga5⟩ := h3 a ha
  obtain ⟨gb1, gb2, gb3, -⟩ := h3 b hb
  obtain ⟨oa1, oa2, oa3⟩ := hok a ha
  obtain ⟨ob1, ob2, ob3⟩ := hok b hb
  have hac : (nI a).toNatClampNeg = a := nI_clamp (by omega)
  have hbc : (nI b).toNatClampNeg = b := nI_clamp (by omega)
  have n12 : ∀ {m : Nat}, m < 12 → ¬ (nI m < 0 ∨ 12 ≤ (nI m).toNatClampNeg) := fun hm => ox_ix hm (by decide)
  match r, hr with
  | 0, _ => exact oT_N 3 rfl (oT_Ret rfl rfl (ox_b01 _) ⟨rfl, rfl⟩)
  | 1, _ => exact oT_N 3 rfl (oT_Ret rfl rfl (ox_b01 _) ⟨rfl, rfl⟩)
  | 2, _ =>
    refine oT_N 5 rfl (oT_I (o := 44) (n := nI a) rfl (Or.inl ⟨rfl, by decide⟩) (n12 (by omega)) ?_)
    rw [hac, ga2]
    refine oT_N 2 rfl (oT_If (fun (q : nI (P.kd a) = nI 1) => ?_) (fun (q : ¬ nI (P.kd a) = nI 1) => ?_))
    · have hka := (ox_kdI oa2 (by decide)).mp q
      refine oT_N 3 rfl (oT_I (o := 44) (n := nI b) rfl (Or.inl ⟨rfl, by decide⟩) (n12 (by omega)) ?_)
      rw [hbc, gb2]
      refine oT_N 2 rfl (oT_If (fun (q2 : nI (P.kd b) = nI 1) => ?_) (fun (q2 : ¬ nI (P.kd b) = nI 1) => ?_))
      · have hkb := (ox_kdI ob2 (by decide)).mp q2
        cases hal : oAl P a b with
        | false =>
          refine oT_N 2 rfl (oT_If (fun _ => ?_) (fun (q : ¬ (0 : Int32) = 0) => absurd rfl q))
          refine oT_N 1 rfl (oT_Ret rfl rfl rfl ⟨?_, rfl⟩)
          simp [oGv, hal]
        | true =>
          refine oT_N 2 rfl (oT_If (fun (q : (1 : Int32) = 0) => absurd q (by decide)) (fun _ => ?_))
          refine oT_N 3 rfl (oT_I (o := 55) (n := nI a) rfl (Or.inl ⟨rfl, by decide⟩) (n12 (by omega)) ?_)
          rw [hac]
          refine oT_N 3 rfl (oT_I (o := 55) (n := nI b) rfl (Or.inl ⟨rfl, by decide⟩) (n12 (by omega)) ?_)
          rw [hbc]
          refine oT_N 1 rfl (oT_If (fun (q3 : σ 55 b ≤ σ 55 a) => ?_) (fun (q3 : ¬ σ 55 b ≤ σ 55 a) => ?_))
          · refine oT_N 1 rfl (oT_Ret rfl rfl rfl ⟨?_, rfl⟩)
            simp [oGv, Int32.not_lt.mpr q3]
          · refine oT_N 2 rfl (oT_Ret rfl rfl rfl ⟨?_, rfl⟩)
            simp [oGv, hka, hkb, hal, Int32.not_le.mp q3]
      · have hkb : P.kd b ≠ 1 := fun e => q2 (by rw [e])
        refine oT_N 1 rfl (oT_Ret rfl rfl rfl ⟨?_, rfl⟩)
        simp [oGv, hkb]
    · have hka : P.kd a ≠ 1 := fun e => q (by rw [e])
      refine oT_N 1 rfl (oT_Ret rfl rfl rfl ⟨?_, rfl⟩)
      simp [oGv, hka]
  | 3, _ =>
    refine oT_N 5 rfl (oT_I (o := 44) (n := nI a) rfl (Or.inl ⟨rfl, by decide⟩) (n12 (by omega)) ?_)
    rw [hac, ga2]
    refine oT_N 1 rfl (oT_If (fun (q : nI (P.kd a) = 0) => ?_) (fun (q : ¬ nI (P.kd a) = 0) => ?_))
    · have hka : P.kd a = 0 := (nI_eq (by omega) (by decide)).mp q
      refine oT_N 3 rfl (oT_I (o := 44) (n := nI b) rfl (Or.inl ⟨rfl, by decide⟩) (n12 (by omega)) ?_)
      rw [hbc, gb2]
      refine oT_N 2 rfl (oT_If (fun (q2 : nI (P.kd b) = nI 1) => ?_) (fun (q2 : ¬ nI (P.kd b) = nI 1) => ?_))
      · have hkb := (ox_kdI ob2 (by decide)).mp q2
        cases hal : oAl P a b with
        | false =>
          refine oT_N 2 rfl (oT_If (fun _ => ?_) (fun (q : ¬ (0 : Int32) = 0) => absurd rfl q))
          refine oT_N 1 rfl (oT_Ret rfl rfl rfl ⟨?_, rfl⟩)
          simp [oGv, hal]
        | true =>
          refine oT_N 2 rfl (oT_If (fun (q : (1 : Int32) = 0) => absurd q (by decide)) (fun _ => ?_))
          refine oT_N 2 rfl (oT_V rfl rfl rfl rfl (by omega) (by omega) (ot_sourceAt h ha) (fun x σ2 h => by cases h.1) (fun v σ2 hv => ?_))
          obtain ⟨hv, rfl⟩ := hv
          cases hv
          refine oT_N 1 rfl (oT_If (fun (q3 : σ2 52 (ocR P a) < 0) => ?_) (fun (q3 : ¬ σ2 52 (ocR P a) < 0) => ?_))
          · refine oT_N 2 rfl (oT_Ret rfl rfl rfl ⟨?_, rfl⟩)
            simp [oGv, hka, hkb, hal, q3]
          · obtain ⟨w, hw, hw2⟩ : ∃ w, w < 12 ∧ σ2 52 (ocR P a) = nI w := by
              rcases hs a ha hka with e | e
              · exact absurd e q3
              · exact e
            refine oT_N 3 rfl (oT_I (o := 55) (n := nI b) rfl (Or.inl ⟨rfl, by decide⟩) (n12 (by omega)) ?_)
            rw [hbc]
            refine oT_N 4 rfl (oT_V rfl rfl rfl rfl (by omega) (by omega) (ot_sourceAt h ha) (fun x σ2 h => by cases h.1) (fun v σ3 hv => ?_))
            obtain ⟨hv, rfl⟩ := hv
            cases hv
            refine oT_I (o := 55) (n := σ3 52 (ocR P a)) rfl (Or.inl ⟨rfl, by decide⟩) (by rw [hw2]; exact n12 hw) ?_
            refine oT_N 1 rfl (oT_If (fun (q4 : σ3 55 b ≤ σ3 55 (σ3 52 (ocR P a)).toNatClampNeg) => ?_) (fun (q4 : ¬ σ3 55 b ≤ σ3 55 (σ3 52 (ocR P a)).toNatClampNeg) => ?_))
            · refine oT_N 1 rfl (oT_Ret rfl rfl rfl ⟨?_, rfl⟩)
              simp [oGv, q3, Int32.not_lt.mpr q4]
            · refine oT_N 2 rfl (oT_Ret rfl rfl rfl ⟨?_, rfl⟩)
              simp [oGv, hka, hkb, hal, Int32.not_le.mp q4]
      · have hkb : P.kd b ≠ 1 := fun e => q2 (by rw [e])
        refine oT_N 1 rfl (oT_Ret rfl rfl rfl ⟨?_, rfl⟩)
        simp [oGv, hkb]
    · have hka : P.kd a ≠ 0 := fun e => q (by rw [e]; rfl)
      refine oT_N 1 rfl (oT_Ret rfl rfl rfl ⟨?_, rfl⟩)
      simp [oGv, hka]
  | 4, _ =>
    cases hfr : oFr P σ a b with
    | false =>
      refine oT_N 4 rfl (oT_If (fun _ => ?_) (fun (q : ¬ (0 : Int32) = 0) => absurd rfl q))
      refine oT_N 1 rfl (oT_Ret rfl rfl rfl ⟨?_, rfl⟩)
      simp [oGv, hfr]
    | true =>
      refine oT_N 4 rfl (oT_If (fun (q : (1 : Int32) = 0) => absurd q (by decide)) (fun _ => ?_))
      refine oT_N 3 rfl (oT_I (o := 43) (n := nI a) rfl (Or.inl ⟨rfl, by decide⟩) (n12 (by omega)) ?_)
      rw [hac, ga1]
      refine oT_N 3 rfl (oT_I (o := 43) (n := nI b) rfl (Or.inl ⟨rfl, by decide⟩) (n12 (by omega)) ?_)
      rw [hbc, gb1]
      refine oT_N 1 rfl (oT_If (fun (q : nI (P.th a) = nI (P.th b)) => ?_) (fun (q : ¬ nI (P.th a) = nI (P.th b)) => ?_))
      · have ht := (nI_eq (by omega) (by omega)).mp q
        refine oT_N 1 rfl (oT_Ret rfl rfl rfl ⟨?_, rfl⟩)
        simp [oGv, ht]
      · have ht : P.th a ≠ P.th b := fun e => q (by rw [e])
        refine oT_N 2 rfl (oT_Ret rfl rfl rfl ⟨?_, rfl⟩)
        simp [oGv, hfr, ht]
  | 5, _ =>
    cases hpg : oPg P a b with
    | false =>
      refine oT_N 4 rfl (oT_If (fun _ => ?_) (fun (q : ¬ (0 : Int32) = 0) => absurd rfl q))
      refine oT_N 1 rfl (oT_Ret rfl rfl rfl ⟨?_, rfl⟩)
      simp [oGv, hpg]
    | true =>
      refine oT_N 4 rfl (oT_If (fun (q : (1 : Int32) = 0) => absurd q (by decide)) (fun _ => ?_))
      cases hal : oAl P a b with
      | false =>
        refine oT_N 2 rfl (oT_If (fun _ => ?_) (fun (q : ¬ (0 : Int32) = 0) => absurd rfl q))
        refine oT_N 1 rfl (oT_Ret rfl rfl rfl ⟨?_, rfl⟩)
        simp [oGv, hal]
      | true =>
        refine oT_N 2 rfl (oT_If (fun (q : (1 : Int32) = 0) => absurd q (by decide)) (fun _ => ?_))
        refine oT_N 2 rfl (oT_Ret rfl rfl rfl ⟨?_, rfl⟩)
        simp [oGv, hpg, hal]
  | 6, _ =>
    refine oT_N 9 rfl (oT_Z (o := 47) (n := (Int8.ofInt 12).toInt32 * nI a + nI b) rfl ⟨rfl, by decide⟩ (by rw [ox_i2]; exact ox_ix (N := 144) (by omega) (by decide)) ?_)
    rw [ox_i2, nI_clamp (by omega), ga5 b hb]
    exact oT_Ret rfl rfl (ox_b01 _) ⟨rfl, rfl⟩
  | 7, _ =>
    cases hpg : oPg P a b with
    | false =>
      refine oT_N 4 rfl (oT_If (fun _ => ?_) (fun (q : ¬ (0 : Int32) = 0) => absurd rfl q))
      refine oT_N 1 rfl (oT_Ret rfl rfl rfl ⟨?_, rfl⟩)
      simp [oGv, hpg]
    | true =>
      refine oT_N 4 rfl (oT_If (fun (q : (1 : Int32) = 0) => absurd q (by decide)) (fun _ => ?_))
      refine oT_N 3 rfl (oT_V rfl rfl rfl rfl (by omega) (by omega) (ot_isFenced h ha hb) (fun x σ2 h => by cases h.1) (fun v σ2 hv => ?_))
      obtain ⟨hv, rfl⟩ := hv
      cases hv
      cases hf : (oFn P a b && decide (P.kd a ≠ 2) && decide (P.kd b ≠ 2)) with
      | false =>
        refine oT_N 1 rfl (oT_If (fun _ => ?_) (fun (q : ¬ (0 : Int32) = 0) => absurd rfl q))
        refine oT_N 1 rfl (oT_Ret rfl rfl rfl ⟨?_, rfl⟩)
        simp only [oGv, hf, Bool.and_false]
        rfl
      | true =>
        refine oT_N 1 rfl (oT_If (fun (q : (1 : Int32) = 0) => absurd q (by decide)) (fun _ => ?_))
        refine oT_N 2 rfl (oT_Ret rfl rfl rfl ⟨?_, rfl⟩)
        simp only [oGv, hf, hpg, Bool.and_true]
        rfl
  | 8, _ =>
    cases hpg : oPg P a b with
    | false =>
      refine oT_N 4 rfl (oT_If (fun _ => ?_) (fun (q : ¬ (0 : Int32) = 0) => absurd rfl q))
      refine oT_N 1 rfl (oT_Ret rfl rfl rfl ⟨?_, rfl⟩)
      simp [oGv, hpg]
    | true =>
      refine oT_N 4 rfl (oT_If (fun (q : (1 : Int32) = 0) => absurd q (by decide)) (fun _ => ?_))
      refine oT_N 3 rfl (oT_I (o := 44) (n := nI a) rfl (Or.inl ⟨rfl, by decide⟩) (n12 (by omega)) ?_)
      rw [hac, ga2]
      refine oT_N 4 rfl (oT_Div rfl (by decide) ?_)
      rw [show (nI 8 - (Int8.ofInt 8).toInt32) / Int32.ofInt 2 = nI 0 by decide]
      refine oT_N 1 rfl (oT_If (fun (q : nI (P.kd a) = nI 0) => ?_) (fun (q : ¬ nI (P.kd a) = nI 0) => ?_))
      · have hka := (ox_kdI oa2 (by decide)).mp q
        refine oT_N 3 rfl (oT_I (o := 44) (n := nI b) rfl (Or.inl ⟨rfl, by decide⟩) (n12 (by omega)) ?_)
        rw [hbc, gb2]
        refine oT_N 4 rfl (oT_Rem rfl (by decide) ?_)
        rw [show nI 8 - (Int8.ofInt 8).toInt32 - (nI 8 - (Int8.ofInt 8).toInt32) / Int32.ofInt 2 * Int32.ofInt 2 = nI 0 by decide]
        refine oT_N 1 rfl (oT_If (fun (q2 : nI (P.kd b) = nI 0) => ?_) (fun (q2 : ¬ nI (P.kd b) = nI 0) => ?_))
        · have hkb := (ox_kdI ob2 (by decide)).mp q2
          refine oT_N 2 rfl (oT_Ret rfl rfl rfl ⟨?_, rfl⟩)
          simp [oGv, hpg, hka, hkb]
        · have hkb : P.kd b ≠ 0 := fun e => q2 (by rw [e])
          refine oT_N 1 rfl (oT_Ret rfl rfl rfl ⟨?_, rfl⟩)
          simp [oGv, hkb]
      · have hka : P.kd a ≠ 0 := fun e => q (by rw [e])
        refine oT_N 1 rfl (oT_Ret rfl rfl rfl ⟨?_, rfl⟩)
        simp [oGv, hka]
  | 9, _ =>
    cases hpg : oPg P a b with
    | false =>
      refine oT_N 4 rfl (oT_If (fun _ => ?_) (fun (q : ¬ (0 : Int32) = 0) => absurd rfl q))
      refine oT_N 1 rfl (oT_Ret rfl rfl rfl ⟨?_, rfl⟩)
      simp [oGv, hpg]
    | true =>
      refine oT_N 4 rfl (oT_If (fun (q : (1 : Int32) = 0) => absurd q (by decide)) (fun _ => ?_))
      refine oT_N 3 rfl (oT_I (o := 44) (n := nI a) rfl (Or.inl ⟨rfl, by decide⟩) (n12 (by omega)) ?_)
      rw [hac, ga2]
      refine oT_N 4 rfl (oT_Div rfl (by decide) ?_)
      rw [show (nI 9 - (Int8.ofInt 8).toInt32) / Int32.ofInt 2 = nI 0 by decide]
      refine oT_N 1 rfl (oT_If (fun (q : nI (P.kd a) = nI 0) => ?_) (fun (q : ¬ nI (P.kd a) = nI 0) => ?_))
      · have hka := (ox_kdI oa2 (by decide)).mp q
        refine oT_N 3 rfl (oT_I (o := 44) (n := nI b) rfl (Or.inl ⟨rfl, by decide⟩) (n12 (by omega)) ?_)
        rw [hbc, gb2]
        refine oT_N 4 rfl (oT_Rem rfl (by decide) ?_)
        rw [show nI 9 - (Int8.ofInt 8).toInt32 - (nI 9 - (Int8.ofInt 8).toInt32) / Int32.ofInt 2 * Int32.ofInt 2 = nI 1 by decide]
        refine oT_N 1 rfl (oT_If (fun (q2 : nI (P.kd b) = nI 1) => ?_) (fun (q2 : ¬ nI (P.kd b) = nI 1) => ?_))
        · have hkb := (ox_kdI ob2 (by decide)).mp q2
          refine oT_N 2 rfl (oT_Ret rfl rfl rfl ⟨?_, rfl⟩)
          simp [oGv, hpg, hka, hkb]
        · have hkb : P.kd b ≠ 1 := fun e => q2 (by rw [e])
          refine oT_N 1 rfl (oT_Ret rfl rfl rfl ⟨?_, rfl⟩)
          simp [oGv, hkb]
      · have hka : P.kd a ≠ 0 := fun e => q (by rw [e])
        refine oT_N 1 rfl (oT_Ret rfl rfl rfl ⟨?_, rfl⟩)
        simp [oGv, hka]
  | 10, _ =>
    cases hpg : oPg P a b with
    | false =>
      refine oT_N 4 rfl (oT_If (fun _ => ?_) (fun (q : ¬ (0 : Int32) = 0) => absurd rfl q))
      refine oT_N 1 rfl (oT_Ret rfl rfl rfl ⟨?_, rfl⟩)
      simp [oGv, hpg]
    | true =>
      refine oT_N 4 rfl (oT_If (fun (q : (1 : Int32) = 0) => absurd q (by decide)) (fun _ => ?_))
      refine oT_N 3 rfl (oT_I (o := 44) (n := nI a) rfl (Or.inl ⟨rfl, by decide⟩) (n12 (by omega)) ?_)
      rw [hac, ga2]
      refine oT_N 4 rfl (oT_Div rfl (by decide) ?_)
      rw [show (nI 10 - (Int8.ofInt 8).toInt32) / Int32.ofInt 2 = nI 1 by decide]
      refine oT_N 1 rfl (oT_If (fun (q : nI (P.kd a) = nI 1) => ?_) (fun (q : ¬ nI (P.kd a) = nI 1) => ?_))
      · have hka := (ox_kdI oa2 (by decide)).mp q
        refine oT_N 3 rfl (oT_I (o := 44) (n := nI b) rfl (Or.inl ⟨rfl, by decide⟩) (n12 (by omega)) ?_)
        rw [hbc, gb2]
        refine oT_N 4 rfl (oT_Rem rfl (by decide) ?_)
        rw [show nI 10 - (Int8.ofInt 8).toInt32 - (nI 10 - (Int8.ofInt 8).toInt32) / Int32.ofInt 2 * Int32.ofInt 2 = nI 0 by decide]
        refine oT_N 1 rfl (oT_If (fun (q2 : nI (P.kd b) = nI 0) => ?_) (fun (q2 : ¬ nI (P.kd b) = nI 0) => ?_))
        · have hkb := (ox_kdI ob2 (by decide)).mp q2
          refine oT_N 2 rfl (oT_Ret rfl rfl rfl ⟨?_, rfl⟩)
          simp [oGv, hpg, hka, hkb]
        · have hkb : P.kd b ≠ 0 := fun e => q2 (by rw [e])
          refine oT_N 1 rfl (oT_Ret rfl rfl rfl ⟨?_, rfl⟩)
          simp [oGv, hkb]
      · have hka : P.kd a ≠ 1 := fun e => q (by rw [e])
        refine oT_N 1 rfl (oT_Ret rfl rfl rfl ⟨?_, rfl⟩)
        simp [oGv, hka]
  | 11, _ =>
    cases hpg : oPg P a b with
    | false =>
      refine oT_N 4 rfl (oT_If (fun _ => ?_) (fun (q : ¬ (0 : Int32) = 0) => absurd rfl q))
      refine oT_N 1 rfl (oT_Ret rfl rfl rfl ⟨?_, rfl⟩)
      simp [oGv, hpg]
    | true =>
      refine oT_N 4 rfl (oT_If (fun (q : (1 : Int32) = 0) => absurd q (by decide)) (fun _ => ?_))
      refine oT_N 3 rfl (oT_I (o := 44) (n := nI a) rfl (Or.inl ⟨rfl, by decide⟩) (n12 (by omega)) ?_)
      rw [hac, ga2]
      refine oT_N 4 rfl (oT_Div rfl (by decide) ?_)
      rw [show (nI 11 - (Int8.ofInt 8).toInt32) / Int32.ofInt 2 = nI 1 by decide]
      refine oT_N 1 rfl (oT_If (fun (q : nI (P.kd a) = nI 1) => ?_) (fun (q : ¬ nI (P.kd a) = nI 1) => ?_))
      · have hka := (ox_kdI oa2 (by decide)).mp q
        refine oT_N 3 rfl (oT_I (o := 44) (n := nI b) rfl (Or.inl ⟨rfl, by decide⟩) (n12 (by omega)) ?_)
        rw [hbc, gb2]
        refine oT_N 4 rfl (oT_Rem rfl (by decide) ?_)
        rw [show nI 11 - (Int8.ofInt 8).toInt32 - (nI 11 - (Int8.ofInt 8).toInt32) / Int32.ofInt 2 * Int32.ofInt 2 = nI 1 by decide]
        refine oT_N 1 rfl (oT_If (fun (q2 : nI (P.kd b) = nI 1) => ?_) (fun (q2 : ¬ nI (P.kd b) = nI 1) => ?_))
        · have hkb := (ox_kdI ob2 (by decide)).mp q2
          refine oT_N 2 rfl (oT_Ret rfl rfl rfl ⟨?_, rfl⟩)
          simp [oGv, hpg, hka, hkb]
        · have hkb : P.kd b ≠ 1 := fun e => q2 (by rw [e])
          refine oT_N 1 rfl (oT_Ret rfl rfl rfl ⟨?_, rfl⟩)
          simp [oGv, hkb]
      · have hka : P.kd a ≠ 1 := fun e => q (by rw [e])
        refine oT_N 1 rfl (oT_Ret rfl rfl rfl ⟨?_, rfl⟩)
        simp [oGv, hka]
  | r + 12, hr => exact absurd hr (by omega)
end
section
/-- a model: relations, rules, of each relation its how, left, right; of each rule its relation -/
abbrev oMo : Type := Nat × Nat × (Nat → Nat) × (Nat → Nat) × (Nat → Nat) × (Nat → Nat)
abbrev oMo.R (M : oMo) : Nat := M.1
abbrev oMo.Q (M : oMo) : Nat := M.2.1
abbrev oMo.hw (M : oMo) : Nat → Nat := M.2.2.1
abbrev oMo.lf (M : oMo) : Nat → Nat := M.2.2.2.1
abbrev oMo.rt (M : oMo) : Nat → Nat := M.2.2.2.2.1
abbrev oMo.rl (M : oMo) : Nat → Nat := M.2.2.2.2.2
def oMo.ok (M : oMo) : Prop := 12 ≤ M.R ∧ M.R ≤ 40 ∧ M.Q ≤ 8 ∧ (∀ r, 12 ≤ r → r < M.R → M.hw r ≤ 5 ∧ M.lf r < r ∧ M.rt r < r) ∧ ∀ i, i < M.Q → M.rl i < M.R
/-- the reference holds the model -/
def oMm (σ : ox_S) (M : oMo) : Prop := M.ok ∧ σ 7 8 = nI M.R ∧ σ 7 12 = nI M.Q ∧ (∀ r, 12 ≤ r → r < M.R → σ 48 r = nI (M.hw r) ∧ σ 49 r = nI (M.lf r) ∧ σ 50 r = nI (M.rt r)) ∧ ∀ i, i < M.Q → σ 51 i = nI (M.rl i)
/-- what a made relation says of a and b -/
def oHw (n h : Nat) (f g : Nat → Nat → Bool) (a b : Nat) : Prop := match h with
  | 0 => f a b = true ∨ g a b = true
  | 1 => f a b = true ∧ g a b = true
  | 2 => f a b = true ∧ g a b = false
  | 3 => ∃ c, c < n ∧ f a c = true ∧ g c b = true
  | 4 => f b a = true
  | _ => oTc n f a b
/-- v is right for relations below R of which W holds -/
def oIR (n : Nat) (M : oMo) (gv : Nat → Nat → Nat → Bool) (R : Nat) (W : Nat → Prop) (v : Nat → Nat → Nat → Bool) : Prop :=
  ∀ r, r < R → W r → ∀ a b, a < n → b < n → (r < 12 → v r a b = gv r a b) ∧ (12 ≤ r → (v r a b = true ↔ oHw n (M.hw r) (v (M.lf r)) (v (M.rt r)) a b))
theorem ox_nar01 (x : Bool) : vp_nar .boolean (if x then 1 else 0) = (if x then 1 else 0) := by cases x <;> rfl
theorem oZ1_up {σ : ox_S} {o N q : Nat} (x : Bool) (h : oZ1 σ o N) : oZ1 (ox_up σ o q (if x then 1 else 0)) o N := fun j hj => by
  rw [ox_up_eq]
  show (if j = q then _ else σ o j) = 0 ∨ (if j = q then _ else σ o j) = 1
  by_cases e : j = q
  · rw [if_pos e]; cases x
    · exact Or.inl rfl
    · exact Or.inr rfl
  · rw [if_neg e]; exact h j hj
theorem ox_up_at {σ : ox_S} {o q j : Nat} {x : Int32} : ox_up σ o q x o j = if j = q then x else σ o j := by rw [ox_up_eq]; rfl
theorem oB_up {σ : ox_S} {r a b r' x y : Nat} (t : Bool) (ha : a < 12) (hb : b < 12) (hx : x < 12) (hy : y < 12) : oB (ox_up σ 56 (144 * r + 12 * a + b) (if t then 1 else 0)) r' x y = if r' = r ∧ x = a ∧ y = b then t else oB σ r' x y := by
  unfold oB
  rw [ox_up_at]
  by_cases e : r' = r ∧ x = a ∧ y = b
  · rw [if_pos e, if_pos (by omega)]; cases t <;> rfl
  · rw [if_neg e, if_neg (by omega)]
theorem oB_low {σ τ : ox_S} {r r' a b : Nat} (h : ∀ q, q < 144 * r → τ 56 q = σ 56 q) (hr : r' < r) (ha : a < 12) (hb : b < 12) : oB τ r' a b = oB σ r' a b := by
  unfold oB
  rw [h _ (by omega)]
theorem oJn_low {σ τ : ox_S} {r x y a b : Nat} (h : ∀ q, q < 144 * r → τ 56 q = σ 56 q) (hx : x < r) (hy : y < r) (ha : a < 12) (hb : b < 12) : ∀ n, n ≤ 12 → oJn τ x y a b n = oJn σ x y a b n
  | 0, _ => rfl
  | n + 1, hn => by
    have ih := oJn_low h hx hy ha hb n (by omega)
    simp only [oJn, ih]
    rw [h _ (by omega), h _ (by omega)]
theorem oMd_low {σ τ : ox_S} {r n w x y a b : Nat} (h : ∀ q, q < 144 * r → τ 56 q = σ 56 q) (hx : x < r) (hy : y < r) (ha : a < 12) (hb : b < 12) (hn : n ≤ 12) : oMd τ n w x y a b = oMd σ n w x y a b := by
  unfold oMd
  rw [oB_low h hx ha hb, oB_low h hx hb ha, oB_low h hy ha hb, oJn_low h hx hy ha hb n hn]
theorem oMd_hw {σ : ox_S} {n w x y a b : Nat} (hw : w < 5) : oMd σ n w x y a b = true ↔ oHw n w (oB σ x) (oB σ y) a b := by
  match w, hw with
  | 0, _ => simp [oMd, oHw]
  | 1, _ => simp [oMd, oHw]
  | 2, _ => simp [oMd, oHw]
  | 3, _ => exact oJn_ex n
  | 4, _ => simp [oMd, oHw]
  | w + 5, hw => exact absurd hw (by omega)
theorem oTc_ext {n : Nat} {f g : Nat → Nat → Bool} (h : ∀ a b, a < n → b < n → f a b = g a b) {a b : Nat} (q : oTc n f a b) : oTc n g a b :=
  fun R h1 h2 => q R (fun x y hx hy e => h1 x y hx hy (by rw [← h x y hx hy]; exact e)) h2
theorem oHw_ext {n w a b : Nat} {f g f' g' : Nat → Nat → Bool} (hf : ∀ a b, a < n → b < n → f a b = f' a b) (hg : ∀ a b, a < n → b < n → g a b = g' a b) (ha : a < n) (hb : b < n) : oHw n w f g a b ↔ oHw n w f' g' a b := by
  unfold oHw
  split
  · rw [hf a b ha hb, hg a b ha hb]
  · rw [hf a b ha hb, hg a b ha hb]
  · rw [hf a b ha hb, hg a b ha hb]
  · constructor
    · rintro ⟨c, hc, h1, h2⟩
      exact ⟨c, hc, by rw [← hf a c ha hc]; exact h1, by rw [← hg c b hc hb]; exact h2⟩
    · rintro ⟨c, hc, h1, h2⟩
      exact ⟨c, hc, by rw [hf a c ha hc]; exact h1, by rw [hg c b hc hb]; exact h2⟩
  · rw [hf b a hb ha]
  · exact ⟨oTc_ext hf, oTc_ext (fun a b ha hb => (hf a b ha hb).symm)⟩
/-- what is right is one -/
theorem oIR_one {n R : Nat} {M : oMo} {gv v v' : Nat → Nat → Nat → Bool} {W W' : Nat → Prop} (hM : M.ok) (hR : R ≤ M.R) (hW : ∀ r, 12 ≤ r → r < R → W r → W (M.lf r) ∧ W (M.rt r)) (hW' : ∀ r, W r → W' r) (h : oIR n M gv R W v) (h' : oIR n M gv R W' v') :
    ∀ r, r < R → W r → ∀ a b, a < n → b < n → v r a b = v' r a b := by
  intro r
  induction r using Nat.strongRecOn with
  | ind r ih =>
    intro hr hw a b ha hb
    obtain ⟨h1, h2⟩ := h r hr hw a b ha hb
    obtain ⟨g1, g2⟩ := h' r hr (hW' r hw) a b ha hb
    rcases Nat.lt_or_ge r 12 with q | q
    · rw [h1 q, g1 q]
    · obtain ⟨m1, m2, m3⟩ := hM.2.2.2.1 r q (by omega)
      obtain ⟨w1, w2⟩ := hW r q hr hw
      have e := oHw_ext (w := M.hw r) (ih (M.lf r) m2 (by omega) w1) (ih (M.rt r) m3 (by omega) w2) ha hb
      have e2 : v r a b = true ↔ v' r a b = true := (h2 q).trans (e.trans (g2 q).symm)
      cases hv : v r a b <;> cases hv' : v' r a b <;> simp_all
/-- while relation r is filled: τ at its beginning -/
def oRi (P : oPr) (M : oMo) (σ τ τ' : ox_S) (r a b : Nat) : Prop :=
  (∀ o, o ≠ 56 → τ' o = τ o) ∧ (∀ q, q < 144 * r → τ' 56 q = τ 56 q) ∧ oZ1 τ' 56 5760 ∧ ∀ x y, x < P.n → y < P.n → (x < a ∨ (x = a ∧ y < b)) → oB τ' r x y = if r < 12 then oGv P σ r x y else oMd τ P.n (M.hw r) (M.lf r) (M.rt r) x y
theorem oGv_ext {P : oPr} {σ τ : ox_S} {r a b : Nat} (h52 : τ 52 = σ 52) (h55 : τ 55 = σ 55) : oGv P τ r a b = oGv P σ r a b := by
  unfold oGv oFr
  rw [h52, h55]
theorem oM_ext {P : oPr} {σ τ : ox_S} (h : oM σ P) (h1 : τ 7 1 = σ 7 1) (h2 : τ 7 2 = σ 7 2) (h3 : ∀ o, 43 ≤ o → o ≤ 47 → τ o = σ o) : oM τ P := by
  obtain ⟨a1, a2, a3, a4⟩ := h
  refine ⟨a1, by rw [h1]; exact a2, by rw [h2]; exact a3, fun e he => ?_⟩
  rw [h3 43 (by decide) (by decide), h3 44 (by decide) (by decide), h3 45 (by decide) (by decide), h3 46 (by decide) (by decide), h3 47 (by decide) (by decide)]
  exact a4 e he
set_option maxHeartbeats 1000000 in
theorem ot_relate {L k : Nat} {σ : ox_S} {P : oPr} {M : oMo} (h : oM σ P) (hm : oMm σ M) (hs : oSr σ P) (hz : oZ1 σ 56 5760) (hk : 4 ≤ k) (hk9 : k ≤ 9) :
    oT L k 76 0 [some (.ref 7), none, none, none] [] σ (fun o σ' => o = .inl none ∧ (∀ o, o ≠ 56 → σ' o = σ o) ∧ oZ1 σ' 56 5760 ∧ oIR P.n M (oGv P σ) M.R (fun _ => True) (oB σ')) := by
  obtain ⟨k, rfl⟩ : ∃ k', k = k' + 1 := ⟨k - 1, by omega⟩
  obtain ⟨⟨hT, hn, hok⟩, h1, h2, h3⟩ := id h
  obtain ⟨⟨m1, m2, m3, m4, m5⟩, g1, g2, g3, g4⟩ := id hm
  refine oT_N 2 rfl ?_
  have outer : ∀ (d r : Nat) (τ : ox_S) (l2 l3 : Option Value), r + d = M.R → (∀ o, o ≠ 56 → τ o = σ o) → oZ1 τ 56 5760 → oIR P.n M (oGv P σ) r (fun _ => True) (oB τ) →
      oT L (k + 1) 76 2 [some (.ref 7), some (.int (nI r)), l2, l3] [] τ (fun o σ' => o = .inl none ∧ (∀ o, o ≠ 56 → σ' o = σ o) ∧ oZ1 σ' 56 5760 ∧ oIR P.n M (oGv P σ) M.R (fun _ => True) (oB σ')) := by
    intro d
    induction d with
    | zero =>
      intro r τ l2 l3 hr ho hz' hI
      obtain rfl : r = M.R := by omega
      refine oT_N 4 rfl (oT_If (fun _ => ?_) (fun (h0 : ¬ τ 7 8 ≤ nI M.R) => ?_))
      · exact oT_Retv rfl rfl ⟨rfl, ho, hz', hI⟩
      · rw [ho 7 (by decide), g1] at h0
        exact absurd (nI_le (Nat.le_refl _) (by omega)) h0
    | succ d ih =>
      intro r τ l2 l3 hr ho hz' hI
      refine oT_N 4 rfl (oT_If (fun (h0 : τ 7 8 ≤ nI r) => ?_) (fun _ => ?_))
      · rw [ho 7 (by decide), g1] at h0
        exact absurd h0 (nI_ge (by omega) (by omega))
      · refine oT_N 2 rfl ?_
        have hM' : oM τ P := oM_ext h (by rw [ho 7 (by decide)]) (by rw [ho 7 (by decide)]) (fun o o1 o2 => ho o (by omega))
        have inner : ∀ (db a b : Nat) (τ' : ox_S), a < P.n → b + db = P.n → oRi P M σ τ τ' r a b →
            (∀ (τ' : ox_S) (l : Option Value), oRi P M σ τ τ' r (a + 1) 0 → oT L (k + 1) 76 12 [some (.ref 7), some (.int (nI r)), some (.int (nI (a + 1))), l] [] τ' (fun o σ' => o = .inl none ∧ (∀ o, o ≠ 56 → σ' o = σ o) ∧ oZ1 σ' 56 5760 ∧ oIR P.n M (oGv P σ) M.R (fun _ => True) (oB σ'))) →
            oT L (k + 1) 76 22 [some (.ref 7), some (.int (nI r)), some (.int (nI a)), some (.int (nI b))] [] τ' (fun o σ' => o = .inl none ∧ (∀ o, o ≠ 56 → σ' o = σ o) ∧ oZ1 σ' 56 5760 ∧ oIR P.n M (oGv P σ) M.R (fun _ => True) (oB σ')) := by
          intro db
          induction db with
          | zero =>
            intro a b τ' ha hb hJ cont
            obtain rfl : b = P.n := by omega
            refine oT_N 4 rfl (oT_If (fun _ => ?_) (fun (h0 : ¬ τ' 7 2 ≤ nI P.n) => ?_))
            · refine oT_N 2 rfl ?_
              have e := cont τ' (some (.int (nI P.n))) ⟨hJ.1, hJ.2.1, hJ.2.2.1, fun x y hx hy hxy => hJ.2.2.2 x y hx hy (by omega)⟩
              rw [← ox_inc a] at e
              exact e
            · rw [hJ.1 7 (by decide), ho 7 (by decide), h2] at h0
              exact absurd (nI_le (Nat.le_refl _) (by omega)) h0
          | succ db ihb =>
            intro a b τ' ha hb hJ cont
            obtain ⟨j1, j2, j3, j4⟩ := id hJ
            have jo : ∀ o, o ≠ 56 → τ' o = σ o := fun o q => by rw [j1 o q, ho o q]
            refine oT_N 4 rfl (oT_If (fun (h0 : τ' 7 2 ≤ nI b) => ?_) (fun _ => ?_))
            · rw [jo 7 (by decide), h2] at h0
              exact absurd h0 (nI_ge (by omega) (by omega))
            · have hset : ∀ t : Bool, (t = if r < 12 then oGv P σ r a b else oMd τ P.n (M.hw r) (M.lf r) (M.rt r) a b) → oT L (k + 1) 76 22 [some (.ref 7), some (.int (nI r)), some (.int (nI a)), some (.int (nI b + Int32.ofInt 1))] [] (ox_up τ' 56 (144 * r + 12 * a + b) (if t then 1 else 0)) (fun o σ' => o = .inl none ∧ (∀ o, o ≠ 56 → σ' o = σ o) ∧ oZ1 σ' 56 5760 ∧ oIR P.n M (oGv P σ) M.R (fun _ => True) (oB σ')) := fun t ht => by
                have e := ihb a (b + 1) (ox_up τ' 56 (144 * r + 12 * a + b) (if t then 1 else 0)) ha (by omega) ⟨fun o q => by rw [ox_up_ne q, j1 o q], fun q hq => by rw [ox_up_at, if_neg (by omega), j2 q hq], oZ1_up t j3, fun x y hx hy hxy => by
                  rw [oB_up t (by omega) (by omega) (by omega) (by omega)]
                  by_cases e : r = r ∧ x = a ∧ y = b
                  · rw [if_pos e, ht, e.2.1, e.2.2]
                  · rw [if_neg e]
                    exact j4 x y hx hy (by omega)⟩ cont
                rw [← ox_inc b] at e
                exact e
              refine oT_N 14 rfl (oT_If (fun (q : nI 12 ≤ nI r) => ?_) (fun (q : ¬ nI 12 ≤ nI r) => ?_))
              · have hr12 : ¬ r < 12 := fun q2 => nI_ge q2 (by decide) q
                obtain ⟨s1, s2, s3⟩ := m4 r (by omega) (by omega)
                obtain ⟨t1, t2, t3⟩ := g3 r (by omega) (by omega)
                refine oT_N 4 rfl (oT_V rfl rfl rfl rfl (by omega) (by omega) (ot_isMade (n := P.n) j3 (by rw [jo 7 (by decide)]; exact h2) hn (by omega) s1 (by rw [jo 48 (by decide)]; exact t1) (by rw [jo 49 (by decide)]; exact t2) (by rw [jo 50 (by decide)]; exact t3) (by omega) (by omega) (by omega) (by omega) (by omega) (by omega)) (fun x σ2 h => by cases h.1) (fun v σ2 hv => ?_))
                obtain ⟨hv, rfl⟩ := hv
                cases hv
                refine oT_Zs (o := 56) (n := (Int16.ofInt 144).toInt32 * nI r + (Int8.ofInt 12).toInt32 * nI a + nI b) (x := if oMd σ2 P.n (M.hw r) (M.lf r) (M.rt r) a b then 1 else 0) rfl ⟨rfl, by decide⟩ (by rw [ox_i3]; exact ox_ix (N := 5760) (by omega) (by decide)) ?_
                rw [ox_i3, nI_clamp (by omega), ox_nar01]
                exact oT_N 2 rfl (hset _ (by rw [if_neg hr12]; exact oMd_low j2 s2 s3 (by omega) (by omega) hn))
              · have hr12 : r < 12 := Nat.lt_of_not_le (fun q2 => q (nI_le q2 (by omega)))
                refine oT_N 4 rfl (oT_V rfl rfl rfl rfl (by omega) (by omega) (ot_isGiven (σ := τ') (oM_ext h (by rw [jo 7 (by decide)]) (by rw [jo 7 (by decide)]) (fun o o1 o2 => jo o (by omega))) (fun e he hk => by rw [jo 52 (by decide)]; exact hs e he hk) hr12 ha (by omega) (by omega) (by omega)) (fun x σ2 h => by cases h.1) (fun v σ2 hv => ?_))
                obtain ⟨hv, rfl⟩ := hv
                cases hv
                refine oT_N 1 rfl (oT_Zs (o := 56) (n := (Int16.ofInt 144).toInt32 * nI r + (Int8.ofInt 12).toInt32 * nI a + nI b) (x := if oGv P σ2 r a b then 1 else 0) rfl ⟨rfl, by decide⟩ (by rw [ox_i3]; exact ox_ix (N := 5760) (by omega) (by decide)) ?_)
                rw [ox_i3, nI_clamp (by omega), ox_nar01]
                exact oT_N 2 rfl (hset _ (by rw [if_pos hr12]; exact oGv_ext (jo 52 (by decide)) (jo 55 (by decide))))
        have mid : ∀ (da a : Nat) (τ' : ox_S) (l : Option Value), a + da = P.n → oRi P M σ τ τ' r a 0 → oT L (k + 1) 76 12 [some (.ref 7), some (.int (nI r)), some (.int (nI a)), l] [] τ' (fun o σ' => o = .inl none ∧ (∀ o, o ≠ 56 → σ' o = σ o) ∧ oZ1 σ' 56 5760 ∧ oIR P.n M (oGv P σ) M.R (fun _ => True) (oB σ')) := by
          intro da
          induction da with
          | zero =>
            intro a τ' l ha hJ
            obtain rfl : a = P.n := by omega
            obtain ⟨j1, j2, j3, j4⟩ := id hJ
            have jo : ∀ o, o ≠ 56 → τ' o = σ o := fun o q => by rw [j1 o q, ho o q]
            have hlow : ∀ r', r' < r → ∀ x y, x < P.n → y < P.n → oB τ' r' x y = oB τ r' x y := fun r' q x y hx hy => oB_low j2 q (by omega) (by omega)
            -- of the lower relations
            have hkeep : ∀ τ2 : ox_S, (∀ r', r' < r → ∀ x y, x < P.n → y < P.n → oB τ2 r' x y = oB τ r' x y) → oIR P.n M (oGv P σ) r (fun _ => True) (oB τ2) := fun τ2 hq r' hr' _ x y hx hy => by
              obtain ⟨i1, i2⟩ := hI r' hr' trivial x y hx hy
              refine ⟨fun q => by rw [hq r' hr' x y hx hy]; exact i1 q, fun q => ?_⟩
              obtain ⟨s1, s2, s3⟩ := m4 r' q (by omega)
              rw [hq r' hr' x y hx hy, i2 q]
              exact oHw_ext (fun x y hx hy => (hq _ (by omega) x y hx hy).symm) (fun x y hx hy => (hq _ (by omega) x y hx hy).symm) hx hy
            have hnext : ∀ τ2 : ox_S, (∀ o, o ≠ 56 → τ2 o = σ o) → oZ1 τ2 56 5760 → (∀ r', r' < r → ∀ x y, x < P.n → y < P.n → oB τ2 r' x y = oB τ r' x y) → (∀ x y, x < P.n → y < P.n → (r < 12 → oB τ2 r x y = oGv P σ r x y) ∧ (12 ≤ r → (oB τ2 r x y = true ↔ oHw P.n (M.hw r) (oB τ2 (M.lf r)) (oB τ2 (M.rt r)) x y))) → oT L (k + 1) 76 2 [some (.ref 7), some (.int (nI r + Int32.ofInt 1)), some (.int (nI P.n)), l] [] τ2 (fun o σ' => o = .inl none ∧ (∀ o, o ≠ 56 → σ' o = σ o) ∧ oZ1 σ' 56 5760 ∧ oIR P.n M (oGv P σ) M.R (fun _ => True) (oB σ')) := fun τ2 q1 q2 q3 q4 => by
              have e := ih (r + 1) τ2 (some (.int (nI P.n))) l (by omega) q1 q2 (fun r' hr' _ x y hx hy => by
                rcases Nat.lt_or_ge r' r with q | q
                · exact hkeep τ2 q3 r' q trivial x y hx hy
                · obtain rfl : r' = r := by omega
                  exact q4 x y hx hy)
              rw [← ox_inc r] at e
              exact e
            refine oT_N 4 rfl (oT_If (fun _ => ?_) (fun (h0 : ¬ τ' 7 2 ≤ nI P.n) => ?_))
            · refine oT_N 3 rfl (oT_If (fun (q : nI r < nI 12) => ?_) (fun (q : ¬ nI r < nI 12) => ?_))
              · have hr12 : r < 12 := Nat.lt_of_not_le (fun q2 => Int32.not_lt.mpr (nI_le q2 (by omega)) q)
                refine oT_N 2 rfl (hnext τ' jo j3 hlow (fun x y hx hy => ⟨fun _ => ?_, fun q => by omega⟩))
                rw [j4 x y hx hy (Or.inl hx), if_pos hr12]
              · have hr12 : 12 ≤ r := Nat.le_of_not_lt (fun q2 => q (Int32.not_le.mp (nI_ge q2 (by decide))))
                obtain ⟨s1, s2, s3⟩ := m4 r (by omega) (by omega)
                obtain ⟨t1, t2, t3⟩ := g3 r (by omega) (by omega)
                have jv : ∀ x y, x < P.n → y < P.n → oB τ' r x y = oMd τ P.n (M.hw r) (M.lf r) (M.rt r) x y := fun x y hx hy => by rw [j4 x y hx hy (Or.inl hx), if_neg (by omega)]
                refine oT_N 3 rfl (oT_I (o := 48) (n := nI r) rfl (Or.inl ⟨rfl, by decide⟩) (ox_ix (N := 40) (by omega) (by decide)) ?_)
                rw [nI_clamp (show r < 2 ^ 31 by omega), jo 48 (by decide), t1]
                refine oT_N 2 rfl (oT_If (fun (q5 : nI (M.hw r) = nI 5) => ?_) (fun (q5 : ¬ nI (M.hw r) = nI 5) => ?_))
                · have h5 : M.hw r = 5 := (nI_eq (by omega) (by decide)).mp q5
                  refine oT_N 2 rfl (oT_V rfl rfl rfl rfl (by omega) (by omega) (ot_close (n := P.n) j3 (by rw [jo 7 (by decide)]; exact h2) hn (by omega) (by omega) (by omega)) (fun x σ2 h => by cases h.1) (fun v σ2 hv => ?_))
                  obtain ⟨hv, ⟨c1, c2, c3, c4, c5⟩, c6⟩ := hv
                  cases hv
                  have c2' : ∀ r', r' < r → ∀ x y, x < P.n → y < P.n → oB σ2 r' x y = oB τ r' x y := fun r' q x y hx hy => by
                    rw [← hlow r' q x y hx hy]
                    unfold oB
                    rw [c2 _ (fun a b ha hb => by omega)]
                  refine oT_N 2 rfl (hnext σ2 (fun o q => by rw [c1 o q, jo o q]) c3 c2' (fun x y hx hy => ⟨fun q => by omega, fun _ => ?_⟩))
                  rw [c6 x y hx hy, h5]
                  show oTc _ _ _ _ ↔ oTc _ _ _ _
                  have ev : ∀ x y, x < P.n → y < P.n → oB τ' r x y = oB σ2 (M.lf r) x y := fun x y hx hy => by rw [jv x y hx hy, h5, c2' _ s2 x y hx hy]; rfl
                  exact ⟨oTc_ext ev, oTc_ext (fun a b ha hb => (ev a b ha hb).symm)⟩
                · have h5 : M.hw r ≠ 5 := fun e => q5 (by rw [e])
                  refine oT_N 2 rfl (hnext τ' jo j3 hlow (fun x y hx hy => ⟨fun q => by omega, fun _ => ?_⟩))
                  rw [jv x y hx hy, oMd_hw (by omega)]
                  exact oHw_ext (fun x y hx hy => (hlow _ s2 x y hx hy).symm) (fun x y hx hy => (hlow _ s3 x y hx hy).symm) hx hy
            · rw [jo 7 (by decide), h2] at h0
              exact absurd (nI_le (Nat.le_refl _) (by omega)) h0
          | succ da iha =>
            intro a τ' l ha hJ
            have jo : ∀ o, o ≠ 56 → τ' o = σ o := fun o q => by rw [hJ.1 o q, ho o q]
            refine oT_N 4 rfl (oT_If (fun (h0 : τ' 7 2 ≤ nI a) => ?_) (fun _ => ?_))
            · rw [jo 7 (by decide), h2] at h0
              exact absurd h0 (nI_ge (by omega) (by omega))
            · refine oT_N 2 rfl ?_
              exact inner P.n a 0 τ' (by omega) (by omega) hJ (fun τ' l h => iha (a + 1) τ' l (by omega) h)
        exact mid P.n 0 τ l3 (by omega) ⟨fun _ _ => rfl, fun _ _ => rfl, hz', fun x y _ _ q => by omega⟩
  exact outer M.R 0 σ none none (by omega) (fun _ _ => rfl) hz (fun r hr => absurd hr (by omega))
end
section
/-- k steps lead from a to b -/
def oPt (n : Nat) (f : Nat → Nat → Bool) : Nat → Nat → Nat → Prop
  | 0, a, b => a = b
  | k + 1, a, b => ∃ c, c < n ∧ oPt n f k a c ∧ f c b = true
/-- m is how few steps go around, 0 if none do -/
def oSh (n : Nat) (f : Nat → Nat → Bool) (m : Nat) : Prop :=
  (m = 0 ∧ ∀ j, 1 ≤ j → j ≤ n → ∀ a, a < n → ¬ oPt n f j a a) ∨ (1 ≤ m ∧ m ≤ n ∧ (∃ a, a < n ∧ oPt n f m a a) ∧ ∀ j, 1 ≤ j → j < m → ∀ a, a < n → ¬ oPt n f j a a)
/-- the reference's 'steps' -/
def oS (σ : ox_S) (k a b : Nat) : Bool := decide (σ 57 (144 * k + 12 * a + b) = 1)
theorem oS_up {σ : ox_S} {r a b r' x y : Nat} (t : Bool) (ha : a < 12) (hb : b < 12) (hx : x < 12) (hy : y < 12) : oS (ox_up σ 57 (144 * r + 12 * a + b) (if t then 1 else 0)) r' x y = if r' = r ∧ x = a ∧ y = b then t else oS σ r' x y := by
  unfold oS
  rw [ox_up_at]
  by_cases e : r' = r ∧ x = a ∧ y = b
  · rw [if_pos e, if_pos (by omega)]; cases t <;> rfl
  · rw [if_neg e, if_neg (by omega)]
def oShS (σ τ : ox_S) (n r m : Nat) : Prop := (∀ o, o ≠ 57 → τ o = σ o) ∧ oZ1 τ 57 1872 ∧ oSh n (oB σ r) m ∧ ∀ j, j ≤ m → ∀ a b, a < n → b < n → (oS τ j a b = true ↔ oPt n (oB σ r) j a b)
/-- level k of 'steps' is filled up to a, b; m: the ring found on it -/
def oLv (σ τ : ox_S) (n r m k a b : Nat) : Prop := (∀ o, o ≠ 57 → τ o = σ o) ∧ oZ1 τ 57 1872 ∧ (∀ j, j < k → ∀ x y, x < n → y < n → (oS τ j x y = true ↔ oPt n (oB σ r) j x y)) ∧ (∀ x y, x < n → y < n → (x < a ∨ (x = a ∧ y < b)) → (oS τ k x y = true ↔ oPt n (oB σ r) k x y)) ∧ (∀ j, 1 ≤ j → j < k → ∀ x, x < n → ¬ oPt n (oB σ r) j x x) ∧
  ((m = 0 ∧ ∀ x, x < n → (x < a ∨ (x = a ∧ x < b)) → ¬ oPt n (oB σ r) k x x) ∨ (m = k ∧ ∃ x, x < n ∧ oPt n (oB σ r) k x x))
set_option maxHeartbeats 1000000 in
theorem ot_shortest {L k r n : Nat} {σ : ox_S} {Post : ox_O → ox_S → Prop} (hz : oZ1 σ 56 5760) (hz7 : oZ1 σ 57 1872) (hn : σ 7 2 = nI n) (hn12 : n ≤ 12) (hr : r < 40) (hk : 2 ≤ k) (hk9 : k ≤ 9) (hP : ∀ m τ, oShS σ τ n r m → Post (.inl (some (.int (nI m)))) τ) :
    oT L k 77 0 [some (.ref 7), some (.int (nI r)), none, none, none, none, none, none] [] σ Post := by
  obtain ⟨k, rfl⟩ : ∃ k', k = k' + 1 := ⟨k - 1, by omega⟩
  refine oT_N 2 rfl ?_
  -- the levels
  have levels : ∀ (d m j : Nat) (τ : ox_S) (l4 l5 l6 l7 : Option Value), 1 ≤ j → j + d = n + 1 → (m = 0 ∨ (m + 1 = j ∧ 1 ≤ m ∧ ∃ x, x < n ∧ oPt n (oB σ r) m x x)) → (∀ o, o ≠ 57 → τ o = σ o) → oZ1 τ 57 1872 → (∀ j', j' < j → ∀ x y, x < n → y < n → (oS τ j' x y = true ↔ oPt n (oB σ r) j' x y)) → (∀ j', 1 ≤ j' → j' < j → (m = 0 ∨ j' < m) → ∀ x, x < n → ¬ oPt n (oB σ r) j' x x) →
      oT L (k + 1) 77 57 [some (.ref 7), some (.int (nI r)), some (.int (nI m)), some (.int (nI j)), l4, l5, l6, l7] [] τ Post := by
    intro d
    induction d with
    | zero =>
      intro m j τ l4 l5 l6 l7 h1 hj hm ho hz' hS hno
      refine oT_N 4 rfl (oT_If (fun _ => ?_) (fun (h0 : ¬ τ 7 2 < nI j) => ?_))
      · refine oT_N 1 rfl (oT_Ret rfl rfl rfl (hP m τ ⟨ho, hz', ?_, fun j' hj' => hS j' (by omega)⟩))
        rcases hm with q | ⟨q1, q2, q3⟩
        · exact Or.inl ⟨q, fun j' h1 h2 => hno j' h1 (by omega) (Or.inl q)⟩
        · exact Or.inr ⟨q2, by omega, q3, fun j' h1 h2 => hno j' h1 (by omega) (Or.inr h2)⟩
      · rw [ho 7 (by decide), hn] at h0
        exact absurd (Int32.not_le.mp (nI_ge (show n < j by omega) (by omega))) h0
    | succ d ih =>
      intro m j τ l4 l5 l6 l7 h1 hj hm ho hz' hS hno
      refine oT_N 4 rfl (oT_If (fun (h0 : τ 7 2 < nI j) => ?_) (fun _ => ?_))
      · rw [ho 7 (by decide), hn] at h0
        exact absurd h0 (Int32.not_lt.mpr (nI_le (by omega) (by omega)))
      · refine oT_N 2 rfl (oT_If (fun (q : nI m = 0) => ?_) (fun (q : ¬ nI m = 0) => ?_))
        · obtain rfl : m = 0 := (nI_eq (by omega) (by decide)).mp q
          refine oT_N 2 rfl ?_
          obtain ⟨jj, rfl⟩ : ∃ jj, j = jj + 1 := ⟨j - 1, by omega⟩
          have inner : ∀ (db a b m : Nat) (τ' : ox_S) (l6 l7 : Option Value), a < n → b + db = n → oLv σ τ' n r m (jj + 1) a b →
              (∀ (m : Nat) (τ' : ox_S) (l5 l6 l7 : Option Value), oLv σ τ' n r m (jj + 1) (a + 1) 0 → oT L (k + 1) 77 72 [some (.ref 7), some (.int (nI r)), some (.int (nI m)), some (.int (nI (jj + 1))), some (.int (nI (a + 1))), l5, l6, l7] [] τ' Post) →
              oT L (k + 1) 77 84 [some (.ref 7), some (.int (nI r)), some (.int (nI m)), some (.int (nI (jj + 1))), some (.int (nI a)), some (.int (nI b)), l6, l7] [] τ' Post := by
            intro db
            induction db with
            | zero =>
              intro a b m τ' l6 l7 ha hb hJ cont
              obtain rfl : b = n := by omega
              obtain ⟨j1, j2, j3, j4, j5, j6⟩ := hJ
              refine oT_N 4 rfl (oT_If (fun _ => ?_) (fun (h0 : ¬ τ' 7 2 ≤ nI b) => ?_))
              · refine oT_N 2 rfl ?_
                have e := cont m τ' (some (.int (nI b))) l6 l7 ⟨j1, j2, j3, fun x y hx hy q => j4 x y hx hy (by omega), j5, by
                  rcases j6 with ⟨q1, q2⟩ | q
                  · exact Or.inl ⟨q1, fun x hx q => q2 x hx (by omega)⟩
                  · exact Or.inr q⟩
                rw [← ox_inc a] at e
                exact e
              · rw [j1 7 (by decide), hn] at h0
                exact absurd (nI_le (Nat.le_refl _) (by omega)) h0
            | succ db ihb =>
              intro a b m τ' l6 l7 ha hb hJ cont
              obtain ⟨j1, j2, j3, j4, j5, j6⟩ := id hJ
              refine oT_N 4 rfl (oT_If (fun (h0 : τ' 7 2 ≤ nI b) => ?_) (fun _ => ?_))
              · rw [j1 7 (by decide), hn] at h0
                exact absurd h0 (nI_ge (by omega) (by omega))
              · refine oT_N 4 rfl ?_
                have hset : ∀ (t : Bool) (l7 : Option Value), (t = true ↔ oPt n (oB σ r) (jj + 1) a b) → oT L (k + 1) 77 162 [some (.ref 7), some (.int (nI r)), some (.int (nI m)), some (.int (nI (jj + 1))), some (.int (nI a)), some (.int (nI b)), some (.int (if t then 1 else 0)), l7] [] τ' Post := fun t l7 ht => by
                  refine oT_N 12 rfl (oT_Zs (o := 57) (n := (Int16.ofInt 144).toInt32 * nI (jj + 1) + (Int8.ofInt 12).toInt32 * nI a + nI b) (x := if t then 1 else 0) rfl ⟨rfl, by decide⟩ (by rw [ox_i3]; exact ox_ix (N := 1872) (by omega) (by decide)) ?_)
                  rw [ox_i3, nI_clamp (by omega), ox_nar01]
                  have hL : ∀ m', ((m' = 0 ∧ ∀ x, x < n → (x < a ∨ (x = a ∧ x < b + 1)) → ¬ oPt n (oB σ r) (jj + 1) x x) ∨ (m' = jj + 1 ∧ ∃ x, x < n ∧ oPt n (oB σ r) (jj + 1) x x)) → oLv σ (ox_up τ' 57 (144 * (jj + 1) + 12 * a + b) (if t then 1 else 0)) n r m' (jj + 1) a (b + 1) := fun m' hm' => by
                    refine ⟨fun o q => by rw [ox_up_ne q, j1 o q], oZ1_up t j2, fun j' q x y hx hy => ?_, fun x y hx hy q => ?_, j5, hm'⟩
                    · rw [oS_up t (by omega) (by omega) (by omega) (by omega), if_neg (by omega)]
                      exact j3 j' q x y hx hy
                    · rw [oS_up t (by omega) (by omega) (by omega) (by omega)]
                      by_cases e : jj + 1 = jj + 1 ∧ x = a ∧ y = b
                      · rw [if_pos e, e.2.1, e.2.2]; exact ht
                      · rw [if_neg e]
                        exact j4 x y hx hy (by omega)
                  have hkeep : (∀ q : a = b, t = false) → oT L (k + 1) 77 84 [some (.ref 7), some (.int (nI r)), some (.int (nI m)), some (.int (nI (jj + 1))), some (.int (nI a)), some (.int (nI b + Int32.ofInt 1)), some (.int (if t then 1 else 0)), l7] [] (ox_up τ' 57 (144 * (jj + 1) + 12 * a + b) (if t then 1 else 0)) Post := fun hq => by
                    have e := ihb a (b + 1) m _ (some (.int (if t then 1 else 0))) l7 ha (by omega) (hL m (by
                      rcases j6 with ⟨q1, q2⟩ | q
                      · refine Or.inl ⟨q1, fun x hx q hp => ?_⟩
                        by_cases e : x = a ∧ x = b
                        · have := ht.mpr (by rw [← e.1] at *; rw [← e.2]; exact hp)
                          rw [hq (by omega)] at this
                          cases this
                        · exact q2 x hx (by omega) hp
                      · exact Or.inr q)) cont
                    rw [← ox_inc b] at e
                    exact e
                  cases t with
                  | false =>
                    refine oT_N 2 rfl (oT_If (fun _ => ?_) (fun (q : ¬ (0 : Int32) = 0) => absurd rfl q))
                    exact oT_N 4 rfl (hkeep (fun _ => rfl))
                  | true =>
                    refine oT_N 2 rfl (oT_If (fun (q : (1 : Int32) = 0) => absurd q (by decide)) (fun _ => ?_))
                    refine oT_N 3 rfl (oT_If (fun (q : nI a = nI b) => ?_) (fun (q : ¬ nI a = nI b) => ?_))
                    · obtain rfl : a = b := (nI_eq (by omega) (by omega)).mp q
                      have e := ihb a (a + 1) (jj + 1) _ (some (.int 1)) l7 ha (by omega) (hL (jj + 1) (Or.inr ⟨rfl, a, ha, ht.mp rfl⟩)) cont
                      rw [← ox_inc a] at e
                      exact oT_N 5 rfl e
                    · exact oT_N 4 rfl (hkeep (fun e => absurd (by rw [e]) q))
                -- the steps between
                have cs : ∀ (dc c : Nat) (t : Bool), c + dc = n → (t = true ↔ ∃ c', c' < c ∧ oPt n (oB σ r) jj a c' ∧ oB σ r c' b = true) → oT L (k + 1) 77 99 [some (.ref 7), some (.int (nI r)), some (.int (nI m)), some (.int (nI (jj + 1))), some (.int (nI a)), some (.int (nI b)), some (.int (if t then 1 else 0)), some (.int (nI c))] [] τ' Post := by
                  intro dc
                  induction dc with
                  | zero =>
                    intro c t hc ht
                    obtain rfl : c = n := by omega
                    refine oT_N 4 rfl (oT_If (fun _ => ?_) (fun (h0 : ¬ τ' 7 2 ≤ nI c) => ?_))
                    · exact hset t _ ht
                    · rw [j1 7 (by decide), hn] at h0
                      exact absurd (nI_le (Nat.le_refl _) (by omega)) h0
                  | succ dc ihc =>
                    intro c t hc ht
                    refine oT_N 4 rfl (oT_If (fun (h0 : τ' 7 2 ≤ nI c) => ?_) (fun _ => ?_))
                    · rw [j1 7 (by decide), hn] at h0
                      exact absurd h0 (nI_ge (by omega) (by omega))
                    · cases t with
                      | true =>
                        refine oT_N 2 rfl (oT_If (fun (q : (1 : Int32) = 0) => absurd q (by decide)) (fun _ => ?_))
                        refine hset true _ ⟨fun _ => ?_, fun _ => rfl⟩
                        obtain ⟨c', g1, g2, g3⟩ := ht.mp rfl
                        exact ⟨c', by omega, g2, g3⟩
                      | false =>
                        refine oT_N 2 rfl (oT_If (fun _ => ?_) (fun (q : ¬ (0 : Int32) = 0) => absurd rfl q))
                        have hno : ¬ (oPt n (oB σ r) jj a c ∧ oB σ r c b = true) → oT L (k + 1) 77 99 [some (.ref 7), some (.int (nI r)), some (.int (nI m)), some (.int (nI (jj + 1))), some (.int (nI a)), some (.int (nI b)), some (.int 0), some (.int (nI c + Int32.ofInt 1))] [] τ' Post := fun hq => by
                          have e := ihc (c + 1) false (by omega) ⟨fun q => (by cases q), fun ⟨c', g1, g2, g3⟩ => by
                            rcases Nat.lt_or_ge c' c with q | q
                            · exact ht.mpr ⟨c', q, g2, g3⟩
                            · obtain rfl : c' = c := by omega
                              exact absurd ⟨g2, g3⟩ hq⟩
                          rw [← ox_inc c] at e
                          exact e
                        have hix : (Int16.ofInt 144).toInt32 * (nI (jj + 1) - Int32.ofInt 1) + (Int8.ofInt 12).toInt32 * nI a + nI c = nI (144 * jj + 12 * a + c) := by
                          rw [show nI (jj + 1) - Int32.ofInt 1 = nI jj from by rw [← ox_inc]; exact Int32.add_sub_cancel _ _]
                          exact ox_i3 jj a c
                        refine oT_N 13 rfl (oT_Z (o := 57) (n := (Int16.ofInt 144).toInt32 * (nI (jj + 1) - Int32.ofInt 1) + (Int8.ofInt 12).toInt32 * nI a + nI c) rfl ⟨rfl, by decide⟩ (by rw [hix]; exact ox_ix (N := 1872) (by omega) (by decide)) ?_)
                        rw [hix, nI_clamp (by omega)]
                        have hpt := j3 jj (by omega) a c ha (by omega)
                        refine oT_N 1 rfl (oT_If (fun (q : τ' 57 (144 * jj + 12 * a + c) = 0) => ?_) (fun (q : ¬ τ' 57 (144 * jj + 12 * a + c) = 0) => ?_))
                        · refine oT_N 4 rfl (hno (fun e => ?_))
                          have := hpt.mpr e.1
                          simp [oS, q] at this
                        · have hp : oPt n (oB σ r) jj a c := hpt.mp (by
                            rcases j2 (144 * jj + 12 * a + c) (by omega) with e | e
                            · exact absurd e q
                            · simp [oS, e])
                          have hB : oB τ' r c b = oB σ r c b := by unfold oB; rw [j1 56 (by decide)]
                          refine oT_N 4 rfl (oT_V rfl rfl rfl rfl (by omega) (by omega) (ot_isB (by unfold oZ1; rw [j1 56 (by decide)]; exact hz) hr (by omega) (by omega)) (fun x σ2 h => by cases h.1) (fun v σ2 hv => ?_))
                          obtain ⟨hv, rfl⟩ := hv
                          cases hv
                          rw [hB]
                          cases hb2 : oB σ r c b with
                          | false =>
                            refine oT_N 1 rfl (oT_If (fun _ => ?_) (fun (q : ¬ (0 : Int32) = 0) => absurd rfl q))
                            exact oT_N 4 rfl (hno (fun e => by rw [hb2] at e; cases e.2))
                          | true =>
                            refine oT_N 1 rfl (oT_If (fun (q : (1 : Int32) = 0) => absurd q (by decide)) (fun _ => ?_))
                            have e := ihc (c + 1) true (by omega) ⟨fun _ => ⟨c, by omega, hp, hb2⟩, fun _ => rfl⟩
                            rw [← ox_inc c] at e
                            exact oT_N 5 rfl e
                exact cs n 0 false (by omega) ⟨fun q => (by cases q), fun ⟨c', q, _⟩ => by omega⟩
          have mid : ∀ (da a m : Nat) (τ' : ox_S) (l5 l6 l7 : Option Value), a + da = n → oLv σ τ' n r m (jj + 1) a 0 → oT L (k + 1) 77 72 [some (.ref 7), some (.int (nI r)), some (.int (nI m)), some (.int (nI (jj + 1))), some (.int (nI a)), l5, l6, l7] [] τ' Post := by
            intro da
            induction da with
            | zero =>
              intro a m τ' l5 l6 l7 ha hJ
              obtain rfl : a = n := by omega
              obtain ⟨j1, j2, j3, j4, j5, j6⟩ := id hJ
              refine oT_N 4 rfl (oT_If (fun _ => ?_) (fun (h0 : ¬ τ' 7 2 ≤ nI a) => ?_))
              · refine oT_N 2 rfl ?_
                have e := ih m (jj + 1 + 1) τ' (some (.int (nI a))) l5 l6 l7 (by omega) (by omega) (by
                  rcases j6 with q | q
                  · exact Or.inl q.1
                  · exact Or.inr ⟨by omega, by omega, by rw [q.1]; exact q.2⟩) j1 j2 (fun j' q x y hx hy => by
                    rcases Nat.lt_or_ge j' (jj + 1) with q2 | q2
                    · exact j3 j' q2 x y hx hy
                    · obtain rfl : j' = jj + 1 := by omega
                      exact j4 x y hx hy (Or.inl hx)) (fun j' q1 q2 q3 x hx => by
                    rcases Nat.lt_or_ge j' (jj + 1) with q4 | q4
                    · exact j5 j' q1 q4 x hx
                    · obtain rfl : j' = jj + 1 := by omega
                      rcases j6 with q | q
                      · exact q.2 x hx (Or.inl hx)
                      · exact absurd q.1 (by omega))
                rw [← ox_inc (jj + 1)] at e
                exact e
              · rw [j1 7 (by decide), hn] at h0
                exact absurd (nI_le (Nat.le_refl _) (by omega)) h0
            | succ da iha =>
              intro a m τ' l5 l6 l7 ha hJ
              refine oT_N 4 rfl (oT_If (fun (h0 : τ' 7 2 ≤ nI a) => ?_) (fun _ => ?_))
              · rw [hJ.1 7 (by decide), hn] at h0
                exact absurd h0 (nI_ge (by omega) (by omega))
              · refine oT_N 2 rfl ?_
                exact inner n a 0 m τ' l6 l7 (by omega) (by omega) hJ (fun m τ' l5 l6 l7 h => iha (a + 1) m τ' l5 l6 l7 (by omega) h)
          exact mid n 0 0 τ l5 l6 l7 (by omega) ⟨ho, hz', hS, fun x y _ _ q => by omega, fun j' q1 q2 => hno j' q1 q2 (Or.inl rfl), Or.inl ⟨rfl, fun x _ q => by omega⟩⟩
        · have hm0 : m ≠ 0 := fun e => q (by rw [e]; rfl)
          rcases hm with q1 | ⟨q1, q2, q3⟩
          · exact absurd q1 hm0
          · exact oT_N 1 rfl (oT_Ret rfl rfl rfl (hP m τ ⟨ho, hz', Or.inr ⟨q2, by omega, q3, fun j' h1 h2 => hno j' h1 (by omega) (Or.inr h2)⟩, fun j' hj' => hS j' (by omega)⟩))
  -- level 0
  have init2 : ∀ (db a b : Nat) (τ' : ox_S) (l4 l5 l6 l7 : Option Value), a < n → b + db = n → (∀ o, o ≠ 57 → τ' o = σ o) → oZ1 τ' 57 1872 → (∀ x y, x < n → y < n → (x < a ∨ (x = a ∧ y < b)) → (oS τ' 0 x y = true ↔ x = y)) →
      (∀ (τ' : ox_S) (l3 : Option Value), (∀ o, o ≠ 57 → τ' o = σ o) → oZ1 τ' 57 1872 → (∀ x y, x < n → y < n → (x < a + 1) → (oS τ' 0 x y = true ↔ x = y)) → oT L (k + 1) 77 2 [some (.ref 7), some (.int (nI r)), some (.int (nI (a + 1))), l3, l4, l5, l6, l7] [] τ' Post) →
      oT L (k + 1) 77 12 [some (.ref 7), some (.int (nI r)), some (.int (nI a)), some (.int (nI b)), l4, l5, l6, l7] [] τ' Post := by
    intro db
    induction db with
    | zero =>
      intro a b τ' l4 l5 l6 l7 ha hb j1 j2 j3 cont
      obtain rfl : b = n := by omega
      refine oT_N 4 rfl (oT_If (fun _ => ?_) (fun (h0 : ¬ τ' 7 2 ≤ nI b) => ?_))
      · have e := cont τ' (some (.int (nI b))) j1 j2 (fun x y hx hy q => j3 x y hx hy (by omega))
        rw [← ox_inc a] at e
        exact oT_N 2 rfl e
      · rw [j1 7 (by decide), hn] at h0
        exact absurd (nI_le (Nat.le_refl _) (by omega)) h0
    | succ db ihb =>
      intro a b τ' l4 l5 l6 l7 ha hb j1 j2 j3 cont
      refine oT_N 4 rfl (oT_If (fun (h0 : τ' 7 2 ≤ nI b) => ?_) (fun _ => ?_))
      · rw [j1 7 (by decide), hn] at h0
        exact absurd h0 (nI_ge (by omega) (by omega))
      · have hset : ∀ t : Bool, (t = true ↔ a = b) → oT L (k + 1) 77 12 [some (.ref 7), some (.int (nI r)), some (.int (nI a)), some (.int (nI b + Int32.ofInt 1)), l4, l5, l6, l7] [] (ox_up τ' 57 (12 * a + b) (if t then 1 else 0)) Post := fun t ht => by
          have e := ihb a (b + 1) (ox_up τ' 57 (12 * a + b) (if t then 1 else 0)) l4 l5 l6 l7 ha (by omega) (fun o q => by rw [ox_up_ne q, j1 o q]) (oZ1_up t j2) (fun x y hx hy q => by
            have e := oS_up (σ := τ') (r := 0) (a := a) (b := b) (r' := 0) (x := x) (y := y) t (by omega) (by omega) (by omega) (by omega)
            rw [show 144 * 0 + 12 * a + b = 12 * a + b by omega] at e
            rw [e]
            by_cases e2 : (0 : Nat) = 0 ∧ x = a ∧ y = b
            · rw [if_pos e2, e2.2.1, e2.2.2]; exact ht
            · rw [if_neg e2]
              exact j3 x y hx hy (by omega)) cont
          rw [← ox_inc b] at e
          exact e
        refine oT_N 10 rfl (oT_If (fun (q : nI a = nI b) => ?_) (fun (q : ¬ nI a = nI b) => ?_))
        · refine oT_N 2 rfl (oT_Zs (o := 57) (n := (Int8.ofInt 12).toInt32 * nI a + nI b) (x := if true then 1 else 0) rfl ⟨rfl, by decide⟩ (by rw [ox_i2]; exact ox_ix (N := 1872) (by omega) (by decide)) ?_)
          rw [ox_i2, nI_clamp (by omega), ox_nar01]
          exact oT_N 2 rfl (hset true ⟨fun _ => (nI_eq (by omega) (by omega)).mp q, fun _ => rfl⟩)
        · refine oT_N 1 rfl (oT_Zs (o := 57) (n := (Int8.ofInt 12).toInt32 * nI a + nI b) (x := if false then 1 else 0) rfl ⟨rfl, by decide⟩ (by rw [ox_i2]; exact ox_ix (N := 1872) (by omega) (by decide)) ?_)
          rw [ox_i2, nI_clamp (by omega), ox_nar01]
          exact oT_N 2 rfl (hset false ⟨fun e => (by cases e), fun e => absurd (by rw [e]) q⟩)
  have init : ∀ (da a : Nat) (τ' : ox_S) (l3 l4 l5 l6 l7 : Option Value), a + da = n → (∀ o, o ≠ 57 → τ' o = σ o) → oZ1 τ' 57 1872 → (∀ x y, x < n → y < n → x < a → (oS τ' 0 x y = true ↔ x = y)) →
      oT L (k + 1) 77 2 [some (.ref 7), some (.int (nI r)), some (.int (nI a)), l3, l4, l5, l6, l7] [] τ' Post := by
    intro da
    induction da with
    | zero =>
      intro a τ' l3 l4 l5 l6 l7 ha j1 j2 j3
      obtain rfl : a = n := by omega
      refine oT_N 4 rfl (oT_If (fun _ => ?_) (fun (h0 : ¬ τ' 7 2 ≤ nI a) => ?_))
      · refine oT_N 4 rfl ?_
        exact levels a 0 1 τ' l4 l5 l6 l7 (Nat.le_refl 1) (by omega) (Or.inl rfl) j1 j2 (fun j' q x y hx hy => by
          obtain rfl : j' = 0 := by omega
          exact j3 x y hx hy hx) (fun j' q1 q2 => by omega)
      · rw [j1 7 (by decide), hn] at h0
        exact absurd (nI_le (Nat.le_refl _) (by omega)) h0
    | succ da iha =>
      intro a τ' l3 l4 l5 l6 l7 ha j1 j2 j3
      refine oT_N 4 rfl (oT_If (fun (h0 : τ' 7 2 ≤ nI a) => ?_) (fun _ => ?_))
      · rw [j1 7 (by decide), hn] at h0
        exact absurd h0 (nI_ge (by omega) (by omega))
      · refine oT_N 2 rfl ?_
        exact init2 n a 0 τ' l4 l5 l6 l7 (by omega) (by omega) j1 j2 (fun x y hx hy q => j3 x y hx hy (by omega)) (fun τ' l3 c1 c2 c3 => iha (a + 1) τ' l3 l4 l5 l6 l7 (by omega) c1 c2 c3)
  exact init n 0 σ none none none none none (by omega) (fun _ _ => rfl) hz7 (fun x y _ _ q => by omega)
/-- there is a ring -/
def oRg (n : Nat) (f : Nat → Nat → Bool) : Prop := ∃ j a, 1 ≤ j ∧ j ≤ n ∧ a < n ∧ oPt n f j a a
theorem oSh_rg {n m : Nat} {f : Nat → Nat → Bool} (h : oSh n f m) : 0 < m ↔ oRg n f := by
  rcases h with ⟨h1, h2⟩ | ⟨h1, h2, ⟨a, h3, h4⟩, h5⟩
  · exact ⟨fun q => by omega, fun ⟨j, a, q1, q2, q3, q4⟩ => absurd q4 (h2 j q1 q2 a q3)⟩
  · exact ⟨fun _ => ⟨m, a, h1, h2, h3, h4⟩, fun _ => h1⟩
theorem oSh_one {n m m' : Nat} {f : Nat → Nat → Bool} (h : oSh n f m) (h' : oSh n f m') : m = m' := by
  rcases h with ⟨h1, h2⟩ | ⟨h1, h2, ⟨a, h3, h4⟩, h5⟩ <;> rcases h' with ⟨g1, g2⟩ | ⟨g1, g2, ⟨a', g3, g4⟩, g5⟩
  · omega
  · exact absurd g4 (h2 m' g1 g2 a' g3)
  · exact absurd h4 (g2 m h1 h2 a h3)
  · rcases Nat.lt_trichotomy m m' with q | q | q
    · exact absurd h4 (g5 m h1 q a h3)
    · exact q
    · exact absurd g4 (h5 m' g1 q a' g3)
/-- b is the first broken rule, or -1 -/
def oBk (n : Nat) (M : oMo) (v : Nat → Nat → Nat → Bool) (b : Int32) : Prop :=
  (b = -1 ∧ ∀ i, i < M.Q → ¬ oRg n (v (M.rl i))) ∨ ∃ i, i < M.Q ∧ b = nI i ∧ oRg n (v (M.rl i)) ∧ ∀ j, j < i → ¬ oRg n (v (M.rl j))
theorem ot_broken {L k n : Nat} {σ : ox_S} {M : oMo} {Post : ox_O → ox_S → Prop} (hm : oMm σ M) (hz : oZ1 σ 56 5760) (hz7 : oZ1 σ 57 1872) (hn : σ 7 2 = nI n) (hn12 : n ≤ 12) (hk : 3 ≤ k) (hk9 : k ≤ 9) (hP : ∀ b τ, (∀ o, o ≠ 57 → τ o = σ o) → oZ1 τ 57 1872 → oBk n M (oB σ) b → Post (.inl (some (.int b))) τ) :
    oT L k 78 0 [some (.ref 7), none] [] σ Post := by
  obtain ⟨k, rfl⟩ : ∃ k', k = k' + 1 := ⟨k - 1, by omega⟩
  obtain ⟨⟨m1, m2, m3, m4, m5⟩, g1, g2, g3, g4⟩ := id hm
  refine oT_N 2 rfl ?_
  have loop : ∀ (d i : Nat) (τ : ox_S), i + d = M.Q → (∀ o, o ≠ 57 → τ o = σ o) → oZ1 τ 57 1872 → (∀ j, j < i → ¬ oRg n (oB σ (M.rl j))) → oT L (k + 1) 78 2 [some (.ref 7), some (.int (nI i))] [] τ Post := by
    intro d
    induction d with
    | zero =>
      intro i τ hi ho hz' hno
      obtain rfl : i = M.Q := by omega
      refine oT_N 4 rfl (oT_If (fun _ => ?_) (fun (h0 : ¬ τ 7 12 ≤ nI M.Q) => ?_))
      · exact oT_N 1 rfl (oT_Ret rfl rfl rfl (hP _ τ ho hz' (Or.inl ⟨rfl, hno⟩)))
      · rw [ho 7 (by decide), g2] at h0
        exact absurd (nI_le (Nat.le_refl _) (by omega)) h0
    | succ d ih =>
      intro i τ hi ho hz' hno
      refine oT_N 4 rfl (oT_If (fun (h0 : τ 7 12 ≤ nI i) => ?_) (fun _ => ?_))
      · rw [ho 7 (by decide), g2] at h0
        exact absurd h0 (nI_ge (by omega) (by omega))
      · refine oT_N 4 rfl (oT_I (o := 51) (n := nI i) rfl (Or.inl ⟨rfl, by decide⟩) (ox_ix (N := 8) (by omega) (by decide)) ?_)
        rw [nI_clamp (show i < 2 ^ 31 by omega), ho 51 (by decide), g4 i (by omega)]
        have hB : ∀ r, oB τ r = oB σ r := fun r => by funext a b; unfold oB; rw [ho 56 (by decide)]
        have hrl := m5 i (by omega)
        refine oT_V (PostC := fun o τ' => ∃ m, o = .inl (some (.int (nI m))) ∧ oShS τ τ' n (M.rl i) m) rfl rfl rfl rfl (by omega) (by omega) (ot_shortest (n := n) (by unfold oZ1; rw [ho 56 (by decide)]; exact hz) hz' (by rw [ho 7 (by decide)]; exact hn) hn12 (by omega) (by omega) (by omega) (fun m τ' h => ⟨m, rfl, h⟩)) (fun x σ2 h => by obtain ⟨m, h, _⟩ := h; cases h) (fun v σ2 hv => ?_)
        obtain ⟨m, hv, s1, s2, s3, s4⟩ := hv
        cases hv
        rw [hB] at s3
        have hm12 : m ≤ 12 := by rcases s3 with q | q <;> omega
        have so : ∀ o, o ≠ 57 → σ2 o = σ o := fun o q => by rw [s1 o q, ho o q]
        refine oT_N 1 rfl (oT_If (fun (q : nI m ≤ 0) => ?_) (fun (q : ¬ nI m ≤ 0) => ?_))
        · have hm0 : m = 0 := by
            rcases Nat.eq_zero_or_pos m with e | e
            · exact e
            · exact absurd q (nI_ge e (by omega))
          have e := ih (i + 1) σ2 (by omega) so s2 (fun j hj => by
            rcases Nat.lt_or_ge j i with q2 | q2
            · exact hno j q2
            · obtain rfl : j = i := by omega
              intro e
              have := (oSh_rg s3).mpr e
              omega)
          rw [← ox_inc i] at e
          exact oT_N 2 rfl e
        · have hm0 : 0 < m := Nat.pos_of_ne_zero (fun e => q (by rw [e]; decide))
          exact oT_N 1 rfl (oT_Ret rfl rfl rfl (hP _ σ2 so s2 (Or.inr ⟨i, by omega, rfl, (oSh_rg s3).mp hm0, hno⟩)))
  exact loop M.Q 0 σ (by omega) (fun _ _ => rfl) hz7 (fun j hj => by omega)
end
section
section OXU
variable {L k mi p q : Nat} {ls : List (Option Value)} {st : List Value} {σ : ox_S} {Post : ox_O → ox_S → Prop} {x y : Int32}
theorem oT_le (a b : Nat) (hx : x = nI a) (hy : y = nI b) (ha : a < 2 ^ 31) (hb : b < 2 ^ 31) (f : a ≤ b → oT L k mi p ls st σ Post) (g : b < a → oT L k mi q ls st σ Post) : oT L k mi (if x ≤ y then p else q) ls st σ Post := by
  subst hx hy
  exact oT_If (fun h => f ((nI_leI ha hb).mp h)) (fun h => g (Nat.lt_of_not_le (fun e => h ((nI_leI ha hb).mpr e))))
theorem oT_lt (a b : Nat) (hx : x = nI a) (hy : y = nI b) (ha : a < 2 ^ 31) (hb : b < 2 ^ 31) (f : a < b → oT L k mi p ls st σ Post) (g : b ≤ a → oT L k mi q ls st σ Post) : oT L k mi (if x < y then p else q) ls st σ Post := by
  subst hx hy
  exact oT_If (fun h => f ((nI_ltI ha hb).mp h)) (fun h => g (Nat.le_of_not_lt (fun e => h ((nI_ltI ha hb).mpr e))))
theorem oT_eq (a b : Nat) (hx : x = nI a) (hy : y = nI b) (ha : a < 2 ^ 31) (hb : b < 2 ^ 31) (f : a = b → oT L k mi p ls st σ Post) (g : a ≠ b → oT L k mi q ls st σ Post) : oT L k mi (if x = y then p else q) ls st σ Post := by
  subst hx hy
  exact oT_If (fun h => f ((nI_eq ha hb).mp h)) (fun h => g (fun e => h ((nI_eq ha hb).mpr e)))
/-- a tested boolean -/
theorem oT_b (t : Bool) (hx : x = if t then 1 else 0) (f : t = false → oT L k mi p ls st σ Post) (g : t = true → oT L k mi q ls st σ Post) : oT L k mi (if x = 0 then p else q) ls st σ Post := by
  subst hx
  cases t
  · exact oT_If (fun _ => f rfl) (fun h => absurd rfl h)
  · exact oT_If (fun h => absurd h (by decide)) (fun _ => g rfl)
end OXU
theorem ox_dec (m : Nat) : nI (m + 1) + Int32.ofInt (-1) = nI m := pk_m1 m
theorem ox_sb1 (m : Nat) : nI (m + 1) - Int32.ofInt 1 = nI m := nI_pred m
/-- the member with k lower ones -/
def oKt (f : Nat → Bool) : Nat → Nat → Nat
  | 0, _ => 0
  | m + 1, k => if f m = true ∧ oCn f m = k then m else oKt f m k
theorem oCn_mono {f : Nat → Bool} {m m' : Nat} (h : m ≤ m') : oCn f m ≤ oCn f m' := by
  induction m' with
  | zero => obtain rfl : m = 0 := by omega
            exact Nat.le_refl _
  | succ m' ih =>
    rcases Nat.lt_or_ge m' m with q | q
    · obtain rfl : m = m' + 1 := by omega
      exact Nat.le_refl _
    · have := ih q
      simp only [oCn]
      split <;> omega
theorem oCn_lt {f : Nat → Bool} {e n : Nat} (h : e < n) (hf : f e = true) : oCn f e < oCn f n := by
  have h1 : oCn f (e + 1) = oCn f e + 1 := by simp [oCn, hf]
  have := oCn_mono (f := f) (show e + 1 ≤ n from h)
  omega
theorem oCn_ext {f g : Nat → Bool} : ∀ n, (∀ j, j < n → f j = g j) → oCn f n = oCn g n
  | 0, _ => rfl
  | n + 1, h => by
    simp only [oCn]
    rw [oCn_ext n (fun j hj => h j (by omega)), h n (by omega)]
theorem oKt_ext {f g : Nat → Bool} {k : Nat} : ∀ n, (∀ j, j < n → f j = g j) → oKt f n k = oKt g n k
  | 0, _ => rfl
  | n + 1, h => by
    simp only [oKt]
    rw [oKt_ext n (fun j hj => h j (by omega)), h n (by omega), oCn_ext n (fun j hj => h j (by omega))]
theorem oKt_sp {f : Nat → Bool} {k : Nat} : ∀ n, k < oCn f n → oKt f n k < n ∧ f (oKt f n k) = true ∧ oCn f (oKt f n k) = k
  | 0, h => absurd h (Nat.not_lt_zero _)
  | n + 1, h => by
    simp only [oKt]
    by_cases e : f n = true ∧ oCn f n = k
    · rw [if_pos e]
      exact ⟨Nat.lt_succ_self n, e⟩
    · rw [if_neg e]
      have h2 : k < oCn f n := by
        simp only [oCn] at h
        by_cases e2 : f n = true
        · rw [if_pos e2] at h
          have : oCn f n ≠ k := fun q => e ⟨e2, q⟩
          omega
        · rw [if_neg e2] at h
          omega
      obtain ⟨h3, h4⟩ := oKt_sp n h2
      exact ⟨by omega, h4⟩
theorem oCn_inj {f : Nat → Bool} {a b : Nat} (ha : f a = true) (hb : f b = true) (h : oCn f a = oCn f b) : a = b := by
  rcases Nat.lt_trichotomy a b with q | q | q
  · have := oCn_lt q ha; omega
  · exact q
  · have := oCn_lt q hb; omega
theorem oKt_of {f : Nat → Bool} {e n : Nat} (h : e < n) (hf : f e = true) : oKt f n (oCn f e) = e := by
  obtain ⟨h1, h2, h3⟩ := oKt_sp n (oCn_lt h hf)
  exact oCn_inj h2 hf h3
/-- an event reads; writes to p -/
def oIr (P : oPr) (e : Nat) : Bool := decide (P.kd e = 0)
def oIw (P : oPr) (p e : Nat) : Bool := decide (P.kd e = 1 ∧ P.pl e = p)
theorem ocR_cn (P : oPr) : ∀ m, ocR P m = oCn (oIr P) m
  | 0 => rfl
  | m + 1 => by simp only [ocR, oCn, ocR_cn P m, oIr, decide_eq_true_eq]
theorem ocW_cn (P : oPr) (p : Nat) : ∀ m, ocW P p m = oCn (oIw P p) m
  | 0 => rfl
  | m + 1 => by simp only [ocW, oCn, ocW_cn P p m, oIw, decide_eq_true_eq]
/-- how many writes to p; the i-th read; the j-th write to p -/
def oW (P : oPr) (p : Nat) : Nat := ocW P p P.n
def oRd (P : oPr) (i : Nat) : Nat := oKt (oIr P) P.n i
def oWr (P : oPr) (p j : Nat) : Nat := oKt (oIw P p) P.n j
theorem oRd_sp {P : oPr} {i : Nat} (h : i < ocR P P.n) : oRd P i < P.n ∧ P.kd (oRd P i) = 0 ∧ ocR P (oRd P i) = i := by
  rw [ocR_cn] at h
  obtain ⟨h1, h2, h3⟩ := oKt_sp P.n h
  exact ⟨h1, of_decide_eq_true h2, by rw [ocR_cn]; exact h3⟩
theorem oRd_of {P : oPr} {e : Nat} (h : e < P.n) (hk : P.kd e = 0) : oRd P (ocR P e) = e ∧ ocR P e < ocR P P.n := by
  rw [ocR_cn, ocR_cn]
  exact ⟨oKt_of h (by simp [oIr, hk]), oCn_lt h (by simp [oIr, hk])⟩
theorem oWr_sp {P : oPr} {p j : Nat} (h : j < oW P p) : oWr P p j < P.n ∧ P.kd (oWr P p j) = 1 ∧ P.pl (oWr P p j) = p ∧ ocW P p (oWr P p j) = j := by
  unfold oW at h
  rw [ocW_cn] at h
  obtain ⟨h1, h2, h3⟩ := oKt_sp P.n h
  have h2' : P.kd (oWr P p j) = 1 ∧ P.pl (oWr P p j) = p := of_decide_eq_true h2
  exact ⟨h1, h2'.1, h2'.2, by rw [ocW_cn]; exact h3⟩
theorem oWr_of {P : oPr} {p e : Nat} (h : e < P.n) (hk : P.kd e = 1) (hp : P.pl e = p) : oWr P p (ocW P p e) = e ∧ ocW P p e < oW P p := by
  unfold oW
  rw [ocW_cn, ocW_cn]
  exact ⟨oKt_of h (by simp [oIw, hk, hp]), oCn_lt h (by simp [oIw, hk, hp])⟩
def oFc : Nat → Nat
  | 0 => 1
  | n + 1 => (n + 1) * oFc n
theorem oFc_pos : ∀ n, 0 < oFc n
  | 0 => Nat.one_pos
  | n + 1 => Nat.mul_pos (Nat.succ_pos n) (oFc_pos n)
/-- what is left of x when the last j places are taken -/
def oRs (P : oPr) (x : Nat) : Nat → Nat
  | 0 => x
  | j + 1 => oRs P x j / oFc (oW P (3 - j))
/-- .. and when the last j reads are taken, too -/
def oRr (P : oPr) (x : Nat) : Nat → Nat
  | 0 => oRs P x 4
  | j + 1 => oRr P x j / (1 + oW P (P.pl (oRd P (ocR P P.n - 1 - j))))
theorem oRs_le (P : oPr) (x : Nat) : ∀ j, oRs P x j ≤ x
  | 0 => Nat.le_refl x
  | j + 1 => Nat.le_trans (Nat.div_le_self _ _) (oRs_le P x j)
theorem oRr_le (P : oPr) (x : Nat) : ∀ j, oRr P x j ≤ x
  | 0 => oRs_le P x 4
  | j + 1 => Nat.le_trans (Nat.div_le_self _ _) (oRr_le P x j)
/-- what the i-th read picks; its source -/
def oPk (P : oPr) (x i : Nat) : Nat := oRr P x (ocR P P.n - 1 - i) % (1 + oW P (P.pl (oRd P i)))
def oSc (P : oPr) (x i : Nat) : Int32 := if oPk P x i = 0 then -1 else nI (oWr P (P.pl (oRd P i)) (oPk P x i - 1))
/-- the i-th pick of place p; what is left to be picked; what is picked -/
def oDg (P : oPr) (x p i : Nat) : Nat := oRs P x (3 - p) / oFc (oW P p - 1 - i) % (oW P p - i)
def oSt (P : oPr) (x p : Nat) : Nat → Nat → Bool
  | 0 => oIw P p
  | i + 1 => fun e => oSt P x p i e && decide (e ≠ oKt (oSt P x p i) P.n (oDg P x p i))
def oOd (P : oPr) (x p i : Nat) : Nat := oKt (oSt P x p i) P.n (oDg P x p i)
theorem oSt_sub {P : oPr} {x p e : Nat} : ∀ i, oSt P x p i e = true → P.kd e = 1 ∧ P.pl e = p
  | 0, h => by simpa [oSt, oIw] using h
  | i + 1, h => by
    simp only [oSt, Bool.and_eq_true] at h
    exact oSt_sub i h.1
theorem oDg_lt {P : oPr} {x p i : Nat} (h : i < oW P p) : oDg P x p i < oW P p - i := Nat.mod_lt _ (by omega)
theorem oCn_down {f g : Nat → Bool} {q n : Nat} (hq : q < n) (hf : f q = true) (hg : g q = false) (ho : ∀ j, j ≠ q → g j = f j) : oCn f n = oCn g n + 1 := by
  have := oCn_up hg hf (fun j hj => (ho j hj).symm) n
  rw [if_pos hq] at this
  exact this
theorem oSt_cn {P : oPr} {x p : Nat} : ∀ i, i ≤ oW P p → oCn (oSt P x p i) P.n = oW P p - i
  | 0, _ => by show oCn (oIw P p) P.n = _; rw [← ocW_cn]; rfl
  | i + 1, h => by
    have ih := oSt_cn (P := P) (x := x) (p := p) i (by omega)
    obtain ⟨h1, h2, h3⟩ := oKt_sp (f := oSt P x p i) (k := oDg P x p i) P.n (by rw [ih]; exact oDg_lt (by omega))
    have h4 := oCn_down (f := oSt P x p i) (g := oSt P x p (i + 1)) h1 h2 (by simp [oSt]) (fun j hj => by simp [oSt, hj])
    omega
theorem oOd_sp {P : oPr} {x p i : Nat} (h : i < oW P p) : oOd P x p i < P.n ∧ oSt P x p i (oOd P x p i) = true ∧ oCn (oSt P x p i) (oOd P x p i) = oDg P x p i :=
  oKt_sp P.n (by rw [oSt_cn i (by omega)]; exact oDg_lt h)
theorem oOd_w {P : oPr} {x p i : Nat} (h : i < oW P p) : oOd P x p i < P.n ∧ P.kd (oOd P x p i) = 1 ∧ P.pl (oOd P x p i) = p :=
  ⟨(oOd_sp h).1, oSt_sub i (oOd_sp h).2.1⟩
/-- what is left holds what isn't picked -/
theorem oSt_mem {P : oPr} {x p e : Nat} : ∀ i, oSt P x p i e = true ↔ (P.kd e = 1 ∧ P.pl e = p) ∧ ∀ j, j < i → e ≠ oOd P x p j
  | 0 => by simp [oSt, oIw]
  | i + 1 => by
    have ih := oSt_mem (P := P) (x := x) (p := p) (e := e) i
    simp only [oSt, Bool.and_eq_true, ih, decide_eq_true_eq]
    constructor
    · rintro ⟨⟨h1, h2⟩, h3⟩
      refine ⟨h1, fun j hj => ?_⟩
      rcases Nat.lt_or_ge j i with q | q
      · exact h2 j q
      · obtain rfl : j = i := by omega
        exact h3
    · rintro ⟨h1, h2⟩
      exact ⟨⟨h1, fun j hj => h2 j (by omega)⟩, h2 i (by omega)⟩
theorem oOd_inj {P : oPr} {x p i j : Nat} (hi : i < oW P p) (hj : j < oW P p) (h : oOd P x p i = oOd P x p j) : i = j := by
  rcases Nat.lt_trichotomy i j with q | q | q
  · exact absurd h.symm (((oSt_mem j).mp (oOd_sp hj).2.1).2 i q)
  · exact q
  · exact absurd h (((oSt_mem i).mp (oOd_sp hi).2.1).2 j q)
/-- every write is picked -/
theorem oOd_on {P : oPr} {x p e : Nat} (he : e < P.n) (hk : P.kd e = 1) (hp : P.pl e = p) : ∃ i, i < oW P p ∧ oOd P x p i = e := by
  have h0 := oSt_cn (P := P) (x := x) (p := p) (oW P p) (Nat.le_refl _)
  by_cases h : ∃ i, i < oW P p ∧ oOd P x p i = e
  · exact h
  · have h1 : oSt P x p (oW P p) e = true := (oSt_mem _).mpr ⟨⟨hk, hp⟩, fun j hj q => h ⟨j, hj, q.symm⟩⟩
    have := oCn_lt he h1
    omega
/-- the number of executions -/
def oNr (P : oPr) : Nat → Nat
  | 0 => 1
  | i + 1 => oNr P i * (1 + oW P (P.pl (oRd P i)))
def oNw (P : oPr) : Nat → Nat
  | 0 => 1
  | p + 1 => oNw P p * oFc (oW P p)
def oNx (P : oPr) : Nat := oNr P (ocR P P.n) * oNw P 4
end
section
theorem ot_write {L k p j : Nat} {σ : ox_S} {P : oPr} (h : oM σ P) (hp : p < 4) (hj : j < oW P p) : oT L k 66 0 [some (.ref 7), some (.int (nI p)), some (.int (nI j)), none, none] [] σ (fun o σ' => o = .inl (some (.int (nI (oWr P p j)))) ∧ σ' = σ) := by
  obtain ⟨⟨hT, hn, hok⟩, h1, h2, h3⟩ := h
  have hw : oW P p ≤ 12 := Nat.le_trans (ocW_le P p P.n) hn
  refine oT_N 4 rfl ?_
  have loop : ∀ d e, e + d = P.n → ocW P p e ≤ j → oT L k 66 5 [some (.ref 7), some (.int (nI p)), some (.int (nI j)), some (.int (nI (j - ocW P p e))), some (.int (nI e))] [] σ (fun o σ' => o = .inl (some (.int (nI (oWr P p j)))) ∧ σ' = σ) := by
    intro d
    induction d with
    | zero =>
      intro e he hc
      obtain rfl : e = P.n := by omega
      exact absurd hj (by unfold oW; omega)
    | succ d ih =>
      intro e he hc
      obtain ⟨g1, g2, g3, -⟩ := h3 e (by omega)
      obtain ⟨o1, o2, o3⟩ := hok e (by omega)
      refine oT_N 4 rfl (oT_le P.n e h2 rfl (by omega) (by omega) (fun q => by omega) (fun _ => ?_))
      refine oT_N 3 rfl (oT_I (o := 44) (n := nI e) rfl (Or.inl ⟨rfl, by decide⟩) (ox_ix (N := 12) (by omega) (by decide)) ?_)
      rw [nI_clamp (show e < 2 ^ 31 by omega), g2]
      have hno : ¬ (P.kd e = 1 ∧ P.pl e = p) → oT L k 66 5 [some (.ref 7), some (.int (nI p)), some (.int (nI j)), some (.int (nI (j - ocW P p e))), some (.int (nI e + Int32.ofInt 1))] [] σ (fun o σ' => o = .inl (some (.int (nI (oWr P p j)))) ∧ σ' = σ) := fun q => by
        have q1 : ocW P p (e + 1) = ocW P p e := by simp only [ocW]; rw [if_neg q]; rfl
        have e9 := ih (e + 1) (by omega) (by omega)
        rw [q1, ← ox_inc e] at e9
        exact e9
      refine oT_N 2 rfl (oT_eq (P.kd e) 1 rfl rfl (by omega) (by decide) (fun hk => ?_) (fun hk => ?_))
      · refine oT_N 3 rfl (oT_I (o := 45) (n := nI e) rfl (Or.inl ⟨rfl, by decide⟩) (ox_ix (N := 12) (by omega) (by decide)) ?_)
        have hpl := o3 (by omega)
        rw [nI_clamp (show e < 2 ^ 31 by omega), g3, if_pos (by omega)]
        refine oT_N 2 rfl (oT_eq (P.pl e) p rfl rfl (by omega) (by omega) (fun hq => ?_) (fun hq => ?_))
        · refine oT_N 2 rfl (oT_eq (j - ocW P p e) 0 rfl rfl (by omega) (by decide) (fun h0 => ?_) (fun h0 => ?_))
          · refine oT_N 1 rfl (oT_Ret rfl rfl rfl ⟨?_, rfl⟩)
            rw [show j = ocW P p e by omega, (oWr_of (by omega) hk hq).1]
          · have q1 : ocW P p (e + 1) = ocW P p e + 1 := by simp only [ocW]; rw [if_pos ⟨hk, hq⟩]
            have e9 := ih (e + 1) (by omega) (by omega)
            rw [← ox_dec (j - ocW P p (e + 1)), show j - ocW P p (e + 1) + 1 = j - ocW P p e by omega, ← ox_inc e] at e9
            exact oT_N 3 rfl e9
        · exact oT_N 3 rfl (hno (fun q => hq q.2))
      · exact oT_N 2 rfl (hno (fun q => hk q.1))
  exact loop P.n 0 (by omega) (Nat.zero_le _)
/-- what 'arrange' does of place p -/
def oAr (P : oPr) (x p : Nat) (σ σ' : ox_S) (i : Nat) : Prop :=
  (∀ o, o ≠ 53 → o ≠ 54 → o ≠ 55 → σ' o = σ o) ∧ (∀ q, q ≠ p → σ' 54 q = σ 54 q) ∧ σ' 54 p = nI (oW P p) ∧ (∀ j, j < i → σ' 53 (12 * p + j) = nI (oOd P x p j)) ∧ (∀ q, q < 12 * p ∨ 12 * p + 12 ≤ q → σ' 53 q = σ 53 q) ∧
  (∀ j, j < i → σ' 55 (oOd P x p j) = nI j) ∧ (∀ e, e < P.n → oSt P x p i e = true → σ' 55 e = -1) ∧ ∀ e, ¬ (P.kd e = 1 ∧ P.pl e = p) → σ' 55 e = σ 55 e
theorem oFc_up (w : Nat) (h : 0 < w) : oFc w = w * oFc (w - 1) := by
  obtain ⟨v, rfl⟩ : ∃ v, w = v + 1 := ⟨w - 1, by omega⟩
  rfl
theorem oFc_le {v w : Nat} (h : v ≤ w) : oFc v ≤ oFc w := by
  induction w with
  | zero => obtain rfl : v = 0 := by omega
            exact Nat.le_refl _
  | succ w ih =>
    rcases Nat.lt_or_ge w v with q | q
    · obtain rfl : v = w + 1 := by omega
      exact Nat.le_refl _
    · exact Nat.le_trans (ih q) (Nat.le_mul_of_pos_left _ (Nat.succ_pos w))
set_option maxHeartbeats 1000000 in
theorem ot_arrange {L k p x : Nat} {σ : ox_S} {P : oPr} (h : oM σ P) (hp : p < 4) (hF : oFc (oW P p) ≤ 5000) (hk : 2 ≤ k) (hk9 : k ≤ 9) : oT L k 67 0 [some (.ref 7), some (.int (nI p)), some (.int (nI (oRs P x (3 - p) % oFc (oW P p)))), none, none, none, none, none, none] [] σ (fun o σ' => o = .inl none ∧ oAr P x p σ σ' (oW P p)) := by
  obtain ⟨k, rfl⟩ : ∃ k', k = k' + 1 := ⟨k - 1, by omega⟩
  obtain ⟨⟨hT, hn, hok⟩, h1, h2, h3⟩ := id h
  have hw : oW P p ≤ 12 := Nat.le_trans (ocW_le P p P.n) hn
  refine oT_N 2 rfl (oT_V rfl rfl rfl rfl (by omega) (by omega) (ot_writes h (by omega)) (fun x σ2 h => by cases h.1) (fun v σ2 hv => ?_))
  obtain ⟨hv, rfl⟩ := hv
  cases hv
  refine oT_N 5 rfl (oT_Is (o := 54) (n := nI p) (x := nI (oW P p)) rfl ⟨rfl, by decide⟩ (ox_ix (N := 4) hp (by decide)) ?_)
  rw [nI_clamp (by omega)]
  refine oT_N 4 rfl ?_
  -- the picks
  have picks : ∀ (d i : Nat) (τ : ox_S) (l7 l8 : Option Value), i + d = oW P p → oAr P x p σ2 τ i → oT L (k + 1) 67 92 [some (.ref 7), some (.int (nI p)), some (.int (nI (oRs P x (3 - p) % oFc (oW P p)))), some (.int (nI (oW P p))), some (.int (nI (oFc (oW P p - i)))), some (.int (nI (oRs P x (3 - p) % oFc (oW P p - i)))), some (.int (nI i)), l7, l8] [] τ (fun o σ' => o = .inl none ∧ oAr P x p σ2 σ' (oW P p)) := by
    intro d
    induction d with
    | zero =>
      intro i τ l7 l8 hi hA
      obtain rfl : i = oW P p := by omega
      refine oT_N 3 rfl (oT_le (oW P p) (oW P p) rfl rfl (by omega) (by omega) (fun _ => ?_) (fun q => by omega))
      exact oT_Retv rfl rfl ⟨rfl, hA⟩
    | succ d ih =>
      intro i τ l7 l8 hi hA
      obtain ⟨a1, a2, a3, a4, a5, a6, a7, a8⟩ := id hA
      have hF1 : oFc (oW P p - i) ≤ 5000 := Nat.le_trans (oFc_le (by omega)) hF
      have hF2 : oFc (oW P p - i - 1) ≤ 5000 := Nat.le_trans (oFc_le (by omega)) hF
      have hp1 := oFc_pos (oW P p - i)
      have hp2 := oFc_pos (oW P p - i - 1)
      have hup := oFc_up (oW P p - i) (by omega)
      have hlt : oRs P x (3 - p) % oFc (oW P p - i) < oFc (oW P p - i) := Nat.mod_lt _ hp1
      have hdv : oFc (oW P p - i) / (oW P p - i) = oFc (oW P p - i - 1) := by rw [hup]; exact Nat.mul_div_cancel_left _ (by omega)
      have hdg : oRs P x (3 - p) % oFc (oW P p - i) / oFc (oW P p - i - 1) = oDg P x p i := by
        rw [hup, Nat.mul_comm, Nat.mod_mul_right_div_self]
        unfold oDg
        rw [show oW P p - 1 - i = oW P p - i - 1 by omega]
      have hmd : oRs P x (3 - p) % oFc (oW P p - i) % oFc (oW P p - i - 1) = oRs P x (3 - p) % oFc (oW P p - i - 1) := Nat.mod_mod_of_dvd _ (by rw [hup]; exact Nat.dvd_mul_left _ _)
      have hdl := oDg_lt (P := P) (x := x) (p := p) (i := i) (by omega)
      have hcn := oSt_cn (P := P) (x := x) (p := p) i (by omega)
      have τ7 : τ 7 = σ2 7 := a1 7 (by decide) (by decide) (by decide)
      have τ44 : τ 44 = σ2 44 := a1 44 (by decide) (by decide) (by decide)
      have τ45 : τ 45 = σ2 45 := a1 45 (by decide) (by decide) (by decide)
      refine oT_N 3 rfl (oT_le (oW P p) i rfl rfl (by omega) (by omega) (fun q => by omega) (fun _ => ?_))
      have e1 : nI (oW P p) - nI i = nI (oW P p - i) := pk_sub (by omega)
      refine oT_N 4 rfl (oT_Div (x := nI (oFc (oW P p - i))) (y := nI (oW P p) - nI i) rfl (by rw [e1]; exact nI_ne0 (by omega) (by omega)) ?_)
      rw [e1, pk_div (by omega) (by omega) (by omega), hdv]
      refine oT_N 3 rfl (oT_Div (x := nI (oRs P x (3 - p) % oFc (oW P p - i))) (y := nI (oFc (oW P p - i - 1))) rfl (nI_ne0 hp2 (by omega)) ?_)
      rw [pk_div (by omega) hp2 (by omega), hdg]
      refine oT_N 3 rfl (oT_Rem (x := nI (oRs P x (3 - p) % oFc (oW P p - i))) (y := nI (oFc (oW P p - i - 1))) rfl (nI_ne0 hp2 (by omega)) ?_)
      rw [pk_rem (by omega) hp2 (by omega), hmd]
      refine oT_N 3 rfl ?_
      have find : ∀ (d e : Nat), e + d = P.n → oCn (oSt P x p i) e ≤ oDg P x p i → oT L (k + 1) 67 124 [some (.ref 7), some (.int (nI p)), some (.int (nI (oRs P x (3 - p) % oFc (oW P p)))), some (.int (nI (oW P p))), some (.int (nI (oFc (oW P p - i - 1)))), some (.int (nI (oRs P x (3 - p) % oFc (oW P p - i - 1)))), some (.int (nI i)), some (.int (nI (oDg P x p i - oCn (oSt P x p i) e))), some (.int (nI e))] [] τ (fun o σ' => o = .inl none ∧ oAr P x p σ2 σ' (oW P p)) := by
        intro d
        induction d with
        | zero =>
          intro e he hc
          obtain rfl : e = P.n := by omega
          omega
        | succ d ihe =>
          intro e he hc
          obtain ⟨g1, g2, g3, -⟩ := h3 e (by omega)
          obtain ⟨o1, o2, o3⟩ := hok e (by omega)
          have hec : (nI e).toNatClampNeg = e := nI_clamp (by omega)
          have n12 : ¬ (nI e < 0 ∨ 12 ≤ (nI e).toNatClampNeg) := ox_ix (by omega) (by decide)
          have hnot : oSt P x p i e = false → oT L (k + 1) 67 124 [some (.ref 7), some (.int (nI p)), some (.int (nI (oRs P x (3 - p) % oFc (oW P p)))), some (.int (nI (oW P p))), some (.int (nI (oFc (oW P p - i - 1)))), some (.int (nI (oRs P x (3 - p) % oFc (oW P p - i - 1)))), some (.int (nI i)), some (.int (nI (oDg P x p i - oCn (oSt P x p i) e) - Int32.ofInt 0)), some (.int (nI e + Int32.ofInt 1))] [] τ (fun o σ' => o = .inl none ∧ oAr P x p σ2 σ' (oW P p)) := fun hs => by
            have q1 : oCn (oSt P x p i) (e + 1) = oCn (oSt P x p i) e := by simp [oCn, hs]
            have e9 := ihe (e + 1) (by omega) (by omega)
            rw [q1, ← ox_inc e] at e9
            rw [show nI (oDg P x p i - oCn (oSt P x p i) e) - Int32.ofInt 0 = nI (oDg P x p i - oCn (oSt P x p i) e) from Int32.sub_zero _]
            exact e9
          -- the mending of k behind a miss
          have h161 : (oSt P x p i e = true → oCn (oSt P x p i) e < oDg P x p i) → oT L (k + 1) 67 161 [some (.ref 7), some (.int (nI p)), some (.int (nI (oRs P x (3 - p) % oFc (oW P p)))), some (.int (nI (oW P p))), some (.int (nI (oFc (oW P p - i - 1)))), some (.int (nI (oRs P x (3 - p) % oFc (oW P p - i - 1)))), some (.int (nI i)), some (.int (nI (oDg P x p i - oCn (oSt P x p i) e))), some (.int (nI e))] [] τ (fun o σ' => o = .inl none ∧ oAr P x p σ2 σ' (oW P p)) := fun hlt => by
            refine oT_N 4 rfl (oT_I (o := 44) (n := nI e) rfl (Or.inl ⟨rfl, by decide⟩) n12 ?_)
            rw [hec, τ44, g2]
            refine oT_N 2 rfl (oT_eq (P.kd e) 1 rfl rfl (by omega) (by decide) (fun hk => ?_) (fun hk => ?_))
            · refine oT_N 3 rfl (oT_I (o := 45) (n := nI e) rfl (Or.inl ⟨rfl, by decide⟩) n12 ?_)
              have hpl := o3 (by omega)
              rw [hec, τ45, g3, if_pos (by omega)]
              refine oT_N 2 rfl (oT_eq (P.pl e) p rfl rfl (by omega) (by omega) (fun hq => ?_) (fun hq => ?_))
              · refine oT_N 3 rfl (oT_I (o := 55) (n := nI e) rfl (Or.inl ⟨rfl, by decide⟩) n12 ?_)
                rw [hec]
                cases hs : oSt P x p i e with
                | true =>
                  rw [a7 e (by omega) hs]
                  refine oT_N 1 rfl (oT_If (fun q => absurd q (by decide)) (fun _ => ?_))
                  have q1 : oCn (oSt P x p i) (e + 1) = oCn (oSt P x p i) e + 1 := by simp [oCn, hs]
                  have hl := hlt hs
                  have e9 := ihe (e + 1) (by omega) (by omega)
                  rw [← ox_sb1 (oDg P x p i - oCn (oSt P x p i) (e + 1)), show oDg P x p i - oCn (oSt P x p i) (e + 1) + 1 = oDg P x p i - oCn (oSt P x p i) e by omega, ← ox_inc e] at e9
                  exact oT_N 6 rfl e9
                | false =>
                  obtain ⟨j, hj, hj2⟩ : ∃ j, j < i ∧ e = oOd P x p j := by
                    by_cases hex : ∃ j, j < i ∧ e = oOd P x p j
                    · exact hex
                    · have := (oSt_mem (P := P) (x := x) (p := p) (e := e) i).mpr ⟨⟨hk, hq⟩, fun j hj e2 => hex ⟨j, hj, e2⟩⟩
                      rw [hs] at this
                      cases this
                  have hr : τ 55 e = nI j := by rw [hj2]; exact a6 j hj
                  rw [hr]
                  exact oT_N 1 rfl (oT_le 0 j rfl rfl (by decide) (by omega) (fun _ => oT_N 5 rfl (hnot hs)) (fun q => by omega))
              · refine oT_N 5 rfl (hnot ?_)
                cases hs : oSt P x p i e with
                | false => rfl
                | true => exact absurd (oSt_sub i hs).2 hq
            · refine oT_N 5 rfl (hnot ?_)
              cases hs : oSt P x p i e with
              | false => rfl
              | true => exact absurd (oSt_sub i hs).1 hk
          refine oT_N 3 rfl (oT_I (o := 44) (n := nI e) rfl (Or.inl ⟨rfl, by decide⟩) n12 ?_)
          rw [hec, τ44, g2]
          refine oT_N 2 rfl (oT_eq (P.kd e) 1 rfl rfl (by omega) (by decide) (fun hk => ?_) (fun hk => ?_))
          · refine oT_N 3 rfl (oT_I (o := 45) (n := nI e) rfl (Or.inl ⟨rfl, by decide⟩) n12 ?_)
            have hpl := o3 (by omega)
            rw [hec, τ45, g3, if_pos (by omega)]
            refine oT_N 2 rfl (oT_eq (P.pl e) p rfl rfl (by omega) (by omega) (fun hq => ?_) (fun hq => ?_))
            · refine oT_N 3 rfl (oT_I (o := 55) (n := nI e) rfl (Or.inl ⟨rfl, by decide⟩) n12 ?_)
              rw [hec]
              cases hs : oSt P x p i e with
              | true =>
                rw [a7 e (by omega) hs]
                refine oT_N 1 rfl (oT_If (fun q => absurd q (by decide)) (fun _ => ?_))
                refine oT_N 2 rfl (oT_le (oDg P x p i - oCn (oSt P x p i) e) 0 rfl rfl (by omega) (by decide) (fun q => ?_) (fun q => h161 (fun _ => by omega)))
                have hod : oOd P x p i = e := by
                  unfold oOd
                  rw [show oDg P x p i = oCn (oSt P x p i) e by omega]
                  exact oKt_of (by omega) hs
                refine oT_N 4 rfl (oT_Is (o := 55) (n := nI e) (x := nI i) rfl ⟨rfl, by decide⟩ n12 ?_)
                rw [hec]
                refine oT_N 8 rfl (oT_Is (o := 53) (n := (Int8.ofInt 12).toInt32 * nI p + nI i) (x := nI e) rfl ⟨rfl, by decide⟩ (by rw [ox_i2]; exact ox_ix (N := 48) (by omega) (by decide)) ?_)
                rw [ox_i2, nI_clamp (by omega)]
                have e9 := ih (i + 1) (ox_up (ox_up τ 55 e (nI i)) 53 (12 * p + i) (nI e)) (some (.int (nI (oDg P x p i - oCn (oSt P x p i) e)))) (some (.int (nI e))) (by omega) ⟨fun o q1 q2 q3 => by rw [ox_up_ne q1, ox_up_ne q3]; exact a1 o q1 q2 q3, fun q hq => by rw [ox_up_ne (by decide), ox_up_ne (by decide)]; exact a2 q hq, by rw [ox_up_ne (by decide), ox_up_ne (by decide)]; exact a3, fun j hj => by
                    rw [ox_up_at]
                    by_cases e2 : j = i
                    · rw [if_pos (by omega), e2, hod]
                    · rw [if_neg (by omega), ox_up_ne (by decide)]; exact a4 j (by omega), fun q hq => by
                    rw [ox_up_at, if_neg (by omega), ox_up_ne (by decide)]; exact a5 q hq, fun j hj => by
                    rw [ox_up_ne (by decide), ox_up_at]
                    by_cases e2 : j = i
                    · rw [e2, if_pos hod]
                    · rw [if_neg (fun e3 => ((oSt_mem i).mp hs).2 j (by omega) e3.symm)]; exact a6 j (by omega), fun e' he' hs' => by
                    rw [ox_up_ne (by decide), ox_up_at]
                    have hm := (oSt_mem (i + 1)).mp hs'
                    rw [if_neg (fun e3 => hm.2 i (by omega) (by rw [hod]; exact e3))]
                    exact a7 e' he' ((oSt_mem i).mpr ⟨hm.1, fun j hj => hm.2 j (by omega)⟩), fun e' hne => by
                    rw [ox_up_ne (by decide), ox_up_at, if_neg (fun e3 => hne (by rw [e3]; exact ⟨hk, hq⟩))]
                    exact a8 e' hne⟩
                rw [← ox_inc i, show oW P p - (i + 1) = oW P p - i - 1 by omega] at e9
                exact oT_N 2 rfl e9
              | false =>
                obtain ⟨j, hj, hj2⟩ : ∃ j, j < i ∧ e = oOd P x p j := by
                  by_cases hex : ∃ j, j < i ∧ e = oOd P x p j
                  · exact hex
                  · have := (oSt_mem (P := P) (x := x) (p := p) (e := e) i).mpr ⟨⟨hk, hq⟩, fun j hj e2 => hex ⟨j, hj, e2⟩⟩
                    rw [hs] at this
                    cases this
                have hr : τ 55 e = nI j := by rw [hj2]; exact a6 j hj
                rw [hr]
                exact oT_N 1 rfl (oT_le 0 j rfl rfl (by decide) (by omega) (fun _ => h161 (fun q => by rw [hs] at q; cases q)) (fun q => by omega))
            · exact h161 (fun q => absurd (oSt_sub i q).2 hq)
          · exact h161 (fun q => absurd (oSt_sub i q).1 hk)
      exact find P.n 0 (by omega) (Nat.zero_le _)
  -- the ranks are taken away
  have ranks : ∀ (d e : Nat) (τ : ox_S) (l7 l8 : Option Value), e + d = P.n → (∀ o, o ≠ 54 → o ≠ 55 → τ o = σ2 o) → (∀ q, q ≠ p → τ 54 q = σ2 54 q) → τ 54 p = nI (oW P p) → (∀ e', e' < e → (P.kd e' = 1 ∧ P.pl e' = p) → τ 55 e' = -1) → (∀ e', ¬ (P.kd e' = 1 ∧ P.pl e' = p) → τ 55 e' = σ2 55 e') →
      oT L (k + 1) 67 44 [some (.ref 7), some (.int (nI p)), some (.int (nI (oRs P x (3 - p) % oFc (oW P p)))), some (.int (nI (oW P p))), some (.int (nI (oFc (oW P p)))), some (.int (nI (oRs P x (3 - p) % oFc (oW P p)))), some (.int (nI e)), l7, l8] [] τ (fun o σ' => o = .inl none ∧ oAr P x p σ2 σ' (oW P p)) := by
    intro d
    induction d with
    | zero =>
      intro e τ l7 l8 he b1 b2 b3 b4 b5
      obtain rfl : e = P.n := by omega
      refine oT_N 4 rfl (oT_le P.n P.n (by rw [b1 7 (by decide) (by decide)]; exact h2) rfl (by omega) (by omega) (fun _ => ?_) (fun q => by omega))
      exact oT_N 2 rfl (picks (oW P p) 0 τ l7 l8 (by omega) ⟨fun o q1 q2 q3 => b1 o q2 q3, b2, b3, fun j hj => absurd hj (by omega), fun q _ => by rw [b1 53 (by decide) (by decide)], fun j hj => absurd hj (by omega), fun e he hs => b4 e he (oSt_sub 0 hs), b5⟩)
    | succ d ih =>
      intro e τ l7 l8 he b1 b2 b3 b4 b5
      obtain ⟨g1, g2, g3, -⟩ := h3 e (by omega)
      obtain ⟨o1, o2, o3⟩ := hok e (by omega)
      have hec : (nI e).toNatClampNeg = e := nI_clamp (by omega)
      have n12 : ¬ (nI e < 0 ∨ 12 ≤ (nI e).toNatClampNeg) := ox_ix (by omega) (by decide)
      refine oT_N 4 rfl (oT_le P.n e (by rw [b1 7 (by decide) (by decide)]; exact h2) rfl (by omega) (by omega) (fun q => by omega) (fun _ => ?_))
      refine oT_N 3 rfl (oT_I (o := 44) (n := nI e) rfl (Or.inl ⟨rfl, by decide⟩) n12 ?_)
      rw [hec, b1 44 (by decide) (by decide), g2]
      have hno : ¬ (P.kd e = 1 ∧ P.pl e = p) → oT L (k + 1) 67 44 [some (.ref 7), some (.int (nI p)), some (.int (nI (oRs P x (3 - p) % oFc (oW P p)))), some (.int (nI (oW P p))), some (.int (nI (oFc (oW P p)))), some (.int (nI (oRs P x (3 - p) % oFc (oW P p)))), some (.int (nI e + Int32.ofInt 1)), l7, l8] [] τ (fun o σ' => o = .inl none ∧ oAr P x p σ2 σ' (oW P p)) := fun hq => by
        have e9 := ih (e + 1) τ l7 l8 (by omega) b1 b2 b3 (fun e' he' hq' => by
          rcases Nat.lt_or_ge e' e with q | q
          · exact b4 e' q hq'
          · obtain rfl : e' = e := by omega
            exact absurd hq' hq) b5
        rw [← ox_inc e] at e9
        exact e9
      refine oT_N 2 rfl (oT_eq (P.kd e) 1 rfl rfl (by omega) (by decide) (fun hk => ?_) (fun hk => ?_))
      · refine oT_N 3 rfl (oT_I (o := 45) (n := nI e) rfl (Or.inl ⟨rfl, by decide⟩) n12 ?_)
        have hpl := o3 (by omega)
        rw [hec, b1 45 (by decide) (by decide), g3, if_pos (by omega)]
        refine oT_N 2 rfl (oT_eq (P.pl e) p rfl rfl (by omega) (by omega) (fun hq => ?_) (fun hq => ?_))
        · refine oT_N 4 rfl (oT_Is (o := 55) (n := nI e) (x := -1) rfl ⟨rfl, by decide⟩ n12 ?_)
          rw [hec]
          have e9 := ih (e + 1) (ox_up τ 55 e (-1)) l7 l8 (by omega) (fun o q1 q2 => by rw [ox_up_ne q2]; exact b1 o q1 q2) (fun q hq => by rw [ox_up_ne (by decide)]; exact b2 q hq) (by rw [ox_up_ne (by decide)]; exact b3) (fun e' he' hq' => by
            rw [ox_up_at]
            by_cases e2 : e' = e
            · rw [if_pos e2]
            · rw [if_neg e2]; exact b4 e' (by omega) hq') (fun e' hq' => by
            rw [ox_up_at, if_neg (fun e2 => hq' (by rw [e2]; exact ⟨hk, hq⟩))]
            exact b5 e' hq')
          rw [← ox_inc e] at e9
          exact oT_N 2 rfl e9
        · exact oT_N 2 rfl (hno (fun q => hq q.2))
      · exact oT_N 2 rfl (hno (fun q => hk q.1))
  -- the number of rows
  have size : ∀ (d j : Nat) (τ : ox_S), (j + d = oW P p ∨ (d = 0 ∧ oW P p ≤ j)) → 1 ≤ j → oFc j ≤ 5000 → (d = 0 → oFc j = oFc (oW P p)) → τ = ox_up σ2 54 p (nI (oW P p)) → oT L (k + 1) 67 19 [some (.ref 7), some (.int (nI p)), some (.int (nI (oRs P x (3 - p) % oFc (oW P p)))), some (.int (nI (oW P p))), some (.int (nI (oFc j))), some (.int (nI (j + 1))), none, none, none] [] τ (fun o σ' => o = .inl none ∧ oAr P x p σ2 σ' (oW P p)) := by
    intro d
    induction d with
    | zero =>
      intro j τ hj h1 hF' hq ht
      subst ht
      refine oT_N 3 rfl (oT_If (fun _ => ?_) (fun (q : ¬ nI (oW P p) < nI (j + 1)) => ?_))
      · rw [hq rfl]
        exact oT_N 4 rfl (ranks P.n 0 _ none none (by omega) (fun o q1 _ => ox_up_ne q1) (fun q hq => by rw [ox_up_at, if_neg hq]) (by rw [ox_up_at, if_pos rfl]) (fun e' he' => absurd he' (by omega)) (fun e' _ => by rw [ox_up_ne (by decide)]))
      · have hj5 : j < 5001 := by
          have : j ≤ oFc j := by rw [oFc_up j (by omega)]; exact Nat.le_mul_of_pos_right _ (oFc_pos _)
          omega
        exact absurd (nI_lt (by omega) (by omega)) q
    | succ d ih =>
      intro j τ hj h1 hF' hq ht
      refine oT_N 3 rfl (oT_lt (oW P p) (j + 1) rfl rfl (by omega) (by omega) (fun q => by omega) (fun _ => ?_))
      have hF2 : oFc (j + 1) ≤ 5000 := Nat.le_trans (oFc_le (by omega)) hF
      have e9 := ih (j + 1) τ (by omega) (by omega) hF2 (fun q => by congr 1; omega) ht
      rw [← ox_inc (j + 1), show oFc (j + 1) = oFc j * (j + 1) from Nat.mul_comm _ _, ← pk_mul] at e9
      exact oT_N 6 rfl e9
  rcases Nat.lt_or_ge 1 (oW P p) with q | q
  · exact size (oW P p - 1) 1 _ (Or.inl (by omega)) (by omega) (by decide) (fun _ => by omega) rfl
  · refine size 0 1 _ (Or.inr ⟨rfl, q⟩) (by omega) (by decide) (fun _ => ?_) rfl
    generalize oW P p = w at q
    rcases Nat.lt_or_ge w 1 with q2 | q2
    · obtain rfl : w = 0 := by omega
      rfl
    · obtain rfl : w = 1 := by omega
      rfl
end
section
theorem oFc_dvd {P : oPr} {p : Nat} (hp : p < 4) (h : oNx P ≤ 5000) : oFc (oW P p) ≤ 5000 ∧ oNw P 4 ≤ 5000 := by
  have hr : ∀ i, 0 < oNr P i := fun i => by
    induction i with
    | zero => exact Nat.one_pos
    | succ i ih => exact Nat.mul_pos ih (by omega)
  have h4 : oNw P 4 ≤ 5000 := Nat.le_trans (Nat.le_mul_of_pos_left _ (hr _)) h
  refine ⟨?_, h4⟩
  have hw : ∀ q, 0 < oNw P q := fun q => by
    induction q with
    | zero => exact Nat.one_pos
    | succ q ih => exact Nat.mul_pos ih (oFc_pos _)
  have hm : ∀ a b, a ≤ b → oNw P a ≤ oNw P b := fun a b hab => by
    induction b with
    | zero => obtain rfl : a = 0 := by omega
              exact Nat.le_refl _
    | succ b ih =>
      rcases Nat.lt_or_ge b a with q | q
      · obtain rfl : a = b + 1 := by omega
        exact Nat.le_refl _
      · exact Nat.le_trans (ih q) (Nat.le_mul_of_pos_right _ (oFc_pos _))
  have h1 : oFc (oW P p) ≤ oNw P (p + 1) := Nat.le_mul_of_pos_left _ (hw p)
  have := hm (p + 1) 4 (by omega)
  omega
/-- what 'choose' leaves -/
def oCh (P : oPr) (x : Nat) (σ σ' : ox_S) : Prop :=
  (∀ o, o < 52 ∨ 55 < o → σ' o = σ o) ∧ (∀ i, i < ocR P P.n → σ' 52 i = oSc P x i) ∧ (∀ p, p < 4 → σ' 54 p = nI (oW P p)) ∧ (∀ p j, p < 4 → j < oW P p → σ' 53 (12 * p + j) = nI (oOd P x p j)) ∧ ∀ p j, p < 4 → j < oW P p → σ' 55 (oOd P x p j) = nI j
theorem ox_dc0 : nI 0 + Int32.ofInt (-1) < 0 := by decide
theorem ox_sub1 (x : Int32) : x - Int32.ofInt 1 = x + Int32.ofInt (-1) := Int32.sub_eq_add_neg _ _
set_option maxHeartbeats 1000000 in
theorem ot_choose {L k x : Nat} {σ : ox_S} {P : oPr} (h : oM σ P) (hN : oNx P ≤ 5000) (hx : x < 2 ^ 31) (hk : 3 ≤ k) (hk9 : k ≤ 9) : oT L k 68 0 [some (.ref 7), some (.int (nI x)), none, none, none, none] [] σ (fun o σ' => o = .inl none ∧ oCh P x σ σ') := by
  obtain ⟨k, rfl⟩ : ∃ k', k = k' + 1 := ⟨k - 1, by omega⟩
  obtain ⟨⟨hT, hn, hok⟩, h1, h2, h3⟩ := id h
  have hw : ∀ p, oW P p ≤ 12 := fun p => Nat.le_trans (ocW_le P p P.n) hn
  have hR := ocR_le P P.n
  -- the reads
  have reads : ∀ (m : Nat) (τ : ox_S) (l5 : Option Value), m ≤ P.n → (∀ o, o < 52 ∨ 55 < o → τ o = σ o) → (∀ i, ocR P m ≤ i → i < ocR P P.n → τ 52 i = oSc P x i) → (∀ p, p < 4 → τ 54 p = nI (oW P p)) → (∀ p j, p < 4 → j < oW P p → τ 53 (12 * p + j) = nI (oOd P x p j)) → (∀ p j, p < 4 → j < oW P p → τ 55 (oOd P x p j) = nI j) →
      oT L (k + 1) 68 70 [some (.ref 7), some (.int (nI x)), some (.int (nI (oRr P x (ocR P P.n - ocR P m)))), some (.int (nI (ocR P m))), some (.int (nI m + Int32.ofInt (-1))), l5] [] τ (fun o σ' => o = .inl none ∧ oCh P x σ σ') := by
    intro m
    induction m with
    | zero =>
      intro τ l5 hm b1 b2 b3 b4 b5
      refine oT_N 2 rfl (oT_If (fun _ => ?_) (fun (q : ¬ nI 0 + Int32.ofInt (-1) < 0) => absurd ox_dc0 q))
      exact oT_Retv rfl rfl ⟨rfl, b1, fun i hi => b2 i (Nat.zero_le _) hi, b3, b4, b5⟩
    | succ e ih =>
      intro τ l5 hm b1 b2 b3 b4 b5
      rw [ox_dec]
      obtain ⟨g1, g2, g3, -⟩ := h3 e (by omega)
      obtain ⟨o1, o2, o3⟩ := hok e (by omega)
      have hec : (nI e).toNatClampNeg = e := nI_clamp (by omega)
      have n12 : ¬ (nI e < 0 ∨ 12 ≤ (nI e).toNatClampNeg) := ox_ix (by omega) (by decide)
      have hM : oM τ P := oM_ext h (by rw [b1 7 (by decide)]) (by rw [b1 7 (by decide)]) (fun o q1 q2 => b1 o (by omega))
      refine oT_N 2 rfl (oT_lt e 0 rfl rfl (by omega) (by decide) (fun q => by omega) (fun _ => ?_))
      refine oT_N 3 rfl (oT_I (o := 44) (n := nI e) rfl (Or.inl ⟨rfl, by decide⟩) n12 ?_)
      rw [hec, b1 44 (by decide), g2]
      refine oT_N 1 rfl (oT_eq (P.kd e) 0 rfl rfl (by omega) (by decide) (fun hk => ?_) (fun hk => ?_))
      · have hc : ocR P (e + 1) = ocR P e + 1 := by simp [ocR, hk]
        obtain ⟨r1, r2⟩ := oRd_of (P := P) (e := e) (by omega) hk
        have hpl := o3 (by omega)
        have hwp := hw (P.pl e)
        refine oT_N 6 rfl (oT_I (o := 45) (n := nI e) rfl (Or.inl ⟨rfl, by decide⟩) n12 ?_)
        rw [hec, b1 45 (by decide), g3, if_pos (by omega)]
        refine oT_V rfl rfl rfl rfl (by omega) (by omega) (ot_writes hM (by omega)) (fun x σ2 h => by cases h.1) (fun v σ2 hv => ?_)
        obtain ⟨hv, rfl⟩ := hv
        cases hv
        have e1 : Int32.ofInt 1 + nI (ocW P (P.pl e) P.n) = nI (1 + oW P (P.pl e)) := nI_add 1 _
        have hrl := oRr_le P x (ocR P P.n - ocR P (e + 1))
        have hpk : oRr P x (ocR P P.n - ocR P (e + 1)) % (1 + oW P (P.pl e)) = oPk P x (ocR P e) := by
          unfold oPk
          rw [r1, show ocR P P.n - ocR P (e + 1) = ocR P P.n - 1 - ocR P e by omega]
        have hdv : oRr P x (ocR P P.n - ocR P (e + 1)) / (1 + oW P (P.pl e)) = oRr P x (ocR P P.n - ocR P e) := by
          rw [show ocR P P.n - ocR P e = (ocR P P.n - ocR P (e + 1)) + 1 by omega]
          show _ = _ / _
          rw [show ocR P P.n - 1 - (ocR P P.n - ocR P (e + 1)) = ocR P e by omega, r1]
        have hne : ¬ Int32.ofInt 1 + nI (ocW P (P.pl e) P.n) = 0 := by rw [e1]; exact nI_ne0 (by omega) (by omega)
        -- behind the store
        have hend : ∀ s : Int32, s = oSc P x (ocR P e) → oT L (k + 1) 68 140 [some (.ref 7), some (.int (nI x)), some (.int (nI (oRr P x (ocR P P.n - ocR P (e + 1))))), some (.int (nI (ocR P e))), some (.int (nI e)), some (.int (Int32.ofInt 1 + nI (ocW P (P.pl e) P.n)))] [] (ox_up σ2 52 (ocR P e) s) (fun o σ' => o = .inl none ∧ oCh P x σ σ') := fun s hs => by
          refine oT_N 2 rfl (oT_Div (x := nI (oRr P x (ocR P P.n - ocR P (e + 1)))) (y := Int32.ofInt 1 + nI (ocW P (P.pl e) P.n)) rfl hne ?_)
          rw [e1, pk_div (by omega) (by omega) (by omega), hdv]
          exact oT_N 3 rfl (ih (ox_up σ2 52 (ocR P e) s) (some (.int (nI (1 + oW P (P.pl e))))) (by omega) (fun o ho => by rw [ox_up_ne (by omega)]; exact b1 o ho) (fun i q1 q2 => by
            rw [ox_up_at]
            by_cases e2 : i = ocR P e
            · rw [if_pos e2, e2]; exact hs
            · rw [if_neg e2]; exact b2 i (by omega) q2) (fun p hp => by rw [ox_up_ne (by decide)]; exact b3 p hp) (fun p j hp hj => by rw [ox_up_ne (by decide)]; exact b4 p j hp hj) (fun p j hp hj => by rw [ox_up_ne (by decide)]; exact b5 p j hp hj))
        have hrr : nI (ocR P (e + 1)) + Int32.ofInt (-1) = nI (ocR P e) := by rw [hc]; exact ox_dec _
        refine oT_N 7 rfl (oT_Rem (x := nI (oRr P x (ocR P P.n - ocR P (e + 1)))) (y := Int32.ofInt 1 + nI (ocW P (P.pl e) P.n)) rfl hne ?_)
        have hrem : nI (oRr P x (ocR P P.n - ocR P (e + 1))) - nI (oRr P x (ocR P P.n - ocR P (e + 1))) / (Int32.ofInt 1 + nI (ocW P (P.pl e) P.n)) * (Int32.ofInt 1 + nI (ocW P (P.pl e) P.n)) = nI (oPk P x (ocR P e)) := by
          rw [e1, pk_rem (by omega) (by omega) (by omega), hpk]
        have hpkl : oPk P x (ocR P e) < 1 + oW P (P.pl e) := by rw [← hpk]; exact Nat.mod_lt _ (by omega)
        rw [hrem, hrr]
        refine oT_N 1 rfl (oT_eq (oPk P x (ocR P e)) 0 rfl rfl (by omega) (by decide) (fun q => ?_) (fun q => ?_))
        · refine oT_N 2 rfl (oT_Is (o := 52) (n := nI (ocR P e)) (x := -1) rfl ⟨rfl, by decide⟩ (ox_ix (N := 12) (by omega) (by decide)) ?_)
          rw [nI_clamp (by omega)]
          exact hend _ (by unfold oSc; rw [if_pos q])
        · refine oT_N 4 rfl (oT_I (o := 45) (n := nI e) rfl (Or.inl ⟨rfl, by decide⟩) n12 ?_)
          rw [hec, b1 45 (by decide), g3, if_pos (by omega)]
          refine oT_N 2 rfl (oT_Rem (x := nI (oRr P x (ocR P P.n - ocR P (e + 1)))) (y := Int32.ofInt 1 + nI (ocW P (P.pl e) P.n)) rfl hne ?_)
          rw [hrem]
          have hm1 : nI (oPk P x (ocR P e)) - Int32.ofInt 1 = nI (oPk P x (ocR P e) - 1) := pk_sub (b := 1) (by omega)
          refine oT_N 2 rfl ?_
          rw [hm1]
          refine oT_V rfl rfl rfl rfl (by omega) (by omega) (ot_write hM hpl (show oPk P x (ocR P e) - 1 < _ by omega)) (fun x σ2 h => by cases h.1) (fun v σ3 hv => ?_)
          obtain ⟨hv, rfl⟩ := hv
          cases hv
          refine oT_Is (o := 52) (n := nI (ocR P e)) (x := nI (oWr P (P.pl e) (oPk P x (ocR P e) - 1))) rfl ⟨rfl, by decide⟩ (ox_ix (N := 12) (by omega) (by decide)) ?_
          rw [nI_clamp (by omega)]
          exact hend _ (by unfold oSc; rw [if_neg q, r1])
      · have hc : ocR P (e + 1) = ocR P e := by simp [ocR, hk]
        rw [hc] at b2 ⊢
        exact oT_N 3 rfl (ih τ l5 (by omega) b1 b2 b3 b4 b5)
  -- the places
  have places : ∀ (m j : Nat) (τ : ox_S) (l4 l5 : Option Value), m + j = 4 → (∀ o, o ≠ 53 → o ≠ 54 → o ≠ 55 → τ o = σ o) → (∀ p, m ≤ p → p < 4 → τ 54 p = nI (oW P p)) → (∀ p j, m ≤ p → p < 4 → j < oW P p → τ 53 (12 * p + j) = nI (oOd P x p j)) → (∀ p j, m ≤ p → p < 4 → j < oW P p → τ 55 (oOd P x p j) = nI j) →
      oT L (k + 1) 68 4 [some (.ref 7), some (.int (nI x)), some (.int (nI (oRs P x j))), some (.int (nI m + Int32.ofInt (-1))), l4, l5] [] τ (fun o σ' => o = .inl none ∧ oCh P x σ σ') := by
    intro m
    induction m with
    | zero =>
      intro j τ l4 l5 hm b1 b3 b4 b5
      obtain rfl : j = 4 := by omega
      have hM : oM τ P := oM_ext h (by rw [b1 7 (by decide) (by decide) (by decide)]) (by rw [b1 7 (by decide) (by decide) (by decide)]) (fun o q1 q2 => b1 o (by omega) (by omega) (by omega))
      refine oT_N 2 rfl (oT_If (fun _ => ?_) (fun (q : ¬ nI 0 + Int32.ofInt (-1) < 0) => absurd ox_dc0 q))
      refine oT_N 1 rfl (oT_V rfl rfl rfl rfl (by omega) (by omega) (ot_reads hM) (fun x σ2 h => by cases h.1) (fun v σ2 hv => ?_))
      obtain ⟨hv, rfl⟩ := hv
      cases hv
      have e9 := reads P.n σ2 l5 (Nat.le_refl _) (fun o ho => b1 o (by omega) (by omega) (by omega)) (fun i q1 q2 => by omega) (fun p hp => b3 p (by omega) hp) (fun p j hp hj => b4 p j (by omega) hp hj) (fun p j hp hj => b5 p j (by omega) hp hj)
      rw [Nat.sub_self, ← ox_sub1, ← h2, ← b1 7 (by decide) (by decide) (by decide)] at e9
      exact oT_N 6 rfl e9
    | succ p ih =>
      intro j τ l4 l5 hm b1 b3 b4 b5
      rw [ox_dec]
      have hM : oM τ P := oM_ext h (by rw [b1 7 (by decide) (by decide) (by decide)]) (by rw [b1 7 (by decide) (by decide) (by decide)]) (fun o q1 q2 => b1 o (by omega) (by omega) (by omega))
      obtain ⟨hF, -⟩ := oFc_dvd (P := P) (p := p) (by omega) hN
      have hwp := hw p
      refine oT_N 2 rfl (oT_lt p 0 rfl rfl (by omega) (by decide) (fun q => by omega) (fun _ => ?_))
      refine oT_N 4 rfl ?_
      have size : ∀ (d j' : Nat), (j' + d = oW P p ∨ (d = 0 ∧ oW P p ≤ j')) → 1 ≤ j' → j' ≤ 12 → (d = 0 → oFc j' = oFc (oW P p)) → oT L (k + 1) 68 14 [some (.ref 7), some (.int (nI x)), some (.int (nI (oRs P x j))), some (.int (nI p)), some (.int (nI (oFc j'))), some (.int (nI (j' + 1)))] [] τ (fun o σ' => o = .inl none ∧ oCh P x σ σ') := by
        intro d
        induction d with
        | zero =>
          intro j' hj h1 h12 hq
          refine oT_N 3 rfl (oT_V rfl rfl rfl rfl (by omega) (by omega) (ot_writes hM (by omega)) (fun x σ2 h => by cases h.1) (fun v σ2 hv => ?_))
          obtain ⟨hv, rfl⟩ := hv
          cases hv
          refine oT_N 1 rfl (oT_lt (oW P p) (j' + 1) rfl rfl (by omega) (by omega) (fun _ => ?_) (fun q => by omega))
          rw [hq rfl]
          have hrl := oRs_le P x j
          have hp0 := oFc_pos (oW P p)
          refine oT_N 4 rfl (oT_Rem (x := nI (oRs P x j)) (y := nI (oFc (oW P p))) rfl (nI_ne0 hp0 (by omega)) ?_)
          rw [pk_rem (by omega) hp0 (by omega)]
          have har := ot_arrange (L := L) (k := k) (x := x) hM (show p < 4 by omega) hF (by omega) (by omega)
          rw [show 3 - p = j by omega] at har
          refine oT_V rfl rfl rfl rfl (by omega) (by omega) har (fun x σ2 h => by cases h.1) (fun v σ3 hv => ?_)
          obtain ⟨hv, a1, a2, a3, a4, a5, a6, a7, a8⟩ := hv
          cases hv
          refine oT_N 2 rfl (oT_Div (x := nI (oRs P x j)) (y := nI (oFc (oW P p))) rfl (nI_ne0 hp0 (by omega)) ?_)
          rw [pk_div (by omega) hp0 (by omega)]
          have hnx : oRs P x j / oFc (oW P p) = oRs P x (j + 1) := by
            show _ = oRs P x j / _
            rw [show 3 - j = p by omega]
          rw [hnx]
          refine oT_N 3 rfl (ih (j + 1) σ3 _ _ (by omega) (fun o q1 q2 q3 => by rw [a1 o q1 q2 q3]; exact b1 o q1 q2 q3) (fun p' q1 q2 => ?_) (fun p' i q1 q2 q3 => ?_) (fun p' i q1 q2 q3 => ?_))
          · by_cases e2 : p' = p
            · rw [e2]; exact a3
            · rw [a2 p' e2]; exact b3 p' (by omega) q2
          · by_cases e2 : p' = p
            · subst e2; exact a4 i q3
            · have := hw p'
              rw [a5 _ (by omega)]; exact b4 p' i (by omega) q2 q3
          · by_cases e2 : p' = p
            · subst e2; exact a6 i q3
            · have := oOd_w (P := P) (x := x) q3
              rw [a8 _ (fun e3 => e2 (by rw [← this.2.2]; exact e3.2))]; exact b5 p' i (by omega) q2 q3
        | succ d ihd =>
          intro j' hj h1 h12 hq
          refine oT_N 3 rfl (oT_V rfl rfl rfl rfl (by omega) (by omega) (ot_writes hM (by omega)) (fun x σ2 h => by cases h.1) (fun v σ2 hv => ?_))
          obtain ⟨hv, rfl⟩ := hv
          cases hv
          refine oT_N 1 rfl (oT_lt (oW P p) (j' + 1) rfl rfl (by omega) (by omega) (fun q => by omega) (fun _ => ?_))
          have e9 := ihd (j' + 1) (by omega) (by omega) (by omega) (fun q => by congr 1; omega)
          rw [← ox_inc (j' + 1), show oFc (j' + 1) = oFc j' * (j' + 1) from Nat.mul_comm _ _, ← pk_mul] at e9
          exact oT_N 6 rfl e9
      rcases Nat.lt_or_ge 1 (oW P p) with q | q
      · exact size (oW P p - 1) 1 (Or.inl (by omega)) (by omega) (by omega) (fun _ => by omega)
      · refine size 0 1 (Or.inr ⟨rfl, q⟩) (by omega) (by omega) (fun _ => ?_)
        generalize oW P p = w at q
        rcases Nat.lt_or_ge w 1 with q2 | q2
        · obtain rfl : w = 0 := by omega
          rfl
        · obtain rfl : w = 1 := by omega
          rfl
  refine oT_N 4 rfl ?_
  exact places 4 0 σ none none rfl (fun _ _ _ _ => rfl) (fun p q1 q2 => by omega) (fun p j q1 q2 => by omega) (fun p j q1 q2 => by omega)
end
section
/-- bit b of an int -/
def oBit (m : Int32) (b : Nat) : Bool := m.toBitVec.getLsbD b
theorem oBit_or (x y : Int32) (b : Nat) : oBit (x ||| y) b = (oBit x b || oBit y b) := by
  unfold oBit
  rw [Int32.toBitVec_or, BitVec.getLsbD_or]
theorem oBit_and (x y : Int32) (b : Nat) : oBit (x &&& y) b = (oBit x b && oBit y b) := by
  unfold oBit
  rw [Int32.toBitVec_and, BitVec.getLsbD_and]
theorem oBit_hi (x : Int32) {b : Nat} (h : 32 ≤ b) : oBit x b = false := BitVec.getLsbD_of_ge _ _ h
theorem oBit_no (x : Int32) (b : Nat) : oBit (x ^^^ Int32.ofInt (-1)) b = (decide (b < 32) && !(oBit x b)) := by
  rcases Nat.lt_or_ge b 32 with q | q
  · unfold oBit
    rw [Int32.toBitVec_xor, BitVec.getLsbD_xor]
    have : ∀ b, b < 32 → (Int32.ofInt (-1)).toBitVec.getLsbD b = true := by decide +kernel
    rw [this b q, decide_eq_true q]
    cases x.toBitVec.getLsbD b <;> rfl
  · rw [oBit_hi _ q, decide_eq_false (by omega)]
    rfl
theorem oBit_0 (b : Nat) : oBit 0 b = false := by
  unfold oBit
  show (0#32).getLsbD b = false
  exact BitVec.getLsbD_zero
theorem oBit_ext {x y : Int32} (h : ∀ b, b < 32 → oBit x b = oBit y b) : x = y :=
  Int32.toBitVec_inj.mp (BitVec.eq_of_getLsbD_eq (fun i hi => h i hi))
/-- one bit alone, as the machine makes it -/
def o1 (b : Nat) : Int32 := Int32.ofInt 1 <<< (nI b &&& 31)
theorem oBit_1 {b : Nat} (hb : b < 12) (i : Nat) : oBit (o1 b) i = decide (i = b) := by
  rcases Nat.lt_or_ge i 32 with q | q
  · have : ∀ b, b < 12 → ∀ i, i < 32 → oBit (o1 b) i = decide (i = b) := by decide +kernel
    exact this b hb i q
  · rw [oBit_hi _ q, decide_eq_false (by omega)]
theorem oBit_and0 {x y : Int32} : x &&& y = 0 ↔ ∀ b, b < 32 → ¬ (oBit x b = true ∧ oBit y b = true) := by
  constructor
  · intro h b hb q
    have := oBit_and x y b
    rw [h, oBit_0, q.1, q.2] at this
    cases this
  · intro h
    refine oBit_ext (fun b hb => ?_)
    rw [oBit_and, oBit_0]
    cases h1 : oBit x b <;> cases h2 : oBit y b <;> simp_all
theorem oBit_t {x : Int32} {b : Nat} (hb : b < 12) : x &&& o1 b = 0 ↔ oBit x b = false := by
  rw [oBit_and0]
  constructor
  · intro h
    cases h1 : oBit x b with
    | false => rfl
    | true => exact absurd ⟨h1, by rw [oBit_1 hb]; exact decide_eq_true rfl⟩ (h b (by omega))
  · intro h i hi q
    rw [oBit_1 hb, decide_eq_true_eq] at q
    rw [q.2, h] at q
    cases q.1
/-- n ones -/
theorem oBit_n {n : Nat} (hn : n ≤ 12) (i : Nat) : oBit ((Int32.ofInt 1 <<< (nI n &&& 31)) - Int32.ofInt 1) i = decide (i < n) := by
  rcases Nat.lt_or_ge i 32 with q | q
  · have : ∀ n, n < 13 → ∀ i, i < 32 → oBit ((Int32.ofInt 1 <<< (nI n &&& 31)) - Int32.ofInt 1) i = decide (i < n) := by decide +kernel
    exact this n (by omega) i q
  · rw [oBit_hi _ q, decide_eq_false (by omega)]
section OXV
variable {L k mi p q : Nat} {ls : List (Option Value)} {st : List Value} {σ : ox_S} {Post : ox_O → ox_S → Prop} {x : Int32}
/-- a tested bit -/
theorem oT_bit (b : Nat) (hb : b < 12) (f : oBit x b = false → oT L k mi p ls st σ Post) (g : oBit x b = true → oT L k mi q ls st σ Post) : oT L k mi (if x &&& o1 b = 0 then p else q) ls st σ Post :=
  oT_If (fun h => f ((oBit_t hb).mp h)) (fun h => g (by cases e : oBit x b with
    | true => rfl
    | false => exact absurd ((oBit_t hb).mpr e) h))
end OXV
/-- the class holds the program -/
def oC (σ : ox_S) (P : oPr) : Prop := P.ok ∧ σ 1 0 = nI P.T ∧ σ 1 1 = nI P.n ∧ σ 1 2 = nI (ocR P P.n) ∧
  (∀ e, e < P.n → σ 9 e = nI (P.th e) ∧ σ 10 e = nI (P.kd e) ∧ σ 11 e = (if P.kd e < 2 then nI (P.pl e) else -1) ∧ σ 12 e = P.vl e ∧ ∀ b, b < 12 → oBit (σ 13 e) b = (decide (b < P.n) && P.dp e b)) ∧
  (∀ i, i < ocR P P.n → σ 14 i = nI (oRd P i)) ∧ (∀ p, p < 4 → σ 15 p = nI (oW P p)) ∧ (∀ p, p < 4 → ∀ b, b < 12 → oBit (σ 16 p) b = (decide (b < P.n) && oIw P p b)) ∧ ∀ p, p < 4 → ∀ j, j < oW P p → σ (18 + p) j = nI (oWr P p j)
theorem oC_ext {P : oPr} {σ τ : ox_S} (h : oC σ P) (h1 : τ 1 = σ 1) (h2 : ∀ o, 9 ≤ o → o ≤ 21 → τ o = σ o) : oC τ P := by
  obtain ⟨a1, a2, a3, a4, a5, a6, a7, a8, a9⟩ := h
  refine ⟨a1, by rw [h1]; exact a2, by rw [h1]; exact a3, by rw [h1]; exact a4, fun e he => ?_, fun i hi => ?_, fun p hp => ?_, fun p hp => ?_, fun p hp => ?_⟩
  · rw [h2 9 (by decide) (by decide), h2 10 (by decide) (by decide), h2 11 (by decide) (by decide), h2 12 (by decide) (by decide), h2 13 (by decide) (by decide)]
    exact a5 e he
  · rw [h2 14 (by decide) (by decide)]; exact a6 i hi
  · rw [h2 15 (by decide) (by decide)]; exact a7 p hp
  · rw [h2 16 (by decide) (by decide)]; exact a8 p hp
  · rw [h2 (18 + p) (by omega) (by omega)]; exact a9 p hp
theorem ot_placeRead {L k i : Nat} {σ : ox_S} {P : oPr} (h : oC σ P) (hi : i < ocR P P.n) : oT L k 27 0 [some (.ref 1), some (.int (nI i))] [] σ (fun o σ' => o = .inl (some (.int (nI (P.pl (oRd P i))))) ∧ σ' = σ) := by
  obtain ⟨⟨hT, hn, hok⟩, a2, a3, a4, a5, a6, a7, a8, a9⟩ := h
  have hR := ocR_le P P.n
  obtain ⟨r1, r2, r3⟩ := oRd_sp hi
  obtain ⟨g1, g2, g3, -⟩ := a5 _ r1
  refine oT_N 5 rfl (oT_I (o := 14) (n := nI i) rfl (Or.inl ⟨rfl, by decide⟩) (ox_ix (N := 12) (by omega) (by decide)) ?_)
  rw [nI_clamp (by omega), a6 i hi]
  refine oT_I (o := 11) (n := nI (oRd P i)) rfl (Or.inl ⟨rfl, by decide⟩) (ox_ix (N := 12) (by omega) (by decide)) ?_
  rw [nI_clamp (by omega), g3, if_pos (by omega)]
  exact oT_Ret rfl rfl rfl ⟨rfl, rfl⟩
theorem ot_isBefore {L k a b : Nat} {σ : ox_S} {P : oPr} (h : oC σ P) (ha : a < P.n) (hb : b < P.n) : oT L k 26 0 [some (.ref 1), some (.int (nI a)), some (.int (nI b))] [] σ (fun o σ' => o = .inl (some (.int (if oPg P a b then 1 else 0))) ∧ σ' = σ) := by
  obtain ⟨⟨hT, hn, hok⟩, a2, a3, a4, a5, a6, a7, a8, a9⟩ := h
  have ta := hok a ha
  have tb := hok b hb
  refine oT_N 3 rfl (oT_le b a rfl rfl (by omega) (by omega) (fun q => ?_) (fun q => ?_))
  · refine oT_N 1 rfl (oT_Ret rfl rfl rfl ⟨?_, rfl⟩)
    simp [oPg, show ¬ a < b by omega]
  · refine oT_N 3 rfl (oT_I (o := 9) (n := nI a) rfl (Or.inl ⟨rfl, by decide⟩) (ox_ix (N := 12) (by omega) (by decide)) ?_)
    rw [nI_clamp (by omega), (a5 a ha).1]
    refine oT_N 3 rfl (oT_I (o := 9) (n := nI b) rfl (Or.inl ⟨rfl, by decide⟩) (ox_ix (N := 12) (by omega) (by decide)) ?_)
    rw [nI_clamp (by omega), (a5 b hb).1]
    refine oT_N 1 rfl (oT_eq (P.th a) (P.th b) rfl rfl (by omega) (by omega) (fun e => ?_) (fun e => ?_))
    · refine oT_N 2 rfl (oT_Ret rfl rfl rfl ⟨?_, rfl⟩)
      simp [oPg, q, e]
    · refine oT_N 1 rfl (oT_Ret rfl rfl rfl ⟨?_, rfl⟩)
      simp [oPg, e]
/-- v counts T, but past 5000 it may have stopped -/
def oAp (v T : Nat) : Prop := (v ≤ 5000 → v = T) ∧ (5000 < v → 5000 < T) ∧ v ≤ 65000
theorem oAp_mul {v T f : Nat} (h : oAp v T) (hv : v ≤ 5000) (h1 : 1 ≤ f) (h13 : f ≤ 13) : oAp (v * f) (T * f) := by
  obtain ⟨a1, a2, a3⟩ := h
  have e := a1 hv
  subst e
  refine ⟨fun _ => rfl, fun q => q, ?_⟩
  have := Nat.mul_le_mul hv h13
  omega
theorem oAp_up {v T T' : Nat} (h : oAp v T) (hv : 5000 < v) (hT : T ≤ T') : oAp v T' :=
  ⟨fun q => by omega, fun _ => Nat.lt_of_lt_of_le (h.2.1 hv) hT, h.2.2⟩
theorem oNr_mono (P : oPr) {a b : Nat} (h : a ≤ b) : oNr P a ≤ oNr P b := by
  induction b with
  | zero => obtain rfl : a = 0 := by omega
            exact Nat.le_refl _
  | succ b ih =>
    rcases Nat.lt_or_ge b a with q | q
    · obtain rfl : a = b + 1 := by omega
      exact Nat.le_refl _
    · exact Nat.le_trans (ih q) (Nat.le_mul_of_pos_right _ (by omega))
theorem oFc_1 {w : Nat} (h : w ≤ 1) : oFc 1 = oFc w := by
  rcases Nat.lt_or_ge w 1 with q2 | q2
  · obtain rfl : w = 0 := by omega
    rfl
  · obtain rfl : w = 1 := by omega
    rfl
theorem ox_gt5 {v : Nat} (hv : v ≤ 65000) : 0 < lg_cmp (lN v) (Int64.ofNat 5000) ↔ 5000 < v := by
  rw [lg_cmp_gt]
  exact pk_lLT (by omega) (by omega)
set_option maxHeartbeats 1000000 in
theorem ot_executions {L k : Nat} {σ : ox_S} {P : oPr} (h : oM σ P) (hk : 2 ≤ k) (hk9 : k ≤ 9) : oT L k 65 0 [some (.ref 7), none, none, none, none] [] σ (fun o σ' => o = .inl (some (.int (nI (if oNx P ≤ 5000 then oNx P else 5001)))) ∧ σ' = σ) := by
  obtain ⟨k, rfl⟩ : ∃ k', k = k' + 1 := ⟨k - 1, by omega⟩
  obtain ⟨⟨hT, hn, hok⟩, h1, h2, h3⟩ := id h
  have hw : ∀ p, oW P p ≤ 12 := fun p => Nat.le_trans (ocW_le P p P.n) hn
  have places : ∀ (d p v : Nat) (l4 : Option Value), p + d = 4 → oAp v (oNr P (ocR P P.n) * oNw P p) → oT L (k + 1) 65 57 [some (.ref 7), some (.long (lN v)), none, some (.int (nI p)), l4] [] σ (fun o σ' => o = .inl (some (.int (nI (if oNx P ≤ 5000 then oNx P else 5001)))) ∧ σ' = σ) := by
    intro d
    induction d with
    | zero =>
      intro p v l4 hp hA
      obtain rfl : p = 4 := by omega
      refine oT_N 3 rfl (oT_le 4 4 rfl rfl (by decide) (by decide) (fun _ => ?_) (fun q => by omega))
      refine oT_N 4 rfl (oT_If (fun (q : lg_cmp (lN v) (Int64.ofNat 5000) ≤ 0) => ?_) (fun (q : ¬ lg_cmp (lN v) (Int64.ofNat 5000) ≤ 0) => ?_))
      · have hv : v ≤ 5000 := Nat.le_of_not_lt (fun e => Int32.not_lt.mpr q ((ox_gt5 hA.2.2).mpr e))
        have e : oNx P = v := (hA.1 hv).symm
        refine oT_N 2 rfl (oT_Ret (v := (lN v).toInt32) rfl rfl rfl ⟨?_, rfl⟩)
        rw [e, if_pos hv, lN_i]
      · have hv : 5000 < v := (ox_gt5 hA.2.2).mp (Int32.not_le.mp q)
        have e := hA.2.1 hv
        refine oT_N 2 rfl (oT_Ret rfl rfl rfl ⟨?_, rfl⟩)
        rw [if_neg (show ¬ oNx P ≤ 5000 by unfold oNx; omega)]
        rfl
    | succ d ih =>
      intro p v l4 hp hA
      refine oT_N 3 rfl (oT_le 4 p rfl rfl (by decide) (by omega) (fun q => by omega) (fun _ => ?_))
      refine oT_N 2 rfl ?_
      have hwp := hw p
      have ks : ∀ (d j v : Nat), (j + d = oW P p ∨ (d = 0 ∧ oW P p ≤ j)) → 1 ≤ j → j ≤ 12 → (d = 0 → oFc j = oFc (oW P p)) → oAp v (oNr P (ocR P P.n) * (oNw P p * oFc j)) → oT L (k + 1) 65 65 [some (.ref 7), some (.long (lN v)), none, some (.int (nI p)), some (.int (nI (j + 1)))] [] σ (fun o σ' => o = .inl (some (.int (nI (if oNx P ≤ 5000 then oNx P else 5001)))) ∧ σ' = σ) := by
        intro d
        induction d with
        | zero =>
          intro j v hj h1 h12 hq hA
          refine oT_N 3 rfl (oT_V rfl rfl rfl rfl (by omega) (by omega) (ot_writes h (by omega)) (fun x σ2 h => by cases h.1) (fun v σ2 hv => ?_))
          obtain ⟨hv, rfl⟩ := hv
          cases hv
          refine oT_N 1 rfl (oT_lt (oW P p) (j + 1) rfl rfl (by omega) (by omega) (fun _ => ?_) (fun q => by omega))
          rw [hq rfl] at hA
          have e9 := ih (p + 1) v (some (.int (nI (j + 1)))) (by omega) hA
          rw [← ox_inc p] at e9
          exact oT_N 2 rfl e9
        | succ d ihd =>
          intro j v hj h1 h12 hq hA
          refine oT_N 3 rfl (oT_V rfl rfl rfl rfl (by omega) (by omega) (ot_writes h (by omega)) (fun x σ2 h => by cases h.1) (fun v σ2 hv => ?_))
          obtain ⟨hv, rfl⟩ := hv
          cases hv
          refine oT_N 1 rfl (oT_lt (oW P p) (j + 1) rfl rfl (by omega) (by omega) (fun q => by omega) (fun _ => ?_))
          refine oT_N 4 rfl (oT_If (fun (q : 0 < lg_cmp (lN v) (Int64.ofNat 5000)) => ?_) (fun (q : ¬ 0 < lg_cmp (lN v) (Int64.ofNat 5000)) => ?_))
          · have e9 := ih (p + 1) v (some (.int (nI (j + 1)))) (by omega) (oAp_up hA ((ox_gt5 hA.2.2).mp q) (Nat.mul_le_mul_left _ (Nat.mul_le_mul_left _ (oFc_le (show j ≤ oW P p by omega)))))
            rw [← ox_inc p] at e9
            exact oT_N 2 rfl e9
          · have hv : v ≤ 5000 := Nat.le_of_not_lt (fun e => q ((ox_gt5 hA.2.2).mpr e))
            have hA2 := oAp_mul hA hv (show 1 ≤ j + 1 by omega) (by omega)
            have e9 := ihd (j + 1) (v * (j + 1)) (by omega) (by omega) (by omega) (fun q => by congr 1; omega) (by
              rw [show oFc (j + 1) = oFc j * (j + 1) from Nat.mul_comm _ _, ← Nat.mul_assoc, ← Nat.mul_assoc, Nat.mul_assoc (oNr P (ocR P P.n))]
              exact hA2)
            rw [← ox_inc (j + 1), ← lN_mul, ← nI_l (n := j + 1) (by omega)] at e9
            exact oT_N 7 rfl e9
      have hA1 : oAp v (oNr P (ocR P P.n) * (oNw P p * oFc 1)) := by
        show oAp v (oNr P (ocR P P.n) * (oNw P p * 1))
        rw [Nat.mul_one]; exact hA
      rcases Nat.lt_or_ge 1 (oW P p) with q | q
      · exact ks (oW P p - 1) 1 v (Or.inl (by omega)) (by omega) (by omega) (fun _ => by omega) hA1
      · exact ks 0 1 v (Or.inr ⟨rfl, q⟩) (by omega) (by omega) (fun _ => oFc_1 q) hA1
  have hnw : ∀ v, oAp v (oNr P (ocR P P.n)) → oAp v (oNr P (ocR P P.n) * oNw P 0) := fun v hv => by
    show oAp v (_ * 1)
    rw [Nat.mul_one]; exact hv
  have reads : ∀ (d e v : Nat), e + d = P.n → oAp v (oNr P (ocR P e)) → oT L (k + 1) 65 4 [some (.ref 7), some (.long (lN v)), none, some (.int (nI e)), none] [] σ (fun o σ' => o = .inl (some (.int (nI (if oNx P ≤ 5000 then oNx P else 5001)))) ∧ σ' = σ) := by
    intro d
    induction d with
    | zero =>
      intro e v he hA
      obtain rfl : e = P.n := by omega
      refine oT_N 4 rfl (oT_le P.n P.n h2 rfl (by omega) (by omega) (fun _ => ?_) (fun q => by omega))
      exact oT_N 2 rfl (places 4 0 v none rfl (hnw v hA))
    | succ d ih =>
      intro e v he hA
      obtain ⟨g1, g2, g3, -⟩ := h3 e (by omega)
      obtain ⟨o1, o2, o3⟩ := hok e (by omega)
      have hec : (nI e).toNatClampNeg = e := nI_clamp (by omega)
      have n12 : ¬ (nI e < 0 ∨ 12 ≤ (nI e).toNatClampNeg) := ox_ix (by omega) (by decide)
      refine oT_N 4 rfl (oT_le P.n e h2 rfl (by omega) (by omega) (fun q => by omega) (fun _ => ?_))
      refine oT_N 4 rfl (oT_If (fun (q : 0 < lg_cmp (lN v) (Int64.ofNat 5000)) => ?_) (fun (q : ¬ 0 < lg_cmp (lN v) (Int64.ofNat 5000)) => ?_))
      · refine oT_N 2 rfl (places 4 0 v none rfl (hnw v (oAp_up hA ((ox_gt5 hA.2.2).mp q) (oNr_mono P ?_))))
        rw [ocR_cn, ocR_cn]
        exact oCn_mono (by omega)
      · have hv : v ≤ 5000 := Nat.le_of_not_lt (fun e => q ((ox_gt5 hA.2.2).mpr e))
        refine oT_N 4 rfl (oT_I (o := 44) (n := nI e) rfl (Or.inl ⟨rfl, by decide⟩) n12 ?_)
        rw [hec, g2]
        refine oT_N 1 rfl (oT_eq (P.kd e) 0 rfl rfl (by omega) (by decide) (fun hk => ?_) (fun hk => ?_))
        · have hc : ocR P (e + 1) = ocR P e + 1 := by simp [ocR, hk]
          have hpl := o3 (by omega)
          have hwp := hw (P.pl e)
          refine oT_N 5 rfl (oT_I (o := 45) (n := nI e) rfl (Or.inl ⟨rfl, by decide⟩) n12 ?_)
          rw [hec, g3, if_pos (by omega)]
          refine oT_V rfl rfl rfl rfl (by omega) (by omega) (ot_writes h (by omega)) (fun x σ2 h => by cases h.1) (fun v σ2 hv => ?_)
          obtain ⟨hv, rfl⟩ := hv
          cases hv
          have e1 : Int32.ofInt 1 + nI (ocW P (P.pl e) P.n) = nI (1 + oW P (P.pl e)) := nI_add 1 _
          have e9 := ih (e + 1) (v * (1 + oW P (P.pl e))) (by omega) (by
            rw [hc]
            show oAp _ (oNr P (ocR P e) * (1 + oW P (P.pl (oRd P (ocR P e)))))
            rw [(oRd_of (by omega) hk).1]
            exact oAp_mul hA hv (by omega) (by omega))
          rw [← ox_inc e, ← lN_mul, ← nI_l (n := 1 + oW P (P.pl e)) (by omega), ← e1] at e9
          exact oT_N 7 rfl e9
        · have hc : ocR P (e + 1) = ocR P e := by simp [ocR, hk]
          have e9 := ih (e + 1) (v * 1) (by omega) (by rw [hc, Nat.mul_one]; exact hA)
          rw [← ox_inc e, ← lN_mul] at e9
          exact oT_N 5 rfl e9
  refine oT_N 4 rfl ?_
  exact reads P.n 0 1 (by omega) ⟨fun _ => rfl, fun q => by omega, by omega⟩
set_option maxHeartbeats 1000000 in
theorem ot_countExecutions {L k : Nat} {σ : ox_S} {P : oPr} (h : oC σ P) (hk : 2 ≤ k) (hk9 : k ≤ 9) : oT L k 28 0 [some (.ref 1), none, none, none] [] σ (fun o σ' => ∃ v, o = .inl (some (.int (nI v))) ∧ oAp v (oNx P) ∧ σ' = σ) := by
  obtain ⟨k, rfl⟩ : ∃ k', k = k' + 1 := ⟨k - 1, by omega⟩
  obtain ⟨⟨hT, hn, hok⟩, a2, a3, a4, a5, a6, a7, a8, a9⟩ := id h
  have hw : ∀ p, oW P p ≤ 12 := fun p => Nat.le_trans (ocW_le P p P.n) hn
  have hR := ocR_le P P.n
  have places : ∀ (d p v : Nat) (l3 : Option Value), p + d = 4 → oAp v (oNr P (ocR P P.n) * oNw P p) → oT L (k + 1) 28 42 [some (.ref 1), some (.int (nI v)), some (.int (nI p)), l3] [] σ (fun o σ' => ∃ v, o = .inl (some (.int (nI v))) ∧ oAp v (oNx P) ∧ σ' = σ) := by
    intro d
    induction d with
    | zero =>
      intro p v l3 hp hA
      obtain rfl : p = 4 := by omega
      refine oT_N 3 rfl (oT_le 4 4 rfl rfl (by decide) (by decide) (fun _ => ?_) (fun q => by omega))
      exact oT_N 1 rfl (oT_Ret rfl rfl rfl ⟨v, rfl, hA, rfl⟩)
    | succ d ih =>
      intro p v l3 hp hA
      refine oT_N 3 rfl (oT_le 4 p rfl rfl (by decide) (by omega) (fun q => by omega) (fun _ => ?_))
      refine oT_N 2 rfl ?_
      have hwp := hw p
      have ks : ∀ (d j v : Nat), (j + d = oW P p ∨ (d = 0 ∧ oW P p ≤ j)) → 1 ≤ j → j ≤ 12 → (d = 0 → oFc j = oFc (oW P p)) → oAp v (oNr P (ocR P P.n) * (oNw P p * oFc j)) → oT L (k + 1) 28 49 [some (.ref 1), some (.int (nI v)), some (.int (nI p)), some (.int (nI (j + 1)))] [] σ (fun o σ' => ∃ v, o = .inl (some (.int (nI v))) ∧ oAp v (oNx P) ∧ σ' = σ) := by
        intro d
        induction d with
        | zero =>
          intro j v hj h1 h12 hq hA
          refine oT_N 4 rfl (oT_I (o := 15) (n := nI p) rfl (Or.inl ⟨rfl, by decide⟩) (ox_ix (N := 4) (by omega) (by decide)) ?_)
          rw [nI_clamp (by omega), a7 p (by omega)]
          refine oT_N 1 rfl (oT_lt (oW P p) (j + 1) rfl rfl (by omega) (by omega) (fun _ => ?_) (fun q => by omega))
          rw [hq rfl] at hA
          have e9 := ih (p + 1) v (some (.int (nI (j + 1)))) (by omega) hA
          rw [← ox_inc p] at e9
          exact oT_N 2 rfl e9
        | succ d ihd =>
          intro j v hj h1 h12 hq hA
          have hv65 := hA.2.2
          refine oT_N 4 rfl (oT_I (o := 15) (n := nI p) rfl (Or.inl ⟨rfl, by decide⟩) (ox_ix (N := 4) (by omega) (by decide)) ?_)
          rw [nI_clamp (by omega), a7 p (by omega)]
          refine oT_N 1 rfl (oT_lt (oW P p) (j + 1) rfl rfl (by omega) (by omega) (fun q => by omega) (fun _ => ?_))
          refine oT_N 3 rfl (oT_lt 5000 v rfl rfl (by decide) (by omega) (fun q => ?_) (fun hv => ?_))
          · have e9 := ih (p + 1) v (some (.int (nI (j + 1)))) (by omega) (oAp_up hA q (Nat.mul_le_mul_left _ (Nat.mul_le_mul_left _ (oFc_le (show j ≤ oW P p by omega)))))
            rw [← ox_inc p] at e9
            exact oT_N 2 rfl e9
          · have hA2 := oAp_mul hA hv (show 1 ≤ j + 1 by omega) (by omega)
            have e9 := ihd (j + 1) (v * (j + 1)) (by omega) (by omega) (by omega) (fun q => by congr 1; omega) (by
              rw [show oFc (j + 1) = oFc j * (j + 1) from Nat.mul_comm _ _, ← Nat.mul_assoc, ← Nat.mul_assoc, Nat.mul_assoc (oNr P (ocR P P.n))]
              exact hA2)
            rw [← ox_inc (j + 1), ← pk_mul] at e9
            exact oT_N 6 rfl e9
      have hA1 : oAp v (oNr P (ocR P P.n) * (oNw P p * oFc 1)) := by
        show oAp v (oNr P (ocR P P.n) * (oNw P p * 1))
        rw [Nat.mul_one]; exact hA
      rcases Nat.lt_or_ge 1 (oW P p) with q | q
      · exact ks (oW P p - 1) 1 v (Or.inl (by omega)) (by omega) (by omega) (fun _ => by omega) hA1
      · exact ks 0 1 v (Or.inr ⟨rfl, q⟩) (by omega) (by omega) (fun _ => oFc_1 q) hA1
  have hnw : ∀ v, oAp v (oNr P (ocR P P.n)) → oAp v (oNr P (ocR P P.n) * oNw P 0) := fun v hv => by
    show oAp v (_ * 1)
    rw [Nat.mul_one]; exact hv
  have reads : ∀ (d i v : Nat), i + d = ocR P P.n → oAp v (oNr P i) → oT L (k + 1) 28 4 [some (.ref 1), some (.int (nI v)), some (.int (nI i)), none] [] σ (fun o σ' => ∃ v, o = .inl (some (.int (nI v))) ∧ oAp v (oNx P) ∧ σ' = σ) := by
    intro d
    induction d with
    | zero =>
      intro i v hi hA
      obtain rfl : i = ocR P P.n := by omega
      refine oT_N 4 rfl (oT_le (ocR P P.n) (ocR P P.n) a4 rfl (by omega) (by omega) (fun _ => ?_) (fun q => by omega))
      exact oT_N 2 rfl (places 4 0 v none rfl (hnw v hA))
    | succ d ih =>
      intro i v hi hA
      have hv65 := hA.2.2
      refine oT_N 4 rfl (oT_le (ocR P P.n) i a4 rfl (by omega) (by omega) (fun q => by omega) (fun _ => ?_))
      refine oT_N 3 rfl (oT_lt 5000 v rfl rfl (by decide) (by omega) (fun q => ?_) (fun hv => ?_))
      · exact oT_N 2 rfl (places 4 0 v none rfl (hnw v (oAp_up hA q (oNr_mono P (by omega)))))
      · obtain ⟨r1, r2, r3⟩ := oRd_sp (P := P) (i := i) (by omega)
        have hpl := (hok _ r1).2.2 (by omega)
        have hwp := hw (P.pl (oRd P i))
        refine oT_N 6 rfl (oT_V rfl rfl rfl rfl (by omega) (by omega) (ot_placeRead h (by omega)) (fun x σ2 h => by cases h.1) (fun v σ2 hv => ?_))
        obtain ⟨hv, rfl⟩ := hv
        cases hv
        refine oT_I (o := 15) (n := nI (P.pl (oRd P i))) rfl (Or.inl ⟨rfl, by decide⟩) (ox_ix (N := 4) (by omega) (by decide)) ?_
        rw [nI_clamp (by omega), a7 _ hpl]
        have e1 : Int32.ofInt 1 + nI (oW P (P.pl (oRd P i))) = nI (1 + oW P (P.pl (oRd P i))) := nI_add 1 _
        have e9 := ih (i + 1) (v * (1 + oW P (P.pl (oRd P i)))) (by omega) (oAp_mul hA hv (by omega) (by omega))
        rw [← ox_inc i, ← pk_mul, ← e1] at e9
        exact oT_N 5 rfl e9
  refine oT_N 4 rfl ?_
  exact reads (ocR P P.n) 0 1 (by omega) ⟨fun _ => rfl, fun q => by omega, by omega⟩
end
