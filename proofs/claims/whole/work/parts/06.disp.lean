theorem oxlA_0 : ∀ k, k < 0 → (fun pc => match oxi_114 pc with | none => true | some e => decide (decode code pc = .ok (e.1, e.2.1))) k = true := fun k h => absurd h (Nat.not_lt_zero k)
theorem oxlA_1 : ∀ k, k < 110 → (fun pc => match oxi_114 pc with | none => true | some e => decide (decode code pc = .ok (e.1, e.2.1))) k = true := ox_chunk (a := 0) (b := 110) rfl oxlA_0 oxl_0
theorem oxlA_2 : ∀ k, k < 220 → (fun pc => match oxi_114 pc with | none => true | some e => decide (decode code pc = .ok (e.1, e.2.1))) k = true := ox_chunk (a := 110) (b := 110) rfl oxlA_1 oxl_1
theorem oxlA_3 : ∀ k, k < 330 → (fun pc => match oxi_114 pc with | none => true | some e => decide (decode code pc = .ok (e.1, e.2.1))) k = true := ox_chunk (a := 220) (b := 110) rfl oxlA_2 oxl_2
theorem oxlA_4 : ∀ k, k < 440 → (fun pc => match oxi_114 pc with | none => true | some e => decide (decode code pc = .ok (e.1, e.2.1))) k = true := ox_chunk (a := 330) (b := 110) rfl oxlA_3 oxl_3
theorem oxlA_5 : ∀ k, k < 550 → (fun pc => match oxi_114 pc with | none => true | some e => decide (decode code pc = .ok (e.1, e.2.1))) k = true := ox_chunk (a := 440) (b := 110) rfl oxlA_4 oxl_4
theorem oxlA_6 : ∀ k, k < 660 → (fun pc => match oxi_114 pc with | none => true | some e => decide (decode code pc = .ok (e.1, e.2.1))) k = true := ox_chunk (a := 550) (b := 110) rfl oxlA_5 oxl_5
theorem oxlA_7 : ∀ k, k < 770 → (fun pc => match oxi_114 pc with | none => true | some e => decide (decode code pc = .ok (e.1, e.2.1))) k = true := ox_chunk (a := 660) (b := 110) rfl oxlA_6 oxl_6
theorem oxlA_8 : ∀ k, k < 880 → (fun pc => match oxi_114 pc with | none => true | some e => decide (decode code pc = .ok (e.1, e.2.1))) k = true := ox_chunk (a := 770) (b := 110) rfl oxlA_7 oxl_7
theorem oxlA_9 : ∀ k, k < 990 → (fun pc => match oxi_114 pc with | none => true | some e => decide (decode code pc = .ok (e.1, e.2.1))) k = true := ox_chunk (a := 880) (b := 110) rfl oxlA_8 oxl_8
theorem oxlA_10 : ∀ k, k < 1085 → (fun pc => match oxi_114 pc with | none => true | some e => decide (decode code pc = .ok (e.1, e.2.1))) k = true := ox_chunk (a := 990) (b := 95) rfl oxlA_9 oxl_9
theorem oxd_114 : ∀ pc e, oxi_114 pc = some e → decode code pc = .ok (e.1, e.2.1) := ox_tab 1085 oxn_114 (List.all_eq_true.mpr (fun k hk => oxlA_10 k (List.mem_range.mp hk)))
def ox_I (i pc : Nat) : Option (Instr × Nat × Nat × Nat) := (bif Nat.blt i 57 then (bif Nat.blt i 28 then (bif Nat.blt i 14 then (bif Nat.blt i 7 then (bif Nat.blt i 3 then (bif Nat.blt i 1 then oxi_0 pc else (bif Nat.blt i 2 then oxi_1 pc else oxi_2 pc)) else (bif Nat.blt i 5 then (bif Nat.blt i 4 then oxi_3 pc else oxi_4 pc) else (bif Nat.blt i 6 then oxi_5 pc else oxi_6 pc))) else (bif Nat.blt i 10 then (bif Nat.blt i 8 then oxi_7 pc else (bif Nat.blt i 9 then oxi_8 pc else oxi_9 pc)) else (bif Nat.blt i 12 then (bif Nat.blt i 11 then oxi_10 pc else oxi_11 pc) else (bif Nat.blt i 13 then oxi_12 pc else oxi_13 pc)))) else (bif Nat.blt i 21 then (bif Nat.blt i 17 then (bif Nat.blt i 15 then oxi_14 pc else (bif Nat.blt i 16 then oxi_15 pc else oxi_16 pc)) else (bif Nat.blt i 19 then (bif Nat.blt i 18 then oxi_17 pc else oxi_18 pc) else (bif Nat.blt i 20 then oxi_19 pc else oxi_20 pc))) else (bif Nat.blt i 24 then (bif Nat.blt i 22 then oxi_21 pc else (bif Nat.blt i 23 then oxi_22 pc else oxi_23 pc)) else (bif Nat.blt i 26 then (bif Nat.blt i 25 then oxi_24 pc else oxi_25 pc) else (bif Nat.blt i 27 then oxi_26 pc else oxi_27 pc))))) else (bif Nat.blt i 42 then (bif Nat.blt i 35 then (bif Nat.blt i 31 then (bif Nat.blt i 29 then oxi_28 pc else (bif Nat.blt i 30 then oxi_29 pc else oxi_30 pc)) else (bif Nat.blt i 33 then (bif Nat.blt i 32 then oxi_31 pc else oxi_32 pc) else (bif Nat.blt i 34 then oxi_33 pc else oxi_34 pc))) else (bif Nat.blt i 38 then (bif Nat.blt i 36 then oxi_35 pc else (bif Nat.blt i 37 then oxi_36 pc else oxi_37 pc)) else (bif Nat.blt i 40 then (bif Nat.blt i 39 then oxi_38 pc else oxi_39 pc) else (bif Nat.blt i 41 then oxi_40 pc else oxi_41 pc)))) else (bif Nat.blt i 49 then (bif Nat.blt i 45 then (bif Nat.blt i 43 then oxi_42 pc else (bif Nat.blt i 44 then oxi_43 pc else oxi_44 pc)) else (bif Nat.blt i 47 then (bif Nat.blt i 46 then oxi_45 pc else oxi_46 pc) else (bif Nat.blt i 48 then oxi_47 pc else oxi_48 pc))) else (bif Nat.blt i 53 then (bif Nat.blt i 51 then (bif Nat.blt i 50 then oxi_49 pc else oxi_50 pc) else (bif Nat.blt i 52 then oxi_51 pc else oxi_52 pc)) else (bif Nat.blt i 55 then (bif Nat.blt i 54 then oxi_53 pc else oxi_54 pc) else (bif Nat.blt i 56 then oxi_55 pc else oxi_56 pc)))))) else (bif Nat.blt i 86 then (bif Nat.blt i 71 then (bif Nat.blt i 64 then (bif Nat.blt i 60 then (bif Nat.blt i 58 then oxi_57 pc else (bif Nat.blt i 59 then oxi_58 pc else oxi_59 pc)) else (bif Nat.blt i 62 then (bif Nat.blt i 61 then oxi_60 pc else oxi_61 pc) else (bif Nat.blt i 63 then oxi_62 pc else oxi_63 pc))) else (bif Nat.blt i 67 then (bif Nat.blt i 65 then oxi_64 pc else (bif Nat.blt i 66 then oxi_65 pc else oxi_66 pc)) else (bif Nat.blt i 69 then (bif Nat.blt i 68 then oxi_67 pc else oxi_68 pc) else (bif Nat.blt i 70 then oxi_69 pc else oxi_70 pc)))) else (bif Nat.blt i 78 then (bif Nat.blt i 74 then (bif Nat.blt i 72 then oxi_71 pc else (bif Nat.blt i 73 then oxi_72 pc else oxi_73 pc)) else (bif Nat.blt i 76 then (bif Nat.blt i 75 then oxi_74 pc else oxi_75 pc) else (bif Nat.blt i 77 then oxi_76 pc else oxi_77 pc))) else (bif Nat.blt i 82 then (bif Nat.blt i 80 then (bif Nat.blt i 79 then oxi_78 pc else oxi_79 pc) else (bif Nat.blt i 81 then oxi_80 pc else oxi_81 pc)) else (bif Nat.blt i 84 then (bif Nat.blt i 83 then oxi_82 pc else oxi_83 pc) else (bif Nat.blt i 85 then oxi_84 pc else oxi_85 pc))))) else (bif Nat.blt i 100 then (bif Nat.blt i 93 then (bif Nat.blt i 89 then (bif Nat.blt i 87 then oxi_86 pc else (bif Nat.blt i 88 then oxi_87 pc else oxi_88 pc)) else (bif Nat.blt i 91 then (bif Nat.blt i 90 then oxi_89 pc else oxi_90 pc) else (bif Nat.blt i 92 then oxi_91 pc else oxi_92 pc))) else (bif Nat.blt i 96 then (bif Nat.blt i 94 then oxi_93 pc else (bif Nat.blt i 95 then oxi_94 pc else oxi_95 pc)) else (bif Nat.blt i 98 then (bif Nat.blt i 97 then oxi_96 pc else oxi_97 pc) else (bif Nat.blt i 99 then oxi_98 pc else oxi_99 pc)))) else (bif Nat.blt i 107 then (bif Nat.blt i 103 then (bif Nat.blt i 101 then oxi_100 pc else (bif Nat.blt i 102 then oxi_101 pc else oxi_102 pc)) else (bif Nat.blt i 105 then (bif Nat.blt i 104 then oxi_103 pc else oxi_104 pc) else (bif Nat.blt i 106 then oxi_105 pc else oxi_106 pc))) else (bif Nat.blt i 111 then (bif Nat.blt i 109 then (bif Nat.blt i 108 then oxi_107 pc else oxi_108 pc) else (bif Nat.blt i 110 then oxi_109 pc else oxi_110 pc)) else (bif Nat.blt i 113 then (bif Nat.blt i 112 then oxi_111 pc else oxi_112 pc) else (bif Nat.blt i 114 then oxi_113 pc else oxi_114 pc)))))))
set_option maxRecDepth 100000 in
set_option maxHeartbeats 4000000 in
theorem ox_I1 : ∀ i, i < 115 → ∀ pc e, ox_I i pc = some e → decode (ox_b i) pc = .ok (e.1, e.2.1) ∧ ox_chk (ox_ow i) pc e = true := by
  intro i hi
  match i, hi with
  | 0, _ => exact fun pc e h => ⟨oxd_0 pc e h, oxc_0 pc e h⟩
  | 1, _ => exact fun pc e h => ⟨oxd_1 pc e h, oxc_1 pc e h⟩
  | 2, _ => exact fun pc e h => ⟨oxd_2 pc e h, oxc_2 pc e h⟩
  | 3, _ => exact fun pc e h => ⟨oxd_3 pc e h, oxc_3 pc e h⟩
  | 4, _ => exact fun pc e h => ⟨oxd_4 pc e h, oxc_4 pc e h⟩
  | 5, _ => exact fun pc e h => ⟨oxd_5 pc e h, oxc_5 pc e h⟩
  | 6, _ => exact fun pc e h => ⟨oxd_6 pc e h, oxc_6 pc e h⟩
  | 7, _ => exact fun pc e h => ⟨oxd_7 pc e h, oxc_7 pc e h⟩
  | 8, _ => exact fun pc e h => ⟨oxd_8 pc e h, oxc_8 pc e h⟩
  | 9, _ => exact fun pc e h => ⟨oxd_9 pc e h, oxc_9 pc e h⟩
  | 10, _ => exact fun pc e h => ⟨oxd_10 pc e h, oxc_10 pc e h⟩
  | 11, _ => exact fun pc e h => ⟨oxd_11 pc e h, oxc_11 pc e h⟩
  | 12, _ => exact fun pc e h => ⟨oxd_12 pc e h, oxc_12 pc e h⟩
  | 13, _ => exact fun pc e h => ⟨oxd_13 pc e h, oxc_13 pc e h⟩
  | 14, _ => exact fun pc e h => ⟨oxd_14 pc e h, oxc_14 pc e h⟩
  | 15, _ => exact fun pc e h => ⟨oxd_15 pc e h, oxc_15 pc e h⟩
  | 16, _ => exact fun pc e h => ⟨oxd_16 pc e h, oxc_16 pc e h⟩
  | 17, _ => exact fun pc e h => ⟨oxd_17 pc e h, oxc_17 pc e h⟩
  | 18, _ => exact fun pc e h => ⟨oxd_18 pc e h, oxc_18 pc e h⟩
  | 19, _ => exact fun pc e h => ⟨oxd_19 pc e h, oxc_19 pc e h⟩
  | 20, _ => exact fun pc e h => ⟨oxd_20 pc e h, oxc_20 pc e h⟩
  | 21, _ => exact fun pc e h => ⟨oxd_21 pc e h, oxc_21 pc e h⟩
  | 22, _ => exact fun pc e h => ⟨oxd_22 pc e h, oxc_22 pc e h⟩
  | 23, _ => exact fun pc e h => ⟨oxd_23 pc e h, oxc_23 pc e h⟩
  | 24, _ => exact fun pc e h => ⟨oxd_24 pc e h, oxc_24 pc e h⟩
  | 25, _ => exact fun pc e h => ⟨oxd_25 pc e h, oxc_25 pc e h⟩
  | 26, _ => exact fun pc e h => ⟨oxd_26 pc e h, oxc_26 pc e h⟩
  | 27, _ => exact fun pc e h => ⟨oxd_27 pc e h, oxc_27 pc e h⟩
  | 28, _ => exact fun pc e h => ⟨oxd_28 pc e h, oxc_28 pc e h⟩
  | 29, _ => exact fun pc e h => ⟨oxd_29 pc e h, oxc_29 pc e h⟩
  | 30, _ => exact fun pc e h => ⟨oxd_30 pc e h, oxc_30 pc e h⟩
  | 31, _ => exact fun pc e h => ⟨oxd_31 pc e h, oxc_31 pc e h⟩
  | 32, _ => exact fun pc e h => ⟨oxd_32 pc e h, oxc_32 pc e h⟩
  | 33, _ => exact fun pc e h => ⟨oxd_33 pc e h, oxc_33 pc e h⟩
  | 34, _ => exact fun pc e h => ⟨oxd_34 pc e h, oxc_34 pc e h⟩
  | 35, _ => exact fun pc e h => ⟨oxd_35 pc e h, oxc_35 pc e h⟩
  | 36, _ => exact fun pc e h => ⟨oxd_36 pc e h, oxc_36 pc e h⟩
  | 37, _ => exact fun pc e h => ⟨oxd_37 pc e h, oxc_37 pc e h⟩
  | 38, _ => exact fun pc e h => ⟨oxd_38 pc e h, oxc_38 pc e h⟩
  | 39, _ => exact fun pc e h => ⟨oxd_39 pc e h, oxc_39 pc e h⟩
  | 40, _ => exact fun pc e h => ⟨oxd_40 pc e h, oxc_40 pc e h⟩
  | 41, _ => exact fun pc e h => ⟨oxd_41 pc e h, oxc_41 pc e h⟩
  | 42, _ => exact fun pc e h => ⟨oxd_42 pc e h, oxc_42 pc e h⟩
  | 43, _ => exact fun pc e h => ⟨oxd_43 pc e h, oxc_43 pc e h⟩
  | 44, _ => exact fun pc e h => ⟨oxd_44 pc e h, oxc_44 pc e h⟩
  | 45, _ => exact fun pc e h => ⟨oxd_45 pc e h, oxc_45 pc e h⟩
  | 46, _ => exact fun pc e h => ⟨oxd_46 pc e h, oxc_46 pc e h⟩
  | 47, _ => exact fun pc e h => ⟨oxd_47 pc e h, oxc_47 pc e h⟩
  | 48, _ => exact fun pc e h => ⟨oxd_48 pc e h, oxc_48 pc e h⟩
  | 49, _ => exact fun pc e h => ⟨oxd_49 pc e h, oxc_49 pc e h⟩
  | 50, _ => exact fun pc e h => ⟨oxd_50 pc e h, oxc_50 pc e h⟩
  | 51, _ => exact fun pc e h => ⟨oxd_51 pc e h, oxc_51 pc e h⟩
  | 52, _ => exact fun pc e h => ⟨oxd_52 pc e h, oxc_52 pc e h⟩
  | 53, _ => exact fun pc e h => ⟨oxd_53 pc e h, oxc_53 pc e h⟩
  | 54, _ => exact fun pc e h => ⟨oxd_54 pc e h, oxc_54 pc e h⟩
  | 55, _ => exact fun pc e h => ⟨oxd_55 pc e h, oxc_55 pc e h⟩
  | 56, _ => exact fun pc e h => ⟨oxd_56 pc e h, oxc_56 pc e h⟩
  | 57, _ => exact fun pc e h => ⟨oxd_57 pc e h, oxc_57 pc e h⟩
  | 58, _ => exact fun pc e h => ⟨oxd_58 pc e h, oxc_58 pc e h⟩
  | 59, _ => exact fun pc e h => ⟨oxd_59 pc e h, oxc_59 pc e h⟩
  | 60, _ => exact fun pc e h => ⟨oxd_60 pc e h, oxc_60 pc e h⟩
  | 61, _ => exact fun pc e h => ⟨oxd_61 pc e h, oxc_61 pc e h⟩
  | 62, _ => exact fun pc e h => ⟨oxd_62 pc e h, oxc_62 pc e h⟩
  | 63, _ => exact fun pc e h => ⟨oxd_63 pc e h, oxc_63 pc e h⟩
  | 64, _ => exact fun pc e h => ⟨oxd_64 pc e h, oxc_64 pc e h⟩
  | 65, _ => exact fun pc e h => ⟨oxd_65 pc e h, oxc_65 pc e h⟩
  | 66, _ => exact fun pc e h => ⟨oxd_66 pc e h, oxc_66 pc e h⟩
  | 67, _ => exact fun pc e h => ⟨oxd_67 pc e h, oxc_67 pc e h⟩
  | 68, _ => exact fun pc e h => ⟨oxd_68 pc e h, oxc_68 pc e h⟩
  | 69, _ => exact fun pc e h => ⟨oxd_69 pc e h, oxc_69 pc e h⟩
  | 70, _ => exact fun pc e h => ⟨oxd_70 pc e h, oxc_70 pc e h⟩
  | 71, _ => exact fun pc e h => ⟨oxd_71 pc e h, oxc_71 pc e h⟩
  | 72, _ => exact fun pc e h => ⟨oxd_72 pc e h, oxc_72 pc e h⟩
  | 73, _ => exact fun pc e h => ⟨oxd_73 pc e h, oxc_73 pc e h⟩
  | 74, _ => exact fun pc e h => ⟨oxd_74 pc e h, oxc_74 pc e h⟩
  | 75, _ => exact fun pc e h => ⟨oxd_75 pc e h, oxc_75 pc e h⟩
  | 76, _ => exact fun pc e h => ⟨oxd_76 pc e h, oxc_76 pc e h⟩
  | 77, _ => exact fun pc e h => ⟨oxd_77 pc e h, oxc_77 pc e h⟩
  | 78, _ => exact fun pc e h => ⟨oxd_78 pc e h, oxc_78 pc e h⟩
  | 79, _ => exact fun pc e h => ⟨oxd_79 pc e h, oxc_79 pc e h⟩
  | 80, _ => exact fun pc e h => ⟨oxd_80 pc e h, oxc_80 pc e h⟩
  | 81, _ => exact fun pc e h => ⟨oxd_81 pc e h, oxc_81 pc e h⟩
  | 82, _ => exact fun pc e h => ⟨oxd_82 pc e h, oxc_82 pc e h⟩
  | 83, _ => exact fun pc e h => ⟨oxd_83 pc e h, oxc_83 pc e h⟩
  | 84, _ => exact fun pc e h => ⟨oxd_84 pc e h, oxc_84 pc e h⟩
  | 85, _ => exact fun pc e h => ⟨oxd_85 pc e h, oxc_85 pc e h⟩
  | 86, _ => exact fun pc e h => ⟨oxd_86 pc e h, oxc_86 pc e h⟩
  | 87, _ => exact fun pc e h => ⟨oxd_87 pc e h, oxc_87 pc e h⟩
  | 88, _ => exact fun pc e h => ⟨oxd_88 pc e h, oxc_88 pc e h⟩
  | 89, _ => exact fun pc e h => ⟨oxd_89 pc e h, oxc_89 pc e h⟩
  | 90, _ => exact fun pc e h => ⟨oxd_90 pc e h, oxc_90 pc e h⟩
  | 91, _ => exact fun pc e h => ⟨oxd_91 pc e h, oxc_91 pc e h⟩
  | 92, _ => exact fun pc e h => ⟨oxd_92 pc e h, oxc_92 pc e h⟩
  | 93, _ => exact fun pc e h => ⟨oxd_93 pc e h, oxc_93 pc e h⟩
  | 94, _ => exact fun pc e h => ⟨oxd_94 pc e h, oxc_94 pc e h⟩
  | 95, _ => exact fun pc e h => ⟨oxd_95 pc e h, oxc_95 pc e h⟩
  | 96, _ => exact fun pc e h => ⟨oxd_96 pc e h, oxc_96 pc e h⟩
  | 97, _ => exact fun pc e h => ⟨oxd_97 pc e h, oxc_97 pc e h⟩
  | 98, _ => exact fun pc e h => ⟨oxd_98 pc e h, oxc_98 pc e h⟩
  | 99, _ => exact fun pc e h => ⟨oxd_99 pc e h, oxc_99 pc e h⟩
  | 100, _ => exact fun pc e h => ⟨oxd_100 pc e h, oxc_100 pc e h⟩
  | 101, _ => exact fun pc e h => ⟨oxd_101 pc e h, oxc_101 pc e h⟩
  | 102, _ => exact fun pc e h => ⟨oxd_102 pc e h, oxc_102 pc e h⟩
  | 103, _ => exact fun pc e h => ⟨oxd_103 pc e h, oxc_103 pc e h⟩
  | 104, _ => exact fun pc e h => ⟨oxd_104 pc e h, oxc_104 pc e h⟩
  | 105, _ => exact fun pc e h => ⟨oxd_105 pc e h, oxc_105 pc e h⟩
  | 106, _ => exact fun pc e h => ⟨oxd_106 pc e h, oxc_106 pc e h⟩
  | 107, _ => exact fun pc e h => ⟨oxd_107 pc e h, oxc_107 pc e h⟩
  | 108, _ => exact fun pc e h => ⟨oxd_108 pc e h, oxc_108 pc e h⟩
  | 109, _ => exact fun pc e h => ⟨oxd_109 pc e h, oxc_109 pc e h⟩
  | 110, _ => exact fun pc e h => ⟨oxd_110 pc e h, oxc_110 pc e h⟩
  | 111, _ => exact fun pc e h => ⟨oxd_111 pc e h, oxc_111 pc e h⟩
  | 112, _ => exact fun pc e h => ⟨oxd_112 pc e h, oxc_112 pc e h⟩
  | 113, _ => exact fun pc e h => ⟨oxd_113 pc e h, oxc_113 pc e h⟩
  | 114, _ => exact fun pc e h => ⟨oxd_114 pc e h, oxc_114 pc e h⟩
  | k + 115, h => exact absurd h (by omega)
