theorem dL_law_0 : decode cL_law 0 = .ok (.new 8, 3) := by decide +kernel
theorem dL_law_3 : decode cL_law 3 = .ok (.dup, 1) := by decide +kernel
theorem dL_law_4 : decode cL_law 4 = .ok (.invokespecial 82, 3) := by decide +kernel
theorem dL_law_7 : decode cL_law 7 = .ok (.astore_n 1, 1) := by decide +kernel
theorem dL_law_8 : decode cL_law 8 = .ok (.iconst 0, 1) := by decide +kernel
theorem dL_law_9 : decode cL_law 9 = .ok (.istore_n 2, 1) := by decide +kernel
theorem dL_law_10 : decode cL_law 10 = .ok (.iload_n 2, 1) := by decide +kernel
theorem dL_law_11 : decode cL_law 11 = .ok (.bipush 50, 2) := by decide +kernel
theorem dL_law_13 : decode cL_law 13 = .ok (.if_icmp .ge 114, 3) := by decide +kernel
theorem dL_law_16 : decode cL_law 16 = .ok (.aload_n 0, 1) := by decide +kernel
theorem dL_law_17 : decode cL_law 17 = .ok (.iload_n 2, 1) := by decide +kernel
theorem dL_law_18 : decode cL_law 18 = .ok (.invokestatic 83, 3) := by decide +kernel
theorem dL_law_21 : decode cL_law 21 = .ok (.istore_n 3, 1) := by decide +kernel
theorem dL_law_22 : decode cL_law 22 = .ok (.iload_n 3, 1) := by decide +kernel
theorem dL_law_23 : decode cL_law 23 = .ok (.iconst 3, 1) := by decide +kernel
theorem dL_law_24 : decode cL_law 24 = .ok (.ishr, 1) := by decide +kernel
theorem dL_law_25 : decode cL_law 25 = .ok (.bipush 6, 2) := by decide +kernel
theorem dL_law_27 : decode cL_law 27 = .ok (.invokestatic 10, 3) := by decide +kernel
theorem dL_law_30 : decode cL_law 30 = .ok (.istore 4, 2) := by decide +kernel
theorem dL_law_32 : decode cL_law 32 = .ok (.aload_n 1, 1) := by decide +kernel
theorem dL_law_33 : decode cL_law 33 = .ok (.iload_n 3, 1) := by decide +kernel
theorem dL_law_34 : decode cL_law 34 = .ok (.invokestatic 87, 3) := by decide +kernel
theorem dL_law_37 : decode cL_law 37 = .ok (.ifCond .lt 82, 3) := by decide +kernel
theorem dL_law_40 : decode cL_law 40 = .ok (.aload_n 1, 1) := by decide +kernel
theorem dL_law_41 : decode cL_law 41 = .ok (.invokestatic 91, 3) := by decide +kernel
theorem dL_law_44 : decode cL_law 44 = .ok (.ifCond .eq 75, 3) := by decide +kernel
theorem dL_law_47 : decode cL_law 47 = .ok (.aload_n 1, 1) := by decide +kernel
theorem dL_law_48 : decode cL_law 48 = .ok (.invokestatic 95, 3) := by decide +kernel
theorem dL_law_51 : decode cL_law 51 = .ok (.ifCond .eq 68, 3) := by decide +kernel
theorem dL_law_54 : decode cL_law 54 = .ok (.iload_n 2, 1) := by decide +kernel
theorem dL_law_55 : decode cL_law 55 = .ok (.iconst 2, 1) := by decide +kernel
theorem dL_law_56 : decode cL_law 56 = .ok (.irem, 1) := by decide +kernel
theorem dL_law_57 : decode cL_law 57 = .ok (.iconst 1, 1) := by decide +kernel
theorem dL_law_58 : decode cL_law 58 = .ok (.if_icmp .ne 10, 3) := by decide +kernel
theorem dL_law_61 : decode cL_law 61 = .ok (.aload_n 1, 1) := by decide +kernel
theorem dL_law_62 : decode cL_law 62 = .ok (.invokestatic 98, 3) := by decide +kernel
theorem dL_law_65 : decode cL_law 65 = .ok (.ifCond .eq 54, 3) := by decide +kernel
theorem dL_law_68 : decode cL_law 68 = .ok (.iload_n 2, 1) := by decide +kernel
theorem dL_law_69 : decode cL_law 69 = .ok (.bipush 6, 2) := by decide +kernel
theorem dL_law_71 : decode cL_law 71 = .ok (.irem, 1) := by decide +kernel
theorem dL_law_72 : decode cL_law 72 = .ok (.iconst 5, 1) := by decide +kernel
theorem dL_law_73 : decode cL_law 73 = .ok (.if_icmp .ne 48, 3) := by decide +kernel
theorem dL_law_76 : decode cL_law 76 = .ok (.aload_n 1, 1) := by decide +kernel
theorem dL_law_77 : decode cL_law 77 = .ok (.iload_n 3, 1) := by decide +kernel
theorem dL_law_78 : decode cL_law 78 = .ok (.iconst 5, 1) := by decide +kernel
theorem dL_law_79 : decode cL_law 79 = .ok (.ishr, 1) := by decide +kernel
theorem dL_law_80 : decode cL_law 80 = .ok (.iconst 4, 1) := by decide +kernel
theorem dL_law_81 : decode cL_law 81 = .ok (.invokestatic 10, 3) := by decide +kernel
theorem dL_law_84 : decode cL_law 84 = .ok (.iconst 1, 1) := by decide +kernel
theorem dL_law_85 : decode cL_law 85 = .ok (.iload_n 3, 1) := by decide +kernel
theorem dL_law_86 : decode cL_law 86 = .ok (.bipush 7, 2) := by decide +kernel
theorem dL_law_88 : decode cL_law 88 = .ok (.ishr, 1) := by decide +kernel
theorem dL_law_89 : decode cL_law 89 = .ok (.bipush 9, 2) := by decide +kernel
theorem dL_law_91 : decode cL_law 91 = .ok (.invokestatic 10, 3) := by decide +kernel
theorem dL_law_94 : decode cL_law 94 = .ok (.iadd, 1) := by decide +kernel
theorem dL_law_95 : decode cL_law 95 = .ok (.iload 4, 2) := by decide +kernel
theorem dL_law_97 : decode cL_law 97 = .ok (.iload 4, 2) := by decide +kernel
theorem dL_law_99 : decode cL_law 99 = .ok (.iconst 1, 1) := by decide +kernel
theorem dL_law_100 : decode cL_law 100 = .ok (.iadd, 1) := by decide +kernel
theorem dL_law_101 : decode cL_law 101 = .ok (.iload_n 3, 1) := by decide +kernel
theorem dL_law_102 : decode cL_law 102 = .ok (.bipush 6, 2) := by decide +kernel
theorem dL_law_104 : decode cL_law 104 = .ok (.ishr, 1) := by decide +kernel
theorem dL_law_105 : decode cL_law 105 = .ok (.iconst 5, 1) := by decide +kernel
theorem dL_law_106 : decode cL_law 106 = .ok (.invokestatic 10, 3) := by decide +kernel
theorem dL_law_109 : decode cL_law 109 = .ok (.iadd, 1) := by decide +kernel
theorem dL_law_110 : decode cL_law 110 = .ok (.bipush 6, 2) := by decide +kernel
theorem dL_law_112 : decode cL_law 112 = .ok (.irem, 1) := by decide +kernel
theorem dL_law_113 : decode cL_law 113 = .ok (.invokestatic 101, 3) := by decide +kernel
theorem dL_law_116 : decode cL_law 116 = .ok (.ifCond .ne 5, 3) := by decide +kernel
theorem dL_law_119 : decode cL_law 119 = .ok (.iconst 0, 1) := by decide +kernel
theorem dL_law_120 : decode cL_law 120 = .ok (.ireturn, 1) := by decide +kernel
theorem dL_law_121 : decode cL_law 121 = .ok (.iinc 2 1, 3) := by decide +kernel
theorem dL_law_124 : decode cL_law 124 = .ok (.goto (-114), 3) := by decide +kernel
theorem dL_law_127 : decode cL_law 127 = .ok (.iconst 1, 1) := by decide +kernel
theorem dL_law_128 : decode cL_law 128 = .ok (.ireturn, 1) := by decide +kernel
theorem dL_cell_0 : decode cL_cell 0 = .ok (.iload_n 1, 1) := by decide +kernel
theorem dL_cell_1 : decode cL_cell 1 = .ok (.aload_n 0, 1) := by decide +kernel
theorem dL_cell_2 : decode cL_cell 2 = .ok (.arraylength, 1) := by decide +kernel
theorem dL_cell_3 : decode cL_cell 3 = .ok (.if_icmp .ge 9, 3) := by decide +kernel
theorem dL_cell_6 : decode cL_cell 6 = .ok (.aload_n 0, 1) := by decide +kernel
theorem dL_cell_7 : decode cL_cell 7 = .ok (.iload_n 1, 1) := by decide +kernel
theorem dL_cell_8 : decode cL_cell 8 = .ok (.iaload, 1) := by decide +kernel
theorem dL_cell_9 : decode cL_cell 9 = .ok (.goto 15, 3) := by decide +kernel
theorem dL_cell_12 : decode cL_cell 12 = .ok (.sipush 7919, 3) := by decide +kernel
theorem dL_cell_15 : decode cL_cell 15 = .ok (.iload_n 1, 1) := by decide +kernel
theorem dL_cell_16 : decode cL_cell 16 = .ok (.iconst 3, 1) := by decide +kernel
theorem dL_cell_17 : decode cL_cell 17 = .ok (.iadd, 1) := by decide +kernel
theorem dL_cell_18 : decode cL_cell 18 = .ok (.imul, 1) := by decide +kernel
theorem dL_cell_19 : decode cL_cell 19 = .ok (.iload_n 1, 1) := by decide +kernel
theorem dL_cell_20 : decode cL_cell 20 = .ok (.bipush 11, 2) := by decide +kernel
theorem dL_cell_22 : decode cL_cell 22 = .ok (.iadd, 1) := by decide +kernel
theorem dL_cell_23 : decode cL_cell 23 = .ok (.imul, 1) := by decide +kernel
theorem dL_cell_24 : decode cL_cell 24 = .ok (.ireturn, 1) := by decide +kernel
theorem hyS_L_cell : yL_cell.cls ≠ "java/lang/invoke/MethodHandle" ∧ yL_cell.cls ≠ "java/lang/invoke/VarHandle" ∧ (parseMethodDescriptor yL_cell.desc).map (fun d => d.parameters.length) = some 2 := by decide +kernel
