/-! DECODE ROWS, by program -/
theorem d_139_0 : decode prog_12_method_9_code 0 = .ok (.bipush 32, 2) := by decide +kernel
theorem d_139_2 : decode prog_12_method_9_code 2 = .ok (.iload_n 0, 1) := by decide +kernel
theorem d_139_3 : decode prog_12_method_9_code 3 = .ok (.bipush 96, 2) := by decide +kernel
theorem d_139_5 : decode prog_12_method_9_code 5 = .ok (.isub, 1) := by decide +kernel
theorem d_139_6 : decode prog_12_method_9_code 6 = .ok (.imul, 1) := by decide +kernel
theorem d_139_7 : decode prog_12_method_9_code 7 = .ok (.iload_n 1, 1) := by decide +kernel
theorem d_139_8 : decode prog_12_method_9_code 8 = .ok (.iadd, 1) := by decide +kernel
theorem d_139_9 : decode prog_12_method_9_code 9 = .ok (.bipush 96, 2) := by decide +kernel
theorem d_139_11 : decode prog_12_method_9_code 11 = .ok (.isub, 1) := by decide +kernel
theorem d_139_12 : decode prog_12_method_9_code 12 = .ok (.istore 6, 2) := by decide +kernel
theorem d_139_14 : decode prog_12_method_9_code 14 = .ok (.iload_n 2, 1) := by decide +kernel
theorem d_139_15 : decode prog_12_method_9_code 15 = .ok (.ifCond .ne 8, 3) := by decide +kernel
theorem d_139_18 : decode prog_12_method_9_code 18 = .ok (.iload 6, 2) := by decide +kernel
theorem d_139_20 : decode prog_12_method_9_code 20 = .ok (.goto 13, 3) := by decide +kernel
theorem d_139_23 : decode prog_12_method_9_code 23 = .ok (.bipush 32, 2) := by decide +kernel
theorem d_139_25 : decode prog_12_method_9_code 25 = .ok (.iload 6, 2) := by decide +kernel
theorem d_139_27 : decode prog_12_method_9_code 27 = .ok (.imul, 1) := by decide +kernel
theorem d_139_28 : decode prog_12_method_9_code 28 = .ok (.iload_n 2, 1) := by decide +kernel
theorem d_139_29 : decode prog_12_method_9_code 29 = .ok (.iadd, 1) := by decide +kernel
theorem d_139_30 : decode prog_12_method_9_code 30 = .ok (.bipush 96, 2) := by decide +kernel
theorem d_139_32 : decode prog_12_method_9_code 32 = .ok (.isub, 1) := by decide +kernel
theorem d_139_33 : decode prog_12_method_9_code 33 = .ok (.istore 6, 2) := by decide +kernel
theorem d_139_35 : decode prog_12_method_9_code 35 = .ok (.iload_n 3, 1) := by decide +kernel
theorem d_139_36 : decode prog_12_method_9_code 36 = .ok (.ifCond .ne 8, 3) := by decide +kernel
theorem d_139_39 : decode prog_12_method_9_code 39 = .ok (.iload 6, 2) := by decide +kernel
theorem d_139_41 : decode prog_12_method_9_code 41 = .ok (.goto 13, 3) := by decide +kernel
theorem d_139_44 : decode prog_12_method_9_code 44 = .ok (.bipush 32, 2) := by decide +kernel
theorem d_139_46 : decode prog_12_method_9_code 46 = .ok (.iload 6, 2) := by decide +kernel
theorem d_139_48 : decode prog_12_method_9_code 48 = .ok (.imul, 1) := by decide +kernel
theorem d_139_49 : decode prog_12_method_9_code 49 = .ok (.iload_n 3, 1) := by decide +kernel
theorem d_139_50 : decode prog_12_method_9_code 50 = .ok (.iadd, 1) := by decide +kernel
theorem d_139_51 : decode prog_12_method_9_code 51 = .ok (.bipush 96, 2) := by decide +kernel
theorem d_139_53 : decode prog_12_method_9_code 53 = .ok (.isub, 1) := by decide +kernel
theorem d_139_54 : decode prog_12_method_9_code 54 = .ok (.istore 6, 2) := by decide +kernel
theorem d_139_56 : decode prog_12_method_9_code 56 = .ok (.iload 4, 2) := by decide +kernel
theorem d_139_58 : decode prog_12_method_9_code 58 = .ok (.ifCond .ne 8, 3) := by decide +kernel
theorem d_139_61 : decode prog_12_method_9_code 61 = .ok (.iload 6, 2) := by decide +kernel
theorem d_139_63 : decode prog_12_method_9_code 63 = .ok (.goto 14, 3) := by decide +kernel
theorem d_139_66 : decode prog_12_method_9_code 66 = .ok (.bipush 32, 2) := by decide +kernel
theorem d_139_68 : decode prog_12_method_9_code 68 = .ok (.iload 6, 2) := by decide +kernel
theorem d_139_70 : decode prog_12_method_9_code 70 = .ok (.imul, 1) := by decide +kernel
theorem d_139_71 : decode prog_12_method_9_code 71 = .ok (.iload 4, 2) := by decide +kernel
theorem d_139_73 : decode prog_12_method_9_code 73 = .ok (.iadd, 1) := by decide +kernel
theorem d_139_74 : decode prog_12_method_9_code 74 = .ok (.bipush 96, 2) := by decide +kernel
theorem d_139_76 : decode prog_12_method_9_code 76 = .ok (.isub, 1) := by decide +kernel
theorem d_139_77 : decode prog_12_method_9_code 77 = .ok (.istore 6, 2) := by decide +kernel
theorem d_139_79 : decode prog_12_method_9_code 79 = .ok (.iload 5, 2) := by decide +kernel
theorem d_139_81 : decode prog_12_method_9_code 81 = .ok (.ifCond .ne 8, 3) := by decide +kernel
theorem d_139_84 : decode prog_12_method_9_code 84 = .ok (.iload 6, 2) := by decide +kernel
theorem d_139_86 : decode prog_12_method_9_code 86 = .ok (.goto 14, 3) := by decide +kernel
theorem d_139_89 : decode prog_12_method_9_code 89 = .ok (.bipush 32, 2) := by decide +kernel
theorem d_139_91 : decode prog_12_method_9_code 91 = .ok (.iload 6, 2) := by decide +kernel
theorem d_139_93 : decode prog_12_method_9_code 93 = .ok (.imul, 1) := by decide +kernel
theorem d_139_94 : decode prog_12_method_9_code 94 = .ok (.iload 5, 2) := by decide +kernel
theorem d_139_96 : decode prog_12_method_9_code 96 = .ok (.iadd, 1) := by decide +kernel
theorem d_139_97 : decode prog_12_method_9_code 97 = .ok (.bipush 96, 2) := by decide +kernel
theorem d_139_99 : decode prog_12_method_9_code 99 = .ok (.isub, 1) := by decide +kernel
theorem d_139_100 : decode prog_12_method_9_code 100 = .ok (.ireturn, 1) := by decide +kernel
set_option maxRecDepth 20000 in
theorem ok_139 : ∀ r ∈ tb_139, sm_ok 139 r := List.forall_mem_cons.mpr ⟨d_139_0, List.forall_mem_cons.mpr ⟨d_139_2, List.forall_mem_cons.mpr ⟨d_139_3, List.forall_mem_cons.mpr ⟨d_139_5, List.forall_mem_cons.mpr ⟨d_139_6, List.forall_mem_cons.mpr ⟨d_139_7, List.forall_mem_cons.mpr ⟨d_139_8, List.forall_mem_cons.mpr ⟨d_139_9, List.forall_mem_cons.mpr ⟨d_139_11, List.forall_mem_cons.mpr ⟨d_139_12, List.forall_mem_cons.mpr ⟨d_139_14, List.forall_mem_cons.mpr ⟨⟨d_139_15, (by decide)⟩, List.forall_mem_cons.mpr ⟨d_139_18, List.forall_mem_cons.mpr ⟨⟨d_139_20, (by decide)⟩, List.forall_mem_cons.mpr ⟨d_139_23, List.forall_mem_cons.mpr ⟨d_139_25, List.forall_mem_cons.mpr ⟨d_139_27, List.forall_mem_cons.mpr ⟨d_139_28, List.forall_mem_cons.mpr ⟨d_139_29, List.forall_mem_cons.mpr ⟨d_139_30, List.forall_mem_cons.mpr ⟨d_139_32, List.forall_mem_cons.mpr ⟨d_139_33, List.forall_mem_cons.mpr ⟨d_139_35, List.forall_mem_cons.mpr ⟨⟨d_139_36, (by decide)⟩, List.forall_mem_cons.mpr ⟨d_139_39, List.forall_mem_cons.mpr ⟨⟨d_139_41, (by decide)⟩, List.forall_mem_cons.mpr ⟨d_139_44, List.forall_mem_cons.mpr ⟨d_139_46, List.forall_mem_cons.mpr ⟨d_139_48, List.forall_mem_cons.mpr ⟨d_139_49, List.forall_mem_cons.mpr ⟨d_139_50, List.forall_mem_cons.mpr ⟨d_139_51, List.forall_mem_cons.mpr ⟨d_139_53, List.forall_mem_cons.mpr ⟨d_139_54, List.forall_mem_cons.mpr ⟨d_139_56, List.forall_mem_cons.mpr ⟨⟨d_139_58, (by decide)⟩, List.forall_mem_cons.mpr ⟨d_139_61, List.forall_mem_cons.mpr ⟨⟨d_139_63, (by decide)⟩, List.forall_mem_cons.mpr ⟨d_139_66, List.forall_mem_cons.mpr ⟨d_139_68, List.forall_mem_cons.mpr ⟨d_139_70, List.forall_mem_cons.mpr ⟨d_139_71, List.forall_mem_cons.mpr ⟨d_139_73, List.forall_mem_cons.mpr ⟨d_139_74, List.forall_mem_cons.mpr ⟨d_139_76, List.forall_mem_cons.mpr ⟨d_139_77, List.forall_mem_cons.mpr ⟨d_139_79, List.forall_mem_cons.mpr ⟨⟨d_139_81, (by decide)⟩, List.forall_mem_cons.mpr ⟨d_139_84, List.forall_mem_cons.mpr ⟨⟨d_139_86, (by decide)⟩, List.forall_mem_cons.mpr ⟨d_139_89, List.forall_mem_cons.mpr ⟨d_139_91, List.forall_mem_cons.mpr ⟨d_139_93, List.forall_mem_cons.mpr ⟨d_139_94, List.forall_mem_cons.mpr ⟨d_139_96, List.forall_mem_cons.mpr ⟨d_139_97, List.forall_mem_cons.mpr ⟨d_139_99, List.forall_mem_cons.mpr ⟨d_139_100, fun _ h => absurd h List.not_mem_nil⟩⟩⟩⟩⟩⟩⟩⟩⟩⟩⟩⟩⟩⟩⟩⟩⟩⟩⟩⟩⟩⟩⟩⟩⟩⟩⟩⟩⟩⟩⟩⟩⟩⟩⟩⟩⟩⟩⟩⟩⟩⟩⟩⟩⟩⟩⟩⟩⟩⟩⟩⟩⟩⟩⟩⟩⟩⟩
theorem d_140_0 : decode prog_12_method_10_code 0 = .ok (.aload_n 0, 1) := by decide +kernel
theorem d_140_1 : decode prog_12_method_10_code 1 = .ok (.getfield 13, 3) := by decide +kernel
theorem d_140_4 : decode prog_12_method_10_code 4 = .ok (.aload_n 0, 1) := by decide +kernel
theorem d_140_5 : decode prog_12_method_10_code 5 = .ok (.getfield 112, 3) := by decide +kernel
theorem d_140_8 : decode prog_12_method_10_code 8 = .ok (.iaload, 1) := by decide +kernel
theorem d_140_9 : decode prog_12_method_10_code 9 = .ok (.iconst 4, 1) := by decide +kernel
theorem d_140_10 : decode prog_12_method_10_code 10 = .ok (.if_icmp .ne 20, 3) := by decide +kernel
theorem d_140_13 : decode prog_12_method_10_code 13 = .ok (.aload_n 0, 1) := by decide +kernel
theorem d_140_14 : decode prog_12_method_10_code 14 = .ok (.getfield 17, 3) := by decide +kernel
theorem d_140_17 : decode prog_12_method_10_code 17 = .ok (.aload_n 0, 1) := by decide +kernel
theorem d_140_18 : decode prog_12_method_10_code 18 = .ok (.getfield 112, 3) := by decide +kernel
theorem d_140_21 : decode prog_12_method_10_code 21 = .ok (.iaload, 1) := by decide +kernel
theorem d_140_22 : decode prog_12_method_10_code 22 = .ok (.iload_n 1, 1) := by decide +kernel
theorem d_140_23 : decode prog_12_method_10_code 23 = .ok (.if_icmp .ne 7, 3) := by decide +kernel
theorem d_140_26 : decode prog_12_method_10_code 26 = .ok (.iconst 1, 1) := by decide +kernel
theorem d_140_27 : decode prog_12_method_10_code 27 = .ok (.goto 4, 3) := by decide +kernel
theorem d_140_30 : decode prog_12_method_10_code 30 = .ok (.iconst 0, 1) := by decide +kernel
theorem d_140_31 : decode prog_12_method_10_code 31 = .ok (.ireturn, 1) := by decide +kernel
set_option maxRecDepth 20000 in
theorem ok_140 : ∀ r ∈ tb_140, sm_ok 140 r := List.forall_mem_cons.mpr ⟨d_140_0, List.forall_mem_cons.mpr ⟨⟨d_140_1, Or.inl pf_238⟩, List.forall_mem_cons.mpr ⟨d_140_4, List.forall_mem_cons.mpr ⟨⟨d_140_5, Or.inl pf_241⟩, List.forall_mem_cons.mpr ⟨d_140_8, List.forall_mem_cons.mpr ⟨d_140_9, List.forall_mem_cons.mpr ⟨⟨d_140_10, (by decide)⟩, List.forall_mem_cons.mpr ⟨d_140_13, List.forall_mem_cons.mpr ⟨⟨d_140_14, Or.inl pf_240⟩, List.forall_mem_cons.mpr ⟨d_140_17, List.forall_mem_cons.mpr ⟨⟨d_140_18, Or.inl pf_241⟩, List.forall_mem_cons.mpr ⟨d_140_21, List.forall_mem_cons.mpr ⟨d_140_22, List.forall_mem_cons.mpr ⟨⟨d_140_23, (by decide)⟩, List.forall_mem_cons.mpr ⟨d_140_26, List.forall_mem_cons.mpr ⟨⟨d_140_27, (by decide)⟩, List.forall_mem_cons.mpr ⟨d_140_30, List.forall_mem_cons.mpr ⟨d_140_31, fun _ h => absurd h List.not_mem_nil⟩⟩⟩⟩⟩⟩⟩⟩⟩⟩⟩⟩⟩⟩⟩⟩⟩⟩
theorem d_141_0 : decode prog_12_method_11_code 0 = .ok (.aload_n 0, 1) := by decide +kernel
theorem d_141_1 : decode prog_12_method_11_code 1 = .ok (.iload_n 1, 1) := by decide +kernel
theorem d_141_2 : decode prog_12_method_11_code 2 = .ok (.invokevirtual 115, 3) := by decide +kernel
theorem d_141_5 : decode prog_12_method_11_code 5 = .ok (.istore_n 2, 1) := by decide +kernel
theorem d_141_6 : decode prog_12_method_11_code 6 = .ok (.aload_n 0, 1) := by decide +kernel
theorem d_141_7 : decode prog_12_method_11_code 7 = .ok (.iload_n 2, 1) := by decide +kernel
theorem d_141_8 : decode prog_12_method_11_code 8 = .ok (.ifCond .eq 12, 3) := by decide +kernel
theorem d_141_11 : decode prog_12_method_11_code 11 = .ok (.aload_n 0, 1) := by decide +kernel
theorem d_141_12 : decode prog_12_method_11_code 12 = .ok (.getfield 112, 3) := by decide +kernel
theorem d_141_15 : decode prog_12_method_11_code 15 = .ok (.iconst 1, 1) := by decide +kernel
theorem d_141_16 : decode prog_12_method_11_code 16 = .ok (.iadd, 1) := by decide +kernel
theorem d_141_17 : decode prog_12_method_11_code 17 = .ok (.goto 7, 3) := by decide +kernel
theorem d_141_20 : decode prog_12_method_11_code 20 = .ok (.aload_n 0, 1) := by decide +kernel
theorem d_141_21 : decode prog_12_method_11_code 21 = .ok (.getfield 112, 3) := by decide +kernel
theorem d_141_24 : decode prog_12_method_11_code 24 = .ok (.putfield 112, 3) := by decide +kernel
theorem d_141_27 : decode prog_12_method_11_code 27 = .ok (.iload_n 2, 1) := by decide +kernel
theorem d_141_28 : decode prog_12_method_11_code 28 = .ok (.ireturn, 1) := by decide +kernel
set_option maxRecDepth 20000 in
theorem ok_141 : ∀ r ∈ tb_141, sm_ok 141 r := List.forall_mem_cons.mpr ⟨d_141_0, List.forall_mem_cons.mpr ⟨d_141_1, List.forall_mem_cons.mpr ⟨⟨d_141_2, ⟨mo_140, mi_140, se_140, pm_165⟩⟩, List.forall_mem_cons.mpr ⟨d_141_5, List.forall_mem_cons.mpr ⟨d_141_6, List.forall_mem_cons.mpr ⟨d_141_7, List.forall_mem_cons.mpr ⟨⟨d_141_8, (by decide)⟩, List.forall_mem_cons.mpr ⟨d_141_11, List.forall_mem_cons.mpr ⟨⟨d_141_12, Or.inl pf_241⟩, List.forall_mem_cons.mpr ⟨d_141_15, List.forall_mem_cons.mpr ⟨d_141_16, List.forall_mem_cons.mpr ⟨⟨d_141_17, (by decide)⟩, List.forall_mem_cons.mpr ⟨d_141_20, List.forall_mem_cons.mpr ⟨⟨d_141_21, Or.inl pf_241⟩, List.forall_mem_cons.mpr ⟨⟨d_141_24, pf_242⟩, List.forall_mem_cons.mpr ⟨d_141_27, List.forall_mem_cons.mpr ⟨d_141_28, fun _ h => absurd h List.not_mem_nil⟩⟩⟩⟩⟩⟩⟩⟩⟩⟩⟩⟩⟩⟩⟩⟩⟩
theorem d_142_0 : decode prog_12_method_12_code 0 = .ok (.aload_n 0, 1) := by decide +kernel
theorem d_142_1 : decode prog_12_method_12_code 1 = .ok (.getfield 13, 3) := by decide +kernel
theorem d_142_4 : decode prog_12_method_12_code 4 = .ok (.aload_n 0, 1) := by decide +kernel
theorem d_142_5 : decode prog_12_method_12_code 5 = .ok (.getfield 112, 3) := by decide +kernel
theorem d_142_8 : decode prog_12_method_12_code 8 = .ok (.iaload, 1) := by decide +kernel
theorem d_142_9 : decode prog_12_method_12_code 9 = .ok (.iconst 1, 1) := by decide +kernel
theorem d_142_10 : decode prog_12_method_12_code 10 = .ok (.if_icmp .ne 20, 3) := by decide +kernel
theorem d_142_13 : decode prog_12_method_12_code 13 = .ok (.aload_n 0, 1) := by decide +kernel
theorem d_142_14 : decode prog_12_method_12_code 14 = .ok (.getfield 17, 3) := by decide +kernel
theorem d_142_17 : decode prog_12_method_12_code 17 = .ok (.aload_n 0, 1) := by decide +kernel
theorem d_142_18 : decode prog_12_method_12_code 18 = .ok (.getfield 112, 3) := by decide +kernel
theorem d_142_21 : decode prog_12_method_12_code 21 = .ok (.iaload, 1) := by decide +kernel
theorem d_142_22 : decode prog_12_method_12_code 22 = .ok (.iload_n 1, 1) := by decide +kernel
theorem d_142_23 : decode prog_12_method_12_code 23 = .ok (.if_icmp .ne 7, 3) := by decide +kernel
theorem d_142_26 : decode prog_12_method_12_code 26 = .ok (.iconst 1, 1) := by decide +kernel
theorem d_142_27 : decode prog_12_method_12_code 27 = .ok (.goto 4, 3) := by decide +kernel
theorem d_142_30 : decode prog_12_method_12_code 30 = .ok (.iconst 0, 1) := by decide +kernel
theorem d_142_31 : decode prog_12_method_12_code 31 = .ok (.istore_n 2, 1) := by decide +kernel
theorem d_142_32 : decode prog_12_method_12_code 32 = .ok (.aload_n 0, 1) := by decide +kernel
theorem d_142_33 : decode prog_12_method_12_code 33 = .ok (.iload_n 2, 1) := by decide +kernel
theorem d_142_34 : decode prog_12_method_12_code 34 = .ok (.ifCond .eq 12, 3) := by decide +kernel
theorem d_142_37 : decode prog_12_method_12_code 37 = .ok (.aload_n 0, 1) := by decide +kernel
theorem d_142_38 : decode prog_12_method_12_code 38 = .ok (.getfield 112, 3) := by decide +kernel
theorem d_142_41 : decode prog_12_method_12_code 41 = .ok (.iconst 1, 1) := by decide +kernel
theorem d_142_42 : decode prog_12_method_12_code 42 = .ok (.iadd, 1) := by decide +kernel
theorem d_142_43 : decode prog_12_method_12_code 43 = .ok (.goto 7, 3) := by decide +kernel
theorem d_142_46 : decode prog_12_method_12_code 46 = .ok (.aload_n 0, 1) := by decide +kernel
theorem d_142_47 : decode prog_12_method_12_code 47 = .ok (.getfield 112, 3) := by decide +kernel
theorem d_142_50 : decode prog_12_method_12_code 50 = .ok (.putfield 112, 3) := by decide +kernel
theorem d_142_53 : decode prog_12_method_12_code 53 = .ok (.iload_n 2, 1) := by decide +kernel
theorem d_142_54 : decode prog_12_method_12_code 54 = .ok (.ireturn, 1) := by decide +kernel
set_option maxRecDepth 20000 in
theorem ok_142 : ∀ r ∈ tb_142, sm_ok 142 r := List.forall_mem_cons.mpr ⟨d_142_0, List.forall_mem_cons.mpr ⟨⟨d_142_1, Or.inl pf_238⟩, List.forall_mem_cons.mpr ⟨d_142_4, List.forall_mem_cons.mpr ⟨⟨d_142_5, Or.inl pf_241⟩, List.forall_mem_cons.mpr ⟨d_142_8, List.forall_mem_cons.mpr ⟨d_142_9, List.forall_mem_cons.mpr ⟨⟨d_142_10, (by decide)⟩, List.forall_mem_cons.mpr ⟨d_142_13, List.forall_mem_cons.mpr ⟨⟨d_142_14, Or.inl pf_240⟩, List.forall_mem_cons.mpr ⟨d_142_17, List.forall_mem_cons.mpr ⟨⟨d_142_18, Or.inl pf_241⟩, List.forall_mem_cons.mpr ⟨d_142_21, List.forall_mem_cons.mpr ⟨d_142_22, List.forall_mem_cons.mpr ⟨⟨d_142_23, (by decide)⟩, List.forall_mem_cons.mpr ⟨d_142_26, List.forall_mem_cons.mpr ⟨⟨d_142_27, (by decide)⟩, List.forall_mem_cons.mpr ⟨d_142_30, List.forall_mem_cons.mpr ⟨d_142_31, List.forall_mem_cons.mpr ⟨d_142_32, List.forall_mem_cons.mpr ⟨d_142_33, List.forall_mem_cons.mpr ⟨⟨d_142_34, (by decide)⟩, List.forall_mem_cons.mpr ⟨d_142_37, List.forall_mem_cons.mpr ⟨⟨d_142_38, Or.inl pf_241⟩, List.forall_mem_cons.mpr ⟨d_142_41, List.forall_mem_cons.mpr ⟨d_142_42, List.forall_mem_cons.mpr ⟨⟨d_142_43, (by decide)⟩, List.forall_mem_cons.mpr ⟨d_142_46, List.forall_mem_cons.mpr ⟨⟨d_142_47, Or.inl pf_241⟩, List.forall_mem_cons.mpr ⟨⟨d_142_50, pf_242⟩, List.forall_mem_cons.mpr ⟨d_142_53, List.forall_mem_cons.mpr ⟨d_142_54, fun _ h => absurd h List.not_mem_nil⟩⟩⟩⟩⟩⟩⟩⟩⟩⟩⟩⟩⟩⟩⟩⟩⟩⟩⟩⟩⟩⟩⟩⟩⟩⟩⟩⟩⟩⟩⟩
theorem d_143_0 : decode prog_12_method_13_code 0 = .ok (.aload_n 0, 1) := by decide +kernel
theorem d_143_1 : decode prog_12_method_13_code 1 = .ok (.getfield 13, 3) := by decide +kernel
theorem d_143_4 : decode prog_12_method_13_code 4 = .ok (.aload_n 0, 1) := by decide +kernel
theorem d_143_5 : decode prog_12_method_13_code 5 = .ok (.getfield 112, 3) := by decide +kernel
theorem d_143_8 : decode prog_12_method_13_code 8 = .ok (.iaload, 1) := by decide +kernel
theorem d_143_9 : decode prog_12_method_13_code 9 = .ok (.iload_n 1, 1) := by decide +kernel
theorem d_143_10 : decode prog_12_method_13_code 10 = .ok (.if_icmp .ne 7, 3) := by decide +kernel
theorem d_143_13 : decode prog_12_method_13_code 13 = .ok (.iconst 1, 1) := by decide +kernel
theorem d_143_14 : decode prog_12_method_13_code 14 = .ok (.goto 4, 3) := by decide +kernel
theorem d_143_17 : decode prog_12_method_13_code 17 = .ok (.iconst 0, 1) := by decide +kernel
theorem d_143_18 : decode prog_12_method_13_code 18 = .ok (.istore_n 2, 1) := by decide +kernel
theorem d_143_19 : decode prog_12_method_13_code 19 = .ok (.aload_n 0, 1) := by decide +kernel
theorem d_143_20 : decode prog_12_method_13_code 20 = .ok (.aload_n 0, 1) := by decide +kernel
theorem d_143_21 : decode prog_12_method_13_code 21 = .ok (.getfield 105, 3) := by decide +kernel
theorem d_143_24 : decode prog_12_method_13_code 24 = .ok (.ifCond .ne 7, 3) := by decide +kernel
theorem d_143_27 : decode prog_12_method_13_code 27 = .ok (.iload_n 2, 1) := by decide +kernel
theorem d_143_28 : decode prog_12_method_13_code 28 = .ok (.ifCond .ne 7, 3) := by decide +kernel
theorem d_143_31 : decode prog_12_method_13_code 31 = .ok (.iconst 1, 1) := by decide +kernel
theorem d_143_32 : decode prog_12_method_13_code 32 = .ok (.goto 4, 3) := by decide +kernel
theorem d_143_35 : decode prog_12_method_13_code 35 = .ok (.iconst 0, 1) := by decide +kernel
theorem d_143_36 : decode prog_12_method_13_code 36 = .ok (.putfield 105, 3) := by decide +kernel
theorem d_143_39 : decode prog_12_method_13_code 39 = .ok (.iload_n 2, 1) := by decide +kernel
theorem d_143_40 : decode prog_12_method_13_code 40 = .ok (.ifCond .eq 15, 3) := by decide +kernel
theorem d_143_43 : decode prog_12_method_13_code 43 = .ok (.aload_n 0, 1) := by decide +kernel
theorem d_143_44 : decode prog_12_method_13_code 44 = .ok (.getfield 17, 3) := by decide +kernel
theorem d_143_47 : decode prog_12_method_13_code 47 = .ok (.aload_n 0, 1) := by decide +kernel
theorem d_143_48 : decode prog_12_method_13_code 48 = .ok (.getfield 112, 3) := by decide +kernel
theorem d_143_51 : decode prog_12_method_13_code 51 = .ok (.iaload, 1) := by decide +kernel
theorem d_143_52 : decode prog_12_method_13_code 52 = .ok (.goto 4, 3) := by decide +kernel
theorem d_143_55 : decode prog_12_method_13_code 55 = .ok (.iconst 0, 1) := by decide +kernel
theorem d_143_56 : decode prog_12_method_13_code 56 = .ok (.istore_n 3, 1) := by decide +kernel
theorem d_143_57 : decode prog_12_method_13_code 57 = .ok (.aload_n 0, 1) := by decide +kernel
theorem d_143_58 : decode prog_12_method_13_code 58 = .ok (.iload_n 2, 1) := by decide +kernel
theorem d_143_59 : decode prog_12_method_13_code 59 = .ok (.ifCond .eq 12, 3) := by decide +kernel
theorem d_143_62 : decode prog_12_method_13_code 62 = .ok (.aload_n 0, 1) := by decide +kernel
theorem d_143_63 : decode prog_12_method_13_code 63 = .ok (.getfield 112, 3) := by decide +kernel
theorem d_143_66 : decode prog_12_method_13_code 66 = .ok (.iconst 1, 1) := by decide +kernel
theorem d_143_67 : decode prog_12_method_13_code 67 = .ok (.iadd, 1) := by decide +kernel
theorem d_143_68 : decode prog_12_method_13_code 68 = .ok (.goto 7, 3) := by decide +kernel
theorem d_143_71 : decode prog_12_method_13_code 71 = .ok (.aload_n 0, 1) := by decide +kernel
theorem d_143_72 : decode prog_12_method_13_code 72 = .ok (.getfield 112, 3) := by decide +kernel
theorem d_143_75 : decode prog_12_method_13_code 75 = .ok (.putfield 112, 3) := by decide +kernel
theorem d_143_78 : decode prog_12_method_13_code 78 = .ok (.iload_n 3, 1) := by decide +kernel
theorem d_143_79 : decode prog_12_method_13_code 79 = .ok (.ireturn, 1) := by decide +kernel
set_option maxRecDepth 20000 in
theorem ok_143 : ∀ r ∈ tb_143, sm_ok 143 r := List.forall_mem_cons.mpr ⟨d_143_0, List.forall_mem_cons.mpr ⟨⟨d_143_1, Or.inl pf_238⟩, List.forall_mem_cons.mpr ⟨d_143_4, List.forall_mem_cons.mpr ⟨⟨d_143_5, Or.inl pf_241⟩, List.forall_mem_cons.mpr ⟨d_143_8, List.forall_mem_cons.mpr ⟨d_143_9, List.forall_mem_cons.mpr ⟨⟨d_143_10, (by decide)⟩, List.forall_mem_cons.mpr ⟨d_143_13, List.forall_mem_cons.mpr ⟨⟨d_143_14, (by decide)⟩, List.forall_mem_cons.mpr ⟨d_143_17, List.forall_mem_cons.mpr ⟨d_143_18, List.forall_mem_cons.mpr ⟨d_143_19, List.forall_mem_cons.mpr ⟨d_143_20, List.forall_mem_cons.mpr ⟨⟨d_143_21, Or.inl pf_236⟩, List.forall_mem_cons.mpr ⟨⟨d_143_24, (by decide)⟩, List.forall_mem_cons.mpr ⟨d_143_27, List.forall_mem_cons.mpr ⟨⟨d_143_28, (by decide)⟩, List.forall_mem_cons.mpr ⟨d_143_31, List.forall_mem_cons.mpr ⟨⟨d_143_32, (by decide)⟩, List.forall_mem_cons.mpr ⟨d_143_35, List.forall_mem_cons.mpr ⟨⟨d_143_36, pf_237⟩, List.forall_mem_cons.mpr ⟨d_143_39, List.forall_mem_cons.mpr ⟨⟨d_143_40, (by decide)⟩, List.forall_mem_cons.mpr ⟨d_143_43, List.forall_mem_cons.mpr ⟨⟨d_143_44, Or.inl pf_240⟩, List.forall_mem_cons.mpr ⟨d_143_47, List.forall_mem_cons.mpr ⟨⟨d_143_48, Or.inl pf_241⟩, List.forall_mem_cons.mpr ⟨d_143_51, List.forall_mem_cons.mpr ⟨⟨d_143_52, (by decide)⟩, List.forall_mem_cons.mpr ⟨d_143_55, List.forall_mem_cons.mpr ⟨d_143_56, List.forall_mem_cons.mpr ⟨d_143_57, List.forall_mem_cons.mpr ⟨d_143_58, List.forall_mem_cons.mpr ⟨⟨d_143_59, (by decide)⟩, List.forall_mem_cons.mpr ⟨d_143_62, List.forall_mem_cons.mpr ⟨⟨d_143_63, Or.inl pf_241⟩, List.forall_mem_cons.mpr ⟨d_143_66, List.forall_mem_cons.mpr ⟨d_143_67, List.forall_mem_cons.mpr ⟨⟨d_143_68, (by decide)⟩, List.forall_mem_cons.mpr ⟨d_143_71, List.forall_mem_cons.mpr ⟨⟨d_143_72, Or.inl pf_241⟩, List.forall_mem_cons.mpr ⟨⟨d_143_75, pf_242⟩, List.forall_mem_cons.mpr ⟨d_143_78, List.forall_mem_cons.mpr ⟨d_143_79, fun _ h => absurd h List.not_mem_nil⟩⟩⟩⟩⟩⟩⟩⟩⟩⟩⟩⟩⟩⟩⟩⟩⟩⟩⟩⟩⟩⟩⟩⟩⟩⟩⟩⟩⟩⟩⟩⟩⟩⟩⟩⟩⟩⟩⟩⟩⟩⟩⟩⟩
theorem d_144_0 : decode prog_12_method_14_code 0 = .ok (.aload_n 0, 1) := by decide +kernel
theorem d_144_1 : decode prog_12_method_14_code 1 = .ok (.iconst 1, 1) := by decide +kernel
theorem d_144_2 : decode prog_12_method_14_code 2 = .ok (.invokevirtual 119, 3) := by decide +kernel
theorem d_144_5 : decode prog_12_method_14_code 5 = .ok (.istore_n 1, 1) := by decide +kernel
theorem d_144_6 : decode prog_12_method_14_code 6 = .ok (.aload_n 0, 1) := by decide +kernel
theorem d_144_7 : decode prog_12_method_14_code 7 = .ok (.aload_n 0, 1) := by decide +kernel
theorem d_144_8 : decode prog_12_method_14_code 8 = .ok (.getfield 105, 3) := by decide +kernel
theorem d_144_11 : decode prog_12_method_14_code 11 = .ok (.ifCond .ne 13, 3) := by decide +kernel
theorem d_144_14 : decode prog_12_method_14_code 14 = .ok (.iload_n 1, 1) := by decide +kernel
theorem d_144_15 : decode prog_12_method_14_code 15 = .ok (.iconst 1, 1) := by decide +kernel
theorem d_144_16 : decode prog_12_method_14_code 16 = .ok (.if_icmp .lt 8, 3) := by decide +kernel
theorem d_144_19 : decode prog_12_method_14_code 19 = .ok (.iload_n 1, 1) := by decide +kernel
theorem d_144_20 : decode prog_12_method_14_code 20 = .ok (.iconst 4, 1) := by decide +kernel
theorem d_144_21 : decode prog_12_method_14_code 21 = .ok (.if_icmp .le 7, 3) := by decide +kernel
theorem d_144_24 : decode prog_12_method_14_code 24 = .ok (.iconst 1, 1) := by decide +kernel
theorem d_144_25 : decode prog_12_method_14_code 25 = .ok (.goto 4, 3) := by decide +kernel
theorem d_144_28 : decode prog_12_method_14_code 28 = .ok (.iconst 0, 1) := by decide +kernel
theorem d_144_29 : decode prog_12_method_14_code 29 = .ok (.putfield 105, 3) := by decide +kernel
theorem d_144_32 : decode prog_12_method_14_code 32 = .ok (.iload_n 1, 1) := by decide +kernel
theorem d_144_33 : decode prog_12_method_14_code 33 = .ok (.iconst 1, 1) := by decide +kernel
theorem d_144_34 : decode prog_12_method_14_code 34 = .ok (.isub, 1) := by decide +kernel
theorem d_144_35 : decode prog_12_method_14_code 35 = .ok (.ireturn, 1) := by decide +kernel
set_option maxRecDepth 20000 in
theorem ok_144 : ∀ r ∈ tb_144, sm_ok 144 r := List.forall_mem_cons.mpr ⟨d_144_0, List.forall_mem_cons.mpr ⟨d_144_1, List.forall_mem_cons.mpr ⟨⟨d_144_2, ⟨mo_143, mi_143, se_143, pm_166⟩⟩, List.forall_mem_cons.mpr ⟨d_144_5, List.forall_mem_cons.mpr ⟨d_144_6, List.forall_mem_cons.mpr ⟨d_144_7, List.forall_mem_cons.mpr ⟨⟨d_144_8, Or.inl pf_236⟩, List.forall_mem_cons.mpr ⟨⟨d_144_11, (by decide)⟩, List.forall_mem_cons.mpr ⟨d_144_14, List.forall_mem_cons.mpr ⟨d_144_15, List.forall_mem_cons.mpr ⟨⟨d_144_16, (by decide)⟩, List.forall_mem_cons.mpr ⟨d_144_19, List.forall_mem_cons.mpr ⟨d_144_20, List.forall_mem_cons.mpr ⟨⟨d_144_21, (by decide)⟩, List.forall_mem_cons.mpr ⟨d_144_24, List.forall_mem_cons.mpr ⟨⟨d_144_25, (by decide)⟩, List.forall_mem_cons.mpr ⟨d_144_28, List.forall_mem_cons.mpr ⟨⟨d_144_29, pf_237⟩, List.forall_mem_cons.mpr ⟨d_144_32, List.forall_mem_cons.mpr ⟨d_144_33, List.forall_mem_cons.mpr ⟨d_144_34, List.forall_mem_cons.mpr ⟨d_144_35, fun _ h => absurd h List.not_mem_nil⟩⟩⟩⟩⟩⟩⟩⟩⟩⟩⟩⟩⟩⟩⟩⟩⟩⟩⟩⟩⟩⟩
theorem d_145_0 : decode prog_12_method_15_code 0 = .ok (.aload_n 0, 1) := by decide +kernel
theorem d_145_1 : decode prog_12_method_15_code 1 = .ok (.getfield 20, 3) := by decide +kernel
theorem d_145_4 : decode prog_12_method_15_code 4 = .ok (.aload_n 0, 1) := by decide +kernel
theorem d_145_5 : decode prog_12_method_15_code 5 = .ok (.getfield 123, 3) := by decide +kernel
theorem d_145_8 : decode prog_12_method_15_code 8 = .ok (.iload_n 1, 1) := by decide +kernel
theorem d_145_9 : decode prog_12_method_15_code 9 = .ok (.iastore, 1) := by decide +kernel
theorem d_145_10 : decode prog_12_method_15_code 10 = .ok (.aload_n 0, 1) := by decide +kernel
theorem d_145_11 : decode prog_12_method_15_code 11 = .ok (.getfield 23, 3) := by decide +kernel
theorem d_145_14 : decode prog_12_method_15_code 14 = .ok (.aload_n 0, 1) := by decide +kernel
theorem d_145_15 : decode prog_12_method_15_code 15 = .ok (.getfield 123, 3) := by decide +kernel
theorem d_145_18 : decode prog_12_method_15_code 18 = .ok (.iload_n 2, 1) := by decide +kernel
theorem d_145_19 : decode prog_12_method_15_code 19 = .ok (.iastore, 1) := by decide +kernel
theorem d_145_20 : decode prog_12_method_15_code 20 = .ok (.aload_n 0, 1) := by decide +kernel
theorem d_145_21 : decode prog_12_method_15_code 21 = .ok (.dup, 1) := by decide +kernel
theorem d_145_22 : decode prog_12_method_15_code 22 = .ok (.getfield 123, 3) := by decide +kernel
theorem d_145_25 : decode prog_12_method_15_code 25 = .ok (.iconst 1, 1) := by decide +kernel
theorem d_145_26 : decode prog_12_method_15_code 26 = .ok (.iadd, 1) := by decide +kernel
theorem d_145_27 : decode prog_12_method_15_code 27 = .ok (.putfield 123, 3) := by decide +kernel
theorem d_145_30 : decode prog_12_method_15_code 30 = .ok (.return_, 1) := by decide +kernel
set_option maxRecDepth 20000 in
theorem ok_145 : ∀ r ∈ tb_145, sm_ok 145 r := List.forall_mem_cons.mpr ⟨d_145_0, List.forall_mem_cons.mpr ⟨⟨d_145_1, Or.inl pf_243⟩, List.forall_mem_cons.mpr ⟨d_145_4, List.forall_mem_cons.mpr ⟨⟨d_145_5, Or.inl pf_244⟩, List.forall_mem_cons.mpr ⟨d_145_8, List.forall_mem_cons.mpr ⟨d_145_9, List.forall_mem_cons.mpr ⟨d_145_10, List.forall_mem_cons.mpr ⟨⟨d_145_11, Or.inl pf_245⟩, List.forall_mem_cons.mpr ⟨d_145_14, List.forall_mem_cons.mpr ⟨⟨d_145_15, Or.inl pf_244⟩, List.forall_mem_cons.mpr ⟨d_145_18, List.forall_mem_cons.mpr ⟨d_145_19, List.forall_mem_cons.mpr ⟨d_145_20, List.forall_mem_cons.mpr ⟨d_145_21, List.forall_mem_cons.mpr ⟨⟨d_145_22, Or.inl pf_244⟩, List.forall_mem_cons.mpr ⟨d_145_25, List.forall_mem_cons.mpr ⟨d_145_26, List.forall_mem_cons.mpr ⟨⟨d_145_27, pf_246⟩, List.forall_mem_cons.mpr ⟨d_145_30, fun _ h => absurd h List.not_mem_nil⟩⟩⟩⟩⟩⟩⟩⟩⟩⟩⟩⟩⟩⟩⟩⟩⟩⟩⟩
theorem d_146_0 : decode prog_12_method_16_code 0 = .ok (.aload_n 0, 1) := by decide +kernel
theorem d_146_1 : decode prog_12_method_16_code 1 = .ok (.aload_n 0, 1) := by decide +kernel
theorem d_146_2 : decode prog_12_method_16_code 2 = .ok (.getfield 105, 3) := by decide +kernel
theorem d_146_5 : decode prog_12_method_16_code 5 = .ok (.ifCond .ne 17, 3) := by decide +kernel
theorem d_146_8 : decode prog_12_method_16_code 8 = .ok (.aload_n 0, 1) := by decide +kernel
theorem d_146_9 : decode prog_12_method_16_code 9 = .ok (.getfield 126, 3) := by decide +kernel
theorem d_146_12 : decode prog_12_method_16_code 12 = .ok (.aload_n 0, 1) := by decide +kernel
theorem d_146_13 : decode prog_12_method_16_code 13 = .ok (.getfield 129, 3) := by decide +kernel
theorem d_146_16 : decode prog_12_method_16_code 16 = .ok (.iadd, 1) := by decide +kernel
theorem d_146_17 : decode prog_12_method_16_code 17 = .ok (.bipush 7, 2) := by decide +kernel
theorem d_146_19 : decode prog_12_method_16_code 19 = .ok (.if_icmp .le 7, 3) := by decide +kernel
theorem d_146_22 : decode prog_12_method_16_code 22 = .ok (.iconst 1, 1) := by decide +kernel
theorem d_146_23 : decode prog_12_method_16_code 23 = .ok (.goto 4, 3) := by decide +kernel
theorem d_146_26 : decode prog_12_method_16_code 26 = .ok (.iconst 0, 1) := by decide +kernel
theorem d_146_27 : decode prog_12_method_16_code 27 = .ok (.putfield 105, 3) := by decide +kernel
theorem d_146_30 : decode prog_12_method_16_code 30 = .ok (.aload_n 0, 1) := by decide +kernel
theorem d_146_31 : decode prog_12_method_16_code 31 = .ok (.getfield 26, 3) := by decide +kernel
theorem d_146_34 : decode prog_12_method_16_code 34 = .ok (.aload_n 0, 1) := by decide +kernel
theorem d_146_35 : decode prog_12_method_16_code 35 = .ok (.getfield 132, 3) := by decide +kernel
theorem d_146_38 : decode prog_12_method_16_code 38 = .ok (.iload_n 1, 1) := by decide +kernel
theorem d_146_39 : decode prog_12_method_16_code 39 = .ok (.iastore, 1) := by decide +kernel
theorem d_146_40 : decode prog_12_method_16_code 40 = .ok (.aload_n 0, 1) := by decide +kernel
theorem d_146_41 : decode prog_12_method_16_code 41 = .ok (.dup, 1) := by decide +kernel
theorem d_146_42 : decode prog_12_method_16_code 42 = .ok (.getfield 132, 3) := by decide +kernel
theorem d_146_45 : decode prog_12_method_16_code 45 = .ok (.iconst 1, 1) := by decide +kernel
theorem d_146_46 : decode prog_12_method_16_code 46 = .ok (.iadd, 1) := by decide +kernel
theorem d_146_47 : decode prog_12_method_16_code 47 = .ok (.putfield 132, 3) := by decide +kernel
theorem d_146_50 : decode prog_12_method_16_code 50 = .ok (.aload_n 0, 1) := by decide +kernel
theorem d_146_51 : decode prog_12_method_16_code 51 = .ok (.dup, 1) := by decide +kernel
theorem d_146_52 : decode prog_12_method_16_code 52 = .ok (.getfield 126, 3) := by decide +kernel
theorem d_146_55 : decode prog_12_method_16_code 55 = .ok (.iconst 1, 1) := by decide +kernel
theorem d_146_56 : decode prog_12_method_16_code 56 = .ok (.iadd, 1) := by decide +kernel
theorem d_146_57 : decode prog_12_method_16_code 57 = .ok (.putfield 126, 3) := by decide +kernel
theorem d_146_60 : decode prog_12_method_16_code 60 = .ok (.aload_n 0, 1) := by decide +kernel
theorem d_146_61 : decode prog_12_method_16_code 61 = .ok (.dup, 1) := by decide +kernel
theorem d_146_62 : decode prog_12_method_16_code 62 = .ok (.getfield 112, 3) := by decide +kernel
theorem d_146_65 : decode prog_12_method_16_code 65 = .ok (.iconst 1, 1) := by decide +kernel
theorem d_146_66 : decode prog_12_method_16_code 66 = .ok (.iadd, 1) := by decide +kernel
theorem d_146_67 : decode prog_12_method_16_code 67 = .ok (.putfield 112, 3) := by decide +kernel
theorem d_146_70 : decode prog_12_method_16_code 70 = .ok (.return_, 1) := by decide +kernel
set_option maxRecDepth 20000 in
theorem ok_146 : ∀ r ∈ tb_146, sm_ok 146 r := List.forall_mem_cons.mpr ⟨d_146_0, List.forall_mem_cons.mpr ⟨d_146_1, List.forall_mem_cons.mpr ⟨⟨d_146_2, Or.inl pf_236⟩, List.forall_mem_cons.mpr ⟨⟨d_146_5, (by decide)⟩, List.forall_mem_cons.mpr ⟨d_146_8, List.forall_mem_cons.mpr ⟨⟨d_146_9, Or.inl pf_247⟩, List.forall_mem_cons.mpr ⟨d_146_12, List.forall_mem_cons.mpr ⟨⟨d_146_13, Or.inl pf_248⟩, List.forall_mem_cons.mpr ⟨d_146_16, List.forall_mem_cons.mpr ⟨d_146_17, List.forall_mem_cons.mpr ⟨⟨d_146_19, (by decide)⟩, List.forall_mem_cons.mpr ⟨d_146_22, List.forall_mem_cons.mpr ⟨⟨d_146_23, (by decide)⟩, List.forall_mem_cons.mpr ⟨d_146_26, List.forall_mem_cons.mpr ⟨⟨d_146_27, pf_237⟩, List.forall_mem_cons.mpr ⟨d_146_30, List.forall_mem_cons.mpr ⟨⟨d_146_31, Or.inl pf_249⟩, List.forall_mem_cons.mpr ⟨d_146_34, List.forall_mem_cons.mpr ⟨⟨d_146_35, Or.inl pf_250⟩, List.forall_mem_cons.mpr ⟨d_146_38, List.forall_mem_cons.mpr ⟨d_146_39, List.forall_mem_cons.mpr ⟨d_146_40, List.forall_mem_cons.mpr ⟨d_146_41, List.forall_mem_cons.mpr ⟨⟨d_146_42, Or.inl pf_250⟩, List.forall_mem_cons.mpr ⟨d_146_45, List.forall_mem_cons.mpr ⟨d_146_46, List.forall_mem_cons.mpr ⟨⟨d_146_47, pf_251⟩, List.forall_mem_cons.mpr ⟨d_146_50, List.forall_mem_cons.mpr ⟨d_146_51, List.forall_mem_cons.mpr ⟨⟨d_146_52, Or.inl pf_247⟩, List.forall_mem_cons.mpr ⟨d_146_55, List.forall_mem_cons.mpr ⟨d_146_56, List.forall_mem_cons.mpr ⟨⟨d_146_57, pf_252⟩, List.forall_mem_cons.mpr ⟨d_146_60, List.forall_mem_cons.mpr ⟨d_146_61, List.forall_mem_cons.mpr ⟨⟨d_146_62, Or.inl pf_241⟩, List.forall_mem_cons.mpr ⟨d_146_65, List.forall_mem_cons.mpr ⟨d_146_66, List.forall_mem_cons.mpr ⟨⟨d_146_67, pf_242⟩, List.forall_mem_cons.mpr ⟨d_146_70, fun _ h => absurd h List.not_mem_nil⟩⟩⟩⟩⟩⟩⟩⟩⟩⟩⟩⟩⟩⟩⟩⟩⟩⟩⟩⟩⟩⟩⟩⟩⟩⟩⟩⟩⟩⟩⟩⟩⟩⟩⟩⟩⟩⟩⟩⟩
theorem d_147_0 : decode prog_12_method_17_code 0 = .ok (.aload_n 0, 1) := by decide +kernel
theorem d_147_1 : decode prog_12_method_17_code 1 = .ok (.getfield 132, 3) := by decide +kernel
theorem d_147_4 : decode prog_12_method_17_code 4 = .ok (.ifCond .le 17, 3) := by decide +kernel
theorem d_147_7 : decode prog_12_method_17_code 7 = .ok (.aload_n 0, 1) := by decide +kernel
theorem d_147_8 : decode prog_12_method_17_code 8 = .ok (.getfield 26, 3) := by decide +kernel
theorem d_147_11 : decode prog_12_method_17_code 11 = .ok (.aload_n 0, 1) := by decide +kernel
theorem d_147_12 : decode prog_12_method_17_code 12 = .ok (.getfield 132, 3) := by decide +kernel
theorem d_147_15 : decode prog_12_method_17_code 15 = .ok (.iconst 1, 1) := by decide +kernel
theorem d_147_16 : decode prog_12_method_17_code 16 = .ok (.isub, 1) := by decide +kernel
theorem d_147_17 : decode prog_12_method_17_code 17 = .ok (.iaload, 1) := by decide +kernel
theorem d_147_18 : decode prog_12_method_17_code 18 = .ok (.goto 4, 3) := by decide +kernel
theorem d_147_21 : decode prog_12_method_17_code 21 = .ok (.iconst 0, 1) := by decide +kernel
theorem d_147_22 : decode prog_12_method_17_code 22 = .ok (.ireturn, 1) := by decide +kernel
set_option maxRecDepth 20000 in
theorem ok_147 : ∀ r ∈ tb_147, sm_ok 147 r := List.forall_mem_cons.mpr ⟨d_147_0, List.forall_mem_cons.mpr ⟨⟨d_147_1, Or.inl pf_250⟩, List.forall_mem_cons.mpr ⟨⟨d_147_4, (by decide)⟩, List.forall_mem_cons.mpr ⟨d_147_7, List.forall_mem_cons.mpr ⟨⟨d_147_8, Or.inl pf_249⟩, List.forall_mem_cons.mpr ⟨d_147_11, List.forall_mem_cons.mpr ⟨⟨d_147_12, Or.inl pf_250⟩, List.forall_mem_cons.mpr ⟨d_147_15, List.forall_mem_cons.mpr ⟨d_147_16, List.forall_mem_cons.mpr ⟨d_147_17, List.forall_mem_cons.mpr ⟨⟨d_147_18, (by decide)⟩, List.forall_mem_cons.mpr ⟨d_147_21, List.forall_mem_cons.mpr ⟨d_147_22, fun _ h => absurd h List.not_mem_nil⟩⟩⟩⟩⟩⟩⟩⟩⟩⟩⟩⟩⟩
theorem d_148_0 : decode prog_12_method_18_code 0 = .ok (.aload_n 0, 1) := by decide +kernel
theorem d_148_1 : decode prog_12_method_18_code 1 = .ok (.invokevirtual 135, 3) := by decide +kernel
theorem d_148_4 : decode prog_12_method_18_code 4 = .ok (.bipush 8, 2) := by decide +kernel
theorem d_148_6 : decode prog_12_method_18_code 6 = .ok (.if_icmp .ne 33, 3) := by decide +kernel
theorem d_148_9 : decode prog_12_method_18_code 9 = .ok (.aload_n 0, 1) := by decide +kernel
theorem d_148_10 : decode prog_12_method_18_code 10 = .ok (.dup, 1) := by decide +kernel
theorem d_148_11 : decode prog_12_method_18_code 11 = .ok (.getfield 132, 3) := by decide +kernel
theorem d_148_14 : decode prog_12_method_18_code 14 = .ok (.iconst 1, 1) := by decide +kernel
theorem d_148_15 : decode prog_12_method_18_code 15 = .ok (.isub, 1) := by decide +kernel
theorem d_148_16 : decode prog_12_method_18_code 16 = .ok (.putfield 132, 3) := by decide +kernel
theorem d_148_19 : decode prog_12_method_18_code 19 = .ok (.aload_n 0, 1) := by decide +kernel
theorem d_148_20 : decode prog_12_method_18_code 20 = .ok (.dup, 1) := by decide +kernel
theorem d_148_21 : decode prog_12_method_18_code 21 = .ok (.getfield 126, 3) := by decide +kernel
theorem d_148_24 : decode prog_12_method_18_code 24 = .ok (.iconst 1, 1) := by decide +kernel
theorem d_148_25 : decode prog_12_method_18_code 25 = .ok (.isub, 1) := by decide +kernel
theorem d_148_26 : decode prog_12_method_18_code 26 = .ok (.putfield 126, 3) := by decide +kernel
theorem d_148_29 : decode prog_12_method_18_code 29 = .ok (.aload_n 0, 1) := by decide +kernel
theorem d_148_30 : decode prog_12_method_18_code 30 = .ok (.bipush 8, 2) := by decide +kernel
theorem d_148_32 : decode prog_12_method_18_code 32 = .ok (.iconst 0, 1) := by decide +kernel
theorem d_148_33 : decode prog_12_method_18_code 33 = .ok (.invokevirtual 139, 3) := by decide +kernel
theorem d_148_36 : decode prog_12_method_18_code 36 = .ok (.goto (-36), 3) := by decide +kernel
theorem d_148_39 : decode prog_12_method_18_code 39 = .ok (.return_, 1) := by decide +kernel
set_option maxRecDepth 20000 in
theorem ok_148 : ∀ r ∈ tb_148, sm_ok 148 r := List.forall_mem_cons.mpr ⟨d_148_0, List.forall_mem_cons.mpr ⟨⟨d_148_1, ⟨mo_147, mi_147, se_147, pm_167⟩⟩, List.forall_mem_cons.mpr ⟨d_148_4, List.forall_mem_cons.mpr ⟨⟨d_148_6, (by decide)⟩, List.forall_mem_cons.mpr ⟨d_148_9, List.forall_mem_cons.mpr ⟨d_148_10, List.forall_mem_cons.mpr ⟨⟨d_148_11, Or.inl pf_250⟩, List.forall_mem_cons.mpr ⟨d_148_14, List.forall_mem_cons.mpr ⟨d_148_15, List.forall_mem_cons.mpr ⟨⟨d_148_16, pf_251⟩, List.forall_mem_cons.mpr ⟨d_148_19, List.forall_mem_cons.mpr ⟨d_148_20, List.forall_mem_cons.mpr ⟨⟨d_148_21, Or.inl pf_247⟩, List.forall_mem_cons.mpr ⟨d_148_24, List.forall_mem_cons.mpr ⟨d_148_25, List.forall_mem_cons.mpr ⟨⟨d_148_26, pf_252⟩, List.forall_mem_cons.mpr ⟨d_148_29, List.forall_mem_cons.mpr ⟨d_148_30, List.forall_mem_cons.mpr ⟨d_148_32, List.forall_mem_cons.mpr ⟨⟨d_148_33, ⟨mo_145, mi_145, se_145, pm_168⟩⟩, List.forall_mem_cons.mpr ⟨⟨d_148_36, (by decide)⟩, List.forall_mem_cons.mpr ⟨d_148_39, fun _ h => absurd h List.not_mem_nil⟩⟩⟩⟩⟩⟩⟩⟩⟩⟩⟩⟩⟩⟩⟩⟩⟩⟩⟩⟩⟩⟩
theorem d_149_0 : decode prog_12_method_19_code 0 = .ok (.aload_n 0, 1) := by decide +kernel
theorem d_149_1 : decode prog_12_method_19_code 1 = .ok (.iconst 0, 1) := by decide +kernel
theorem d_149_2 : decode prog_12_method_19_code 2 = .ok (.putfield 143, 3) := by decide +kernel
theorem d_149_5 : decode prog_12_method_19_code 5 = .ok (.aload_n 0, 1) := by decide +kernel
theorem d_149_6 : decode prog_12_method_19_code 6 = .ok (.bipush 40, 2) := by decide +kernel
theorem d_149_8 : decode prog_12_method_19_code 8 = .ok (.invokevirtual 115, 3) := by decide +kernel
theorem d_149_11 : decode prog_12_method_19_code 11 = .ok (.ifCond .ne 12, 3) := by decide +kernel
theorem d_149_14 : decode prog_12_method_19_code 14 = .ok (.aload_n 0, 1) := by decide +kernel
theorem d_149_15 : decode prog_12_method_19_code 15 = .ok (.bipush 45, 2) := by decide +kernel
theorem d_149_17 : decode prog_12_method_19_code 17 = .ok (.invokevirtual 115, 3) := by decide +kernel
theorem d_149_20 : decode prog_12_method_19_code 20 = .ok (.ifCond .eq 29, 3) := by decide +kernel
theorem d_149_23 : decode prog_12_method_19_code 23 = .ok (.aload_n 0, 1) := by decide +kernel
theorem d_149_24 : decode prog_12_method_19_code 24 = .ok (.aload_n 0, 1) := by decide +kernel
theorem d_149_25 : decode prog_12_method_19_code 25 = .ok (.bipush 40, 2) := by decide +kernel
theorem d_149_27 : decode prog_12_method_19_code 27 = .ok (.invokevirtual 115, 3) := by decide +kernel
theorem d_149_30 : decode prog_12_method_19_code 30 = .ok (.ifCond .eq 8, 3) := by decide +kernel
theorem d_149_33 : decode prog_12_method_19_code 33 = .ok (.bipush 16, 2) := by decide +kernel
theorem d_149_35 : decode prog_12_method_19_code 35 = .ok (.goto 5, 3) := by decide +kernel
theorem d_149_38 : decode prog_12_method_19_code 38 = .ok (.bipush 8, 2) := by decide +kernel
theorem d_149_40 : decode prog_12_method_19_code 40 = .ok (.invokevirtual 146, 3) := by decide +kernel
theorem d_149_43 : decode prog_12_method_19_code 43 = .ok (.aload_n 0, 1) := by decide +kernel
theorem d_149_44 : decode prog_12_method_19_code 44 = .ok (.iconst 1, 1) := by decide +kernel
theorem d_149_45 : decode prog_12_method_19_code 45 = .ok (.putfield 143, 3) := by decide +kernel
theorem d_149_48 : decode prog_12_method_19_code 48 = .ok (.return_, 1) := by decide +kernel
theorem d_149_49 : decode prog_12_method_19_code 49 = .ok (.aload_n 0, 1) := by decide +kernel
theorem d_149_50 : decode prog_12_method_19_code 50 = .ok (.getfield 13, 3) := by decide +kernel
theorem d_149_53 : decode prog_12_method_19_code 53 = .ok (.aload_n 0, 1) := by decide +kernel
theorem d_149_54 : decode prog_12_method_19_code 54 = .ok (.getfield 112, 3) := by decide +kernel
theorem d_149_57 : decode prog_12_method_19_code 57 = .ok (.iaload, 1) := by decide +kernel
theorem d_149_58 : decode prog_12_method_19_code 58 = .ok (.iconst 3, 1) := by decide +kernel
theorem d_149_59 : decode prog_12_method_19_code 59 = .ok (.if_icmp .ne 18, 3) := by decide +kernel
theorem d_149_62 : decode prog_12_method_19_code 62 = .ok (.aload_n 0, 1) := by decide +kernel
theorem d_149_63 : decode prog_12_method_19_code 63 = .ok (.iconst 3, 1) := by decide +kernel
theorem d_149_64 : decode prog_12_method_19_code 64 = .ok (.invokevirtual 119, 3) := by decide +kernel
theorem d_149_67 : decode prog_12_method_19_code 67 = .ok (.istore_n 1, 1) := by decide +kernel
theorem d_149_68 : decode prog_12_method_19_code 68 = .ok (.aload_n 0, 1) := by decide +kernel
theorem d_149_69 : decode prog_12_method_19_code 69 = .ok (.iconst 1, 1) := by decide +kernel
theorem d_149_70 : decode prog_12_method_19_code 70 = .ok (.iload_n 1, 1) := by decide +kernel
theorem d_149_71 : decode prog_12_method_19_code 71 = .ok (.invokevirtual 139, 3) := by decide +kernel
theorem d_149_74 : decode prog_12_method_19_code 74 = .ok (.goto 107, 3) := by decide +kernel
theorem d_149_77 : decode prog_12_method_19_code 77 = .ok (.aload_n 0, 1) := by decide +kernel
theorem d_149_78 : decode prog_12_method_19_code 78 = .ok (.getfield 13, 3) := by decide +kernel
theorem d_149_81 : decode prog_12_method_19_code 81 = .ok (.aload_n 0, 1) := by decide +kernel
theorem d_149_82 : decode prog_12_method_19_code 82 = .ok (.getfield 112, 3) := by decide +kernel
theorem d_149_85 : decode prog_12_method_19_code 85 = .ok (.iaload, 1) := by decide +kernel
theorem d_149_86 : decode prog_12_method_19_code 86 = .ok (.iconst 2, 1) := by decide +kernel
theorem d_149_87 : decode prog_12_method_19_code 87 = .ok (.if_icmp .ne 54, 3) := by decide +kernel
theorem d_149_90 : decode prog_12_method_19_code 90 = .ok (.aload_n 0, 1) := by decide +kernel
theorem d_149_91 : decode prog_12_method_19_code 91 = .ok (.iconst 2, 1) := by decide +kernel
theorem d_149_92 : decode prog_12_method_19_code 92 = .ok (.invokevirtual 119, 3) := by decide +kernel
theorem d_149_95 : decode prog_12_method_19_code 95 = .ok (.istore_n 1, 1) := by decide +kernel
theorem d_149_96 : decode prog_12_method_19_code 96 = .ok (.aload_n 0, 1) := by decide +kernel
theorem d_149_97 : decode prog_12_method_19_code 97 = .ok (.aload_n 0, 1) := by decide +kernel
theorem d_149_98 : decode prog_12_method_19_code 98 = .ok (.getfield 105, 3) := by decide +kernel
theorem d_149_101 : decode prog_12_method_19_code 101 = .ok (.ifCond .ne 12, 3) := by decide +kernel
theorem d_149_104 : decode prog_12_method_19_code 104 = .ok (.aload_n 0, 1) := by decide +kernel
theorem d_149_105 : decode prog_12_method_19_code 105 = .ok (.bipush 46, 2) := by decide +kernel
theorem d_149_107 : decode prog_12_method_19_code 107 = .ok (.invokevirtual 150, 3) := by decide +kernel
theorem d_149_110 : decode prog_12_method_19_code 110 = .ok (.ifCond .ne 7, 3) := by decide +kernel
theorem d_149_113 : decode prog_12_method_19_code 113 = .ok (.iconst 1, 1) := by decide +kernel
theorem d_149_114 : decode prog_12_method_19_code 114 = .ok (.goto 4, 3) := by decide +kernel
theorem d_149_117 : decode prog_12_method_19_code 117 = .ok (.iconst 0, 1) := by decide +kernel
theorem d_149_118 : decode prog_12_method_19_code 118 = .ok (.putfield 105, 3) := by decide +kernel
theorem d_149_121 : decode prog_12_method_19_code 121 = .ok (.aload_n 0, 1) := by decide +kernel
theorem d_149_122 : decode prog_12_method_19_code 122 = .ok (.invokevirtual 153, 3) := by decide +kernel
theorem d_149_125 : decode prog_12_method_19_code 125 = .ok (.istore_n 2, 1) := by decide +kernel
theorem d_149_126 : decode prog_12_method_19_code 126 = .ok (.aload_n 0, 1) := by decide +kernel
theorem d_149_127 : decode prog_12_method_19_code 127 = .ok (.iconst 3, 1) := by decide +kernel
theorem d_149_128 : decode prog_12_method_19_code 128 = .ok (.iconst 4, 1) := by decide +kernel
theorem d_149_129 : decode prog_12_method_19_code 129 = .ok (.iload_n 1, 1) := by decide +kernel
theorem d_149_130 : decode prog_12_method_19_code 130 = .ok (.imul, 1) := by decide +kernel
theorem d_149_131 : decode prog_12_method_19_code 131 = .ok (.iconst 4, 1) := by decide +kernel
theorem d_149_132 : decode prog_12_method_19_code 132 = .ok (.iadd, 1) := by decide +kernel
theorem d_149_133 : decode prog_12_method_19_code 133 = .ok (.iload_n 2, 1) := by decide +kernel
theorem d_149_134 : decode prog_12_method_19_code 134 = .ok (.iadd, 1) := by decide +kernel
theorem d_149_135 : decode prog_12_method_19_code 135 = .ok (.invokevirtual 139, 3) := by decide +kernel
theorem d_149_138 : decode prog_12_method_19_code 138 = .ok (.goto 43, 3) := by decide +kernel
theorem d_149_141 : decode prog_12_method_19_code 141 = .ok (.aload_n 0, 1) := by decide +kernel
theorem d_149_142 : decode prog_12_method_19_code 142 = .ok (.bipush 110, 2) := by decide +kernel
theorem d_149_144 : decode prog_12_method_19_code 144 = .ok (.bipush 117, 2) := by decide +kernel
theorem d_149_146 : decode prog_12_method_19_code 146 = .ok (.bipush 108, 2) := by decide +kernel
theorem d_149_148 : decode prog_12_method_19_code 148 = .ok (.bipush 108, 2) := by decide +kernel
theorem d_149_150 : decode prog_12_method_19_code 150 = .ok (.iconst 0, 1) := by decide +kernel
theorem d_149_151 : decode prog_12_method_19_code 151 = .ok (.iconst 0, 1) := by decide +kernel
theorem d_149_152 : decode prog_12_method_19_code 152 = .ok (.invokestatic 156, 3) := by decide +kernel
theorem d_149_155 : decode prog_12_method_19_code 155 = .ok (.invokevirtual 160, 3) := by decide +kernel
theorem d_149_158 : decode prog_12_method_19_code 158 = .ok (.ifCond .eq 12, 3) := by decide +kernel
theorem d_149_161 : decode prog_12_method_19_code 161 = .ok (.aload_n 0, 1) := by decide +kernel
theorem d_149_162 : decode prog_12_method_19_code 162 = .ok (.iconst 2, 1) := by decide +kernel
theorem d_149_163 : decode prog_12_method_19_code 163 = .ok (.iconst 0, 1) := by decide +kernel
theorem d_149_164 : decode prog_12_method_19_code 164 = .ok (.invokevirtual 139, 3) := by decide +kernel
theorem d_149_167 : decode prog_12_method_19_code 167 = .ok (.goto 14, 3) := by decide +kernel
theorem d_149_170 : decode prog_12_method_19_code 170 = .ok (.aload_n 0, 1) := by decide +kernel
theorem d_149_171 : decode prog_12_method_19_code 171 = .ok (.invokevirtual 153, 3) := by decide +kernel
theorem d_149_174 : decode prog_12_method_19_code 174 = .ok (.istore_n 1, 1) := by decide +kernel
theorem d_149_175 : decode prog_12_method_19_code 175 = .ok (.aload_n 0, 1) := by decide +kernel
theorem d_149_176 : decode prog_12_method_19_code 176 = .ok (.iconst 3, 1) := by decide +kernel
theorem d_149_177 : decode prog_12_method_19_code 177 = .ok (.iload_n 1, 1) := by decide +kernel
theorem d_149_178 : decode prog_12_method_19_code 178 = .ok (.invokevirtual 139, 3) := by decide +kernel
theorem d_149_181 : decode prog_12_method_19_code 181 = .ok (.aload_n 0, 1) := by decide +kernel
theorem d_149_182 : decode prog_12_method_19_code 182 = .ok (.invokevirtual 163, 3) := by decide +kernel
theorem d_149_185 : decode prog_12_method_19_code 185 = .ok (.return_, 1) := by decide +kernel
set_option maxRecDepth 20000 in
theorem ok_149 : ∀ r ∈ tb_149, sm_ok 149 r := List.forall_mem_cons.mpr ⟨d_149_0, List.forall_mem_cons.mpr ⟨d_149_1, List.forall_mem_cons.mpr ⟨⟨d_149_2, pf_253⟩, List.forall_mem_cons.mpr ⟨d_149_5, List.forall_mem_cons.mpr ⟨d_149_6, List.forall_mem_cons.mpr ⟨⟨d_149_8, ⟨mo_140, mi_140, se_140, pm_165⟩⟩, List.forall_mem_cons.mpr ⟨⟨d_149_11, (by decide)⟩, List.forall_mem_cons.mpr ⟨d_149_14, List.forall_mem_cons.mpr ⟨d_149_15, List.forall_mem_cons.mpr ⟨⟨d_149_17, ⟨mo_140, mi_140, se_140, pm_165⟩⟩, List.forall_mem_cons.mpr ⟨⟨d_149_20, (by decide)⟩, List.forall_mem_cons.mpr ⟨d_149_23, List.forall_mem_cons.mpr ⟨d_149_24, List.forall_mem_cons.mpr ⟨d_149_25, List.forall_mem_cons.mpr ⟨⟨d_149_27, ⟨mo_140, mi_140, se_140, pm_165⟩⟩, List.forall_mem_cons.mpr ⟨⟨d_149_30, (by decide)⟩, List.forall_mem_cons.mpr ⟨d_149_33, List.forall_mem_cons.mpr ⟨⟨d_149_35, (by decide)⟩, List.forall_mem_cons.mpr ⟨d_149_38, List.forall_mem_cons.mpr ⟨⟨d_149_40, ⟨mo_146, mi_146, se_146, pm_169⟩⟩, List.forall_mem_cons.mpr ⟨d_149_43, List.forall_mem_cons.mpr ⟨d_149_44, List.forall_mem_cons.mpr ⟨⟨d_149_45, pf_253⟩, List.forall_mem_cons.mpr ⟨d_149_48, List.forall_mem_cons.mpr ⟨d_149_49, List.forall_mem_cons.mpr ⟨⟨d_149_50, Or.inl pf_238⟩, List.forall_mem_cons.mpr ⟨d_149_53, List.forall_mem_cons.mpr ⟨⟨d_149_54, Or.inl pf_241⟩, List.forall_mem_cons.mpr ⟨d_149_57, List.forall_mem_cons.mpr ⟨d_149_58, List.forall_mem_cons.mpr ⟨⟨d_149_59, (by decide)⟩, List.forall_mem_cons.mpr ⟨d_149_62, List.forall_mem_cons.mpr ⟨d_149_63, List.forall_mem_cons.mpr ⟨⟨d_149_64, ⟨mo_143, mi_143, se_143, pm_166⟩⟩, List.forall_mem_cons.mpr ⟨d_149_67, List.forall_mem_cons.mpr ⟨d_149_68, List.forall_mem_cons.mpr ⟨d_149_69, List.forall_mem_cons.mpr ⟨d_149_70, List.forall_mem_cons.mpr ⟨⟨d_149_71, ⟨mo_145, mi_145, se_145, pm_168⟩⟩, List.forall_mem_cons.mpr ⟨⟨d_149_74, (by decide)⟩, List.forall_mem_cons.mpr ⟨d_149_77, List.forall_mem_cons.mpr ⟨⟨d_149_78, Or.inl pf_238⟩, List.forall_mem_cons.mpr ⟨d_149_81, List.forall_mem_cons.mpr ⟨⟨d_149_82, Or.inl pf_241⟩, List.forall_mem_cons.mpr ⟨d_149_85, List.forall_mem_cons.mpr ⟨d_149_86, List.forall_mem_cons.mpr ⟨⟨d_149_87, (by decide)⟩, List.forall_mem_cons.mpr ⟨d_149_90, List.forall_mem_cons.mpr ⟨d_149_91, List.forall_mem_cons.mpr ⟨⟨d_149_92, ⟨mo_143, mi_143, se_143, pm_166⟩⟩, List.forall_mem_cons.mpr ⟨d_149_95, List.forall_mem_cons.mpr ⟨d_149_96, List.forall_mem_cons.mpr ⟨d_149_97, List.forall_mem_cons.mpr ⟨⟨d_149_98, Or.inl pf_236⟩, List.forall_mem_cons.mpr ⟨⟨d_149_101, (by decide)⟩, List.forall_mem_cons.mpr ⟨d_149_104, List.forall_mem_cons.mpr ⟨d_149_105, List.forall_mem_cons.mpr ⟨⟨d_149_107, ⟨mo_141, mi_141, se_141, pm_170⟩⟩, List.forall_mem_cons.mpr ⟨⟨d_149_110, (by decide)⟩, List.forall_mem_cons.mpr ⟨d_149_113, List.forall_mem_cons.mpr ⟨⟨d_149_114, (by decide)⟩, List.forall_mem_cons.mpr ⟨d_149_117, List.forall_mem_cons.mpr ⟨⟨d_149_118, pf_237⟩, List.forall_mem_cons.mpr ⟨d_149_121, List.forall_mem_cons.mpr ⟨⟨d_149_122, ⟨mo_144, mi_144, se_144, pm_171⟩⟩, List.forall_mem_cons.mpr ⟨d_149_125, List.forall_mem_cons.mpr ⟨d_149_126, List.forall_mem_cons.mpr ⟨d_149_127, List.forall_mem_cons.mpr ⟨d_149_128, List.forall_mem_cons.mpr ⟨d_149_129, List.forall_mem_cons.mpr ⟨d_149_130, List.forall_mem_cons.mpr ⟨d_149_131, List.forall_mem_cons.mpr ⟨d_149_132, List.forall_mem_cons.mpr ⟨d_149_133, List.forall_mem_cons.mpr ⟨d_149_134, List.forall_mem_cons.mpr ⟨⟨d_149_135, ⟨mo_145, mi_145, se_145, pm_168⟩⟩, List.forall_mem_cons.mpr ⟨⟨d_149_138, (by decide)⟩, List.forall_mem_cons.mpr ⟨d_149_141, List.forall_mem_cons.mpr ⟨d_149_142, List.forall_mem_cons.mpr ⟨d_149_144, List.forall_mem_cons.mpr ⟨d_149_146, List.forall_mem_cons.mpr ⟨d_149_148, List.forall_mem_cons.mpr ⟨d_149_150, List.forall_mem_cons.mpr ⟨d_149_151, List.forall_mem_cons.mpr ⟨⟨d_149_152, (Or.inl ⟨Nat.le_of_ble_eq_true rfl, mo_139, ms_139, pm_172⟩)⟩, List.forall_mem_cons.mpr ⟨⟨d_149_155, ⟨mo_142, mi_142, se_142, pm_173⟩⟩, List.forall_mem_cons.mpr ⟨⟨d_149_158, (by decide)⟩, List.forall_mem_cons.mpr ⟨d_149_161, List.forall_mem_cons.mpr ⟨d_149_162, List.forall_mem_cons.mpr ⟨d_149_163, List.forall_mem_cons.mpr ⟨⟨d_149_164, ⟨mo_145, mi_145, se_145, pm_168⟩⟩, List.forall_mem_cons.mpr ⟨⟨d_149_167, (by decide)⟩, List.forall_mem_cons.mpr ⟨d_149_170, List.forall_mem_cons.mpr ⟨⟨d_149_171, ⟨mo_144, mi_144, se_144, pm_171⟩⟩, List.forall_mem_cons.mpr ⟨d_149_174, List.forall_mem_cons.mpr ⟨d_149_175, List.forall_mem_cons.mpr ⟨d_149_176, List.forall_mem_cons.mpr ⟨d_149_177, List.forall_mem_cons.mpr ⟨⟨d_149_178, ⟨mo_145, mi_145, se_145, pm_168⟩⟩, List.forall_mem_cons.mpr ⟨d_149_181, List.forall_mem_cons.mpr ⟨⟨d_149_182, ⟨mo_148, mi_148, se_148, pm_174⟩⟩, List.forall_mem_cons.mpr ⟨d_149_185, fun _ h => absurd h List.not_mem_nil⟩⟩⟩⟩⟩⟩⟩⟩⟩⟩⟩⟩⟩⟩⟩⟩⟩⟩⟩⟩⟩⟩⟩⟩⟩⟩⟩⟩⟩⟩⟩⟩⟩⟩⟩⟩⟩⟩⟩⟩⟩⟩⟩⟩⟩⟩⟩⟩⟩⟩⟩⟩⟩⟩⟩⟩⟩⟩⟩⟩⟩⟩⟩⟩⟩⟩⟩⟩⟩⟩⟩⟩⟩⟩⟩⟩⟩⟩⟩⟩⟩⟩⟩⟩⟩⟩⟩⟩⟩⟩⟩⟩⟩⟩⟩⟩⟩⟩⟩⟩⟩⟩
theorem d_150_0 : decode prog_12_method_20_code 0 = .ok (.aload_n 0, 1) := by decide +kernel
theorem d_150_1 : decode prog_12_method_20_code 1 = .ok (.bipush 43, 2) := by decide +kernel
theorem d_150_3 : decode prog_12_method_20_code 3 = .ok (.invokevirtual 115, 3) := by decide +kernel
theorem d_150_6 : decode prog_12_method_20_code 6 = .ok (.ifCond .eq 7, 3) := by decide +kernel
theorem d_150_9 : decode prog_12_method_20_code 9 = .ok (.iconst 4, 1) := by decide +kernel
theorem d_150_10 : decode prog_12_method_20_code 10 = .ok (.goto 45, 3) := by decide +kernel
theorem d_150_13 : decode prog_12_method_20_code 13 = .ok (.aload_n 0, 1) := by decide +kernel
theorem d_150_14 : decode prog_12_method_20_code 14 = .ok (.bipush 45, 2) := by decide +kernel
theorem d_150_16 : decode prog_12_method_20_code 16 = .ok (.invokevirtual 115, 3) := by decide +kernel
theorem d_150_19 : decode prog_12_method_20_code 19 = .ok (.ifCond .eq 7, 3) := by decide +kernel
theorem d_150_22 : decode prog_12_method_20_code 22 = .ok (.iconst 5, 1) := by decide +kernel
theorem d_150_23 : decode prog_12_method_20_code 23 = .ok (.goto 32, 3) := by decide +kernel
theorem d_150_26 : decode prog_12_method_20_code 26 = .ok (.aload_n 0, 1) := by decide +kernel
theorem d_150_27 : decode prog_12_method_20_code 27 = .ok (.bipush 42, 2) := by decide +kernel
theorem d_150_29 : decode prog_12_method_20_code 29 = .ok (.invokevirtual 115, 3) := by decide +kernel
theorem d_150_32 : decode prog_12_method_20_code 32 = .ok (.ifCond .eq 8, 3) := by decide +kernel
theorem d_150_35 : decode prog_12_method_20_code 35 = .ok (.bipush 6, 2) := by decide +kernel
theorem d_150_37 : decode prog_12_method_20_code 37 = .ok (.goto 18, 3) := by decide +kernel
theorem d_150_40 : decode prog_12_method_20_code 40 = .ok (.aload_n 0, 1) := by decide +kernel
theorem d_150_41 : decode prog_12_method_20_code 41 = .ok (.bipush 47, 2) := by decide +kernel
theorem d_150_43 : decode prog_12_method_20_code 43 = .ok (.invokevirtual 115, 3) := by decide +kernel
theorem d_150_46 : decode prog_12_method_20_code 46 = .ok (.ifCond .eq 8, 3) := by decide +kernel
theorem d_150_49 : decode prog_12_method_20_code 49 = .ok (.bipush 7, 2) := by decide +kernel
theorem d_150_51 : decode prog_12_method_20_code 51 = .ok (.goto 4, 3) := by decide +kernel
theorem d_150_54 : decode prog_12_method_20_code 54 = .ok (.iconst 0, 1) := by decide +kernel
theorem d_150_55 : decode prog_12_method_20_code 55 = .ok (.istore_n 1, 1) := by decide +kernel
theorem d_150_56 : decode prog_12_method_20_code 56 = .ok (.iload_n 1, 1) := by decide +kernel
theorem d_150_57 : decode prog_12_method_20_code 57 = .ok (.ifCond .le 106, 3) := by decide +kernel
theorem d_150_60 : decode prog_12_method_20_code 60 = .ok (.aload_n 0, 1) := by decide +kernel
theorem d_150_61 : decode prog_12_method_20_code 61 = .ok (.invokevirtual 135, 3) := by decide +kernel
theorem d_150_64 : decode prog_12_method_20_code 64 = .ok (.bipush 6, 2) := by decide +kernel
theorem d_150_66 : decode prog_12_method_20_code 66 = .ok (.if_icmp .eq 33, 3) := by decide +kernel
theorem d_150_69 : decode prog_12_method_20_code 69 = .ok (.aload_n 0, 1) := by decide +kernel
theorem d_150_70 : decode prog_12_method_20_code 70 = .ok (.invokevirtual 135, 3) := by decide +kernel
theorem d_150_73 : decode prog_12_method_20_code 73 = .ok (.bipush 7, 2) := by decide +kernel
theorem d_150_75 : decode prog_12_method_20_code 75 = .ok (.if_icmp .eq 24, 3) := by decide +kernel
theorem d_150_78 : decode prog_12_method_20_code 78 = .ok (.iload_n 1, 1) := by decide +kernel
theorem d_150_79 : decode prog_12_method_20_code 79 = .ok (.iconst 5, 1) := by decide +kernel
theorem d_150_80 : decode prog_12_method_20_code 80 = .ok (.if_icmp .gt 46, 3) := by decide +kernel
theorem d_150_83 : decode prog_12_method_20_code 83 = .ok (.aload_n 0, 1) := by decide +kernel
theorem d_150_84 : decode prog_12_method_20_code 84 = .ok (.invokevirtual 135, 3) := by decide +kernel
theorem d_150_87 : decode prog_12_method_20_code 87 = .ok (.iconst 4, 1) := by decide +kernel
theorem d_150_88 : decode prog_12_method_20_code 88 = .ok (.if_icmp .eq 11, 3) := by decide +kernel
theorem d_150_91 : decode prog_12_method_20_code 91 = .ok (.aload_n 0, 1) := by decide +kernel
theorem d_150_92 : decode prog_12_method_20_code 92 = .ok (.invokevirtual 135, 3) := by decide +kernel
theorem d_150_95 : decode prog_12_method_20_code 95 = .ok (.iconst 5, 1) := by decide +kernel
theorem d_150_96 : decode prog_12_method_20_code 96 = .ok (.if_icmp .ne 30, 3) := by decide +kernel
theorem d_150_99 : decode prog_12_method_20_code 99 = .ok (.aload_n 0, 1) := by decide +kernel
theorem d_150_100 : decode prog_12_method_20_code 100 = .ok (.dup, 1) := by decide +kernel
theorem d_150_101 : decode prog_12_method_20_code 101 = .ok (.getfield 132, 3) := by decide +kernel
theorem d_150_104 : decode prog_12_method_20_code 104 = .ok (.iconst 1, 1) := by decide +kernel
theorem d_150_105 : decode prog_12_method_20_code 105 = .ok (.isub, 1) := by decide +kernel
theorem d_150_106 : decode prog_12_method_20_code 106 = .ok (.putfield 132, 3) := by decide +kernel
theorem d_150_109 : decode prog_12_method_20_code 109 = .ok (.aload_n 0, 1) := by decide +kernel
theorem d_150_110 : decode prog_12_method_20_code 110 = .ok (.aload_n 0, 1) := by decide +kernel
theorem d_150_111 : decode prog_12_method_20_code 111 = .ok (.getfield 26, 3) := by decide +kernel
theorem d_150_114 : decode prog_12_method_20_code 114 = .ok (.aload_n 0, 1) := by decide +kernel
theorem d_150_115 : decode prog_12_method_20_code 115 = .ok (.getfield 132, 3) := by decide +kernel
theorem d_150_118 : decode prog_12_method_20_code 118 = .ok (.iaload, 1) := by decide +kernel
theorem d_150_119 : decode prog_12_method_20_code 119 = .ok (.iconst 0, 1) := by decide +kernel
theorem d_150_120 : decode prog_12_method_20_code 120 = .ok (.invokevirtual 139, 3) := by decide +kernel
theorem d_150_123 : decode prog_12_method_20_code 123 = .ok (.goto (-63), 3) := by decide +kernel
theorem d_150_126 : decode prog_12_method_20_code 126 = .ok (.aload_n 0, 1) := by decide +kernel
theorem d_150_127 : decode prog_12_method_20_code 127 = .ok (.getfield 26, 3) := by decide +kernel
theorem d_150_130 : decode prog_12_method_20_code 130 = .ok (.aload_n 0, 1) := by decide +kernel
theorem d_150_131 : decode prog_12_method_20_code 131 = .ok (.getfield 132, 3) := by decide +kernel
theorem d_150_134 : decode prog_12_method_20_code 134 = .ok (.iload_n 1, 1) := by decide +kernel
theorem d_150_135 : decode prog_12_method_20_code 135 = .ok (.iastore, 1) := by decide +kernel
theorem d_150_136 : decode prog_12_method_20_code 136 = .ok (.aload_n 0, 1) := by decide +kernel
theorem d_150_137 : decode prog_12_method_20_code 137 = .ok (.dup, 1) := by decide +kernel
theorem d_150_138 : decode prog_12_method_20_code 138 = .ok (.getfield 132, 3) := by decide +kernel
theorem d_150_141 : decode prog_12_method_20_code 141 = .ok (.iconst 1, 1) := by decide +kernel
theorem d_150_142 : decode prog_12_method_20_code 142 = .ok (.iadd, 1) := by decide +kernel
theorem d_150_143 : decode prog_12_method_20_code 143 = .ok (.putfield 132, 3) := by decide +kernel
theorem d_150_146 : decode prog_12_method_20_code 146 = .ok (.aload_n 0, 1) := by decide +kernel
theorem d_150_147 : decode prog_12_method_20_code 147 = .ok (.dup, 1) := by decide +kernel
theorem d_150_148 : decode prog_12_method_20_code 148 = .ok (.getfield 112, 3) := by decide +kernel
theorem d_150_151 : decode prog_12_method_20_code 151 = .ok (.iconst 1, 1) := by decide +kernel
theorem d_150_152 : decode prog_12_method_20_code 152 = .ok (.iadd, 1) := by decide +kernel
theorem d_150_153 : decode prog_12_method_20_code 153 = .ok (.putfield 112, 3) := by decide +kernel
theorem d_150_156 : decode prog_12_method_20_code 156 = .ok (.aload_n 0, 1) := by decide +kernel
theorem d_150_157 : decode prog_12_method_20_code 157 = .ok (.iconst 1, 1) := by decide +kernel
theorem d_150_158 : decode prog_12_method_20_code 158 = .ok (.putfield 143, 3) := by decide +kernel
theorem d_150_161 : decode prog_12_method_20_code 161 = .ok (.iconst 1, 1) := by decide +kernel
theorem d_150_162 : decode prog_12_method_20_code 162 = .ok (.ireturn, 1) := by decide +kernel
theorem d_150_163 : decode prog_12_method_20_code 163 = .ok (.iconst 0, 1) := by decide +kernel
theorem d_150_164 : decode prog_12_method_20_code 164 = .ok (.istore_n 2, 1) := by decide +kernel
theorem d_150_165 : decode prog_12_method_20_code 165 = .ok (.iconst 0, 1) := by decide +kernel
theorem d_150_166 : decode prog_12_method_20_code 166 = .ok (.istore_n 3, 1) := by decide +kernel
theorem d_150_167 : decode prog_12_method_20_code 167 = .ok (.iload_n 3, 1) := by decide +kernel
theorem d_150_168 : decode prog_12_method_20_code 168 = .ok (.aload_n 0, 1) := by decide +kernel
theorem d_150_169 : decode prog_12_method_20_code 169 = .ok (.getfield 132, 3) := by decide +kernel
theorem d_150_172 : decode prog_12_method_20_code 172 = .ok (.if_icmp .ge 30, 3) := by decide +kernel
theorem d_150_175 : decode prog_12_method_20_code 175 = .ok (.iload_n 2, 1) := by decide +kernel
theorem d_150_176 : decode prog_12_method_20_code 176 = .ok (.ifCond .ne 14, 3) := by decide +kernel
theorem d_150_179 : decode prog_12_method_20_code 179 = .ok (.aload_n 0, 1) := by decide +kernel
theorem d_150_180 : decode prog_12_method_20_code 180 = .ok (.getfield 26, 3) := by decide +kernel
theorem d_150_183 : decode prog_12_method_20_code 183 = .ok (.iload_n 3, 1) := by decide +kernel
theorem d_150_184 : decode prog_12_method_20_code 184 = .ok (.iaload, 1) := by decide +kernel
theorem d_150_185 : decode prog_12_method_20_code 185 = .ok (.bipush 16, 2) := by decide +kernel
theorem d_150_187 : decode prog_12_method_20_code 187 = .ok (.if_icmp .ne 7, 3) := by decide +kernel
theorem d_150_190 : decode prog_12_method_20_code 190 = .ok (.iconst 1, 1) := by decide +kernel
theorem d_150_191 : decode prog_12_method_20_code 191 = .ok (.goto 4, 3) := by decide +kernel
theorem d_150_194 : decode prog_12_method_20_code 194 = .ok (.iconst 0, 1) := by decide +kernel
theorem d_150_195 : decode prog_12_method_20_code 195 = .ok (.istore_n 2, 1) := by decide +kernel
theorem d_150_196 : decode prog_12_method_20_code 196 = .ok (.iinc 3 1, 3) := by decide +kernel
theorem d_150_199 : decode prog_12_method_20_code 199 = .ok (.goto (-32), 3) := by decide +kernel
theorem d_150_202 : decode prog_12_method_20_code 202 = .ok (.iload_n 2, 1) := by decide +kernel
theorem d_150_203 : decode prog_12_method_20_code 203 = .ok (.ifCond .eq 12, 3) := by decide +kernel
theorem d_150_206 : decode prog_12_method_20_code 206 = .ok (.aload_n 0, 1) := by decide +kernel
theorem d_150_207 : decode prog_12_method_20_code 207 = .ok (.bipush 41, 2) := by decide +kernel
theorem d_150_209 : decode prog_12_method_20_code 209 = .ok (.invokevirtual 115, 3) := by decide +kernel
theorem d_150_212 : decode prog_12_method_20_code 212 = .ok (.ifCond .ne 5, 3) := by decide +kernel
theorem d_150_215 : decode prog_12_method_20_code 215 = .ok (.iconst 0, 1) := by decide +kernel
theorem d_150_216 : decode prog_12_method_20_code 216 = .ok (.ireturn, 1) := by decide +kernel
theorem d_150_217 : decode prog_12_method_20_code 217 = .ok (.aload_n 0, 1) := by decide +kernel
theorem d_150_218 : decode prog_12_method_20_code 218 = .ok (.dup, 1) := by decide +kernel
theorem d_150_219 : decode prog_12_method_20_code 219 = .ok (.getfield 112, 3) := by decide +kernel
theorem d_150_222 : decode prog_12_method_20_code 222 = .ok (.iconst 1, 1) := by decide +kernel
theorem d_150_223 : decode prog_12_method_20_code 223 = .ok (.iadd, 1) := by decide +kernel
theorem d_150_224 : decode prog_12_method_20_code 224 = .ok (.putfield 112, 3) := by decide +kernel
theorem d_150_227 : decode prog_12_method_20_code 227 = .ok (.aload_n 0, 1) := by decide +kernel
theorem d_150_228 : decode prog_12_method_20_code 228 = .ok (.invokevirtual 135, 3) := by decide +kernel
theorem d_150_231 : decode prog_12_method_20_code 231 = .ok (.bipush 16, 2) := by decide +kernel
theorem d_150_233 : decode prog_12_method_20_code 233 = .ok (.if_icmp .eq 30, 3) := by decide +kernel
theorem d_150_236 : decode prog_12_method_20_code 236 = .ok (.aload_n 0, 1) := by decide +kernel
theorem d_150_237 : decode prog_12_method_20_code 237 = .ok (.dup, 1) := by decide +kernel
theorem d_150_238 : decode prog_12_method_20_code 238 = .ok (.getfield 132, 3) := by decide +kernel
theorem d_150_241 : decode prog_12_method_20_code 241 = .ok (.iconst 1, 1) := by decide +kernel
theorem d_150_242 : decode prog_12_method_20_code 242 = .ok (.isub, 1) := by decide +kernel
theorem d_150_243 : decode prog_12_method_20_code 243 = .ok (.putfield 132, 3) := by decide +kernel
theorem d_150_246 : decode prog_12_method_20_code 246 = .ok (.aload_n 0, 1) := by decide +kernel
theorem d_150_247 : decode prog_12_method_20_code 247 = .ok (.aload_n 0, 1) := by decide +kernel
theorem d_150_248 : decode prog_12_method_20_code 248 = .ok (.getfield 26, 3) := by decide +kernel
theorem d_150_251 : decode prog_12_method_20_code 251 = .ok (.aload_n 0, 1) := by decide +kernel
theorem d_150_252 : decode prog_12_method_20_code 252 = .ok (.getfield 132, 3) := by decide +kernel
theorem d_150_255 : decode prog_12_method_20_code 255 = .ok (.iaload, 1) := by decide +kernel
theorem d_150_256 : decode prog_12_method_20_code 256 = .ok (.iconst 0, 1) := by decide +kernel
theorem d_150_257 : decode prog_12_method_20_code 257 = .ok (.invokevirtual 139, 3) := by decide +kernel
theorem d_150_260 : decode prog_12_method_20_code 260 = .ok (.goto (-33), 3) := by decide +kernel
theorem d_150_263 : decode prog_12_method_20_code 263 = .ok (.aload_n 0, 1) := by decide +kernel
theorem d_150_264 : decode prog_12_method_20_code 264 = .ok (.dup, 1) := by decide +kernel
theorem d_150_265 : decode prog_12_method_20_code 265 = .ok (.getfield 132, 3) := by decide +kernel
theorem d_150_268 : decode prog_12_method_20_code 268 = .ok (.iconst 1, 1) := by decide +kernel
theorem d_150_269 : decode prog_12_method_20_code 269 = .ok (.isub, 1) := by decide +kernel
theorem d_150_270 : decode prog_12_method_20_code 270 = .ok (.putfield 132, 3) := by decide +kernel
theorem d_150_273 : decode prog_12_method_20_code 273 = .ok (.aload_n 0, 1) := by decide +kernel
theorem d_150_274 : decode prog_12_method_20_code 274 = .ok (.dup, 1) := by decide +kernel
theorem d_150_275 : decode prog_12_method_20_code 275 = .ok (.getfield 126, 3) := by decide +kernel
theorem d_150_278 : decode prog_12_method_20_code 278 = .ok (.iconst 1, 1) := by decide +kernel
theorem d_150_279 : decode prog_12_method_20_code 279 = .ok (.isub, 1) := by decide +kernel
theorem d_150_280 : decode prog_12_method_20_code 280 = .ok (.putfield 126, 3) := by decide +kernel
theorem d_150_283 : decode prog_12_method_20_code 283 = .ok (.aload_n 0, 1) := by decide +kernel
theorem d_150_284 : decode prog_12_method_20_code 284 = .ok (.invokevirtual 163, 3) := by decide +kernel
theorem d_150_287 : decode prog_12_method_20_code 287 = .ok (.iconst 1, 1) := by decide +kernel
theorem d_150_288 : decode prog_12_method_20_code 288 = .ok (.ireturn, 1) := by decide +kernel
set_option maxRecDepth 20000 in
theorem ok_150 : ∀ r ∈ tb_150, sm_ok 150 r := List.forall_mem_cons.mpr ⟨d_150_0, List.forall_mem_cons.mpr ⟨d_150_1, List.forall_mem_cons.mpr ⟨⟨d_150_3, ⟨mo_140, mi_140, se_140, pm_165⟩⟩, List.forall_mem_cons.mpr ⟨⟨d_150_6, (by decide)⟩, List.forall_mem_cons.mpr ⟨d_150_9, List.forall_mem_cons.mpr ⟨⟨d_150_10, (by decide)⟩, List.forall_mem_cons.mpr ⟨d_150_13, List.forall_mem_cons.mpr ⟨d_150_14, List.forall_mem_cons.mpr ⟨⟨d_150_16, ⟨mo_140, mi_140, se_140, pm_165⟩⟩, List.forall_mem_cons.mpr ⟨⟨d_150_19, (by decide)⟩, List.forall_mem_cons.mpr ⟨d_150_22, List.forall_mem_cons.mpr ⟨⟨d_150_23, (by decide)⟩, List.forall_mem_cons.mpr ⟨d_150_26, List.forall_mem_cons.mpr ⟨d_150_27, List.forall_mem_cons.mpr ⟨⟨d_150_29, ⟨mo_140, mi_140, se_140, pm_165⟩⟩, List.forall_mem_cons.mpr ⟨⟨d_150_32, (by decide)⟩, List.forall_mem_cons.mpr ⟨d_150_35, List.forall_mem_cons.mpr ⟨⟨d_150_37, (by decide)⟩, List.forall_mem_cons.mpr ⟨d_150_40, List.forall_mem_cons.mpr ⟨d_150_41, List.forall_mem_cons.mpr ⟨⟨d_150_43, ⟨mo_140, mi_140, se_140, pm_165⟩⟩, List.forall_mem_cons.mpr ⟨⟨d_150_46, (by decide)⟩, List.forall_mem_cons.mpr ⟨d_150_49, List.forall_mem_cons.mpr ⟨⟨d_150_51, (by decide)⟩, List.forall_mem_cons.mpr ⟨d_150_54, List.forall_mem_cons.mpr ⟨d_150_55, List.forall_mem_cons.mpr ⟨d_150_56, List.forall_mem_cons.mpr ⟨⟨d_150_57, (by decide)⟩, List.forall_mem_cons.mpr ⟨d_150_60, List.forall_mem_cons.mpr ⟨⟨d_150_61, ⟨mo_147, mi_147, se_147, pm_167⟩⟩, List.forall_mem_cons.mpr ⟨d_150_64, List.forall_mem_cons.mpr ⟨⟨d_150_66, (by decide)⟩, List.forall_mem_cons.mpr ⟨d_150_69, List.forall_mem_cons.mpr ⟨⟨d_150_70, ⟨mo_147, mi_147, se_147, pm_167⟩⟩, List.forall_mem_cons.mpr ⟨d_150_73, List.forall_mem_cons.mpr ⟨⟨d_150_75, (by decide)⟩, List.forall_mem_cons.mpr ⟨d_150_78, List.forall_mem_cons.mpr ⟨d_150_79, List.forall_mem_cons.mpr ⟨⟨d_150_80, (by decide)⟩, List.forall_mem_cons.mpr ⟨d_150_83, List.forall_mem_cons.mpr ⟨⟨d_150_84, ⟨mo_147, mi_147, se_147, pm_167⟩⟩, List.forall_mem_cons.mpr ⟨d_150_87, List.forall_mem_cons.mpr ⟨⟨d_150_88, (by decide)⟩, List.forall_mem_cons.mpr ⟨d_150_91, List.forall_mem_cons.mpr ⟨⟨d_150_92, ⟨mo_147, mi_147, se_147, pm_167⟩⟩, List.forall_mem_cons.mpr ⟨d_150_95, List.forall_mem_cons.mpr ⟨⟨d_150_96, (by decide)⟩, List.forall_mem_cons.mpr ⟨d_150_99, List.forall_mem_cons.mpr ⟨d_150_100, List.forall_mem_cons.mpr ⟨⟨d_150_101, Or.inl pf_250⟩, List.forall_mem_cons.mpr ⟨d_150_104, List.forall_mem_cons.mpr ⟨d_150_105, List.forall_mem_cons.mpr ⟨⟨d_150_106, pf_251⟩, List.forall_mem_cons.mpr ⟨d_150_109, List.forall_mem_cons.mpr ⟨d_150_110, List.forall_mem_cons.mpr ⟨⟨d_150_111, Or.inl pf_249⟩, List.forall_mem_cons.mpr ⟨d_150_114, List.forall_mem_cons.mpr ⟨⟨d_150_115, Or.inl pf_250⟩, List.forall_mem_cons.mpr ⟨d_150_118, List.forall_mem_cons.mpr ⟨d_150_119, List.forall_mem_cons.mpr ⟨⟨d_150_120, ⟨mo_145, mi_145, se_145, pm_168⟩⟩, List.forall_mem_cons.mpr ⟨⟨d_150_123, (by decide)⟩, List.forall_mem_cons.mpr ⟨d_150_126, List.forall_mem_cons.mpr ⟨⟨d_150_127, Or.inl pf_249⟩, List.forall_mem_cons.mpr ⟨d_150_130, List.forall_mem_cons.mpr ⟨⟨d_150_131, Or.inl pf_250⟩, List.forall_mem_cons.mpr ⟨d_150_134, List.forall_mem_cons.mpr ⟨d_150_135, List.forall_mem_cons.mpr ⟨d_150_136, List.forall_mem_cons.mpr ⟨d_150_137, List.forall_mem_cons.mpr ⟨⟨d_150_138, Or.inl pf_250⟩, List.forall_mem_cons.mpr ⟨d_150_141, List.forall_mem_cons.mpr ⟨d_150_142, List.forall_mem_cons.mpr ⟨⟨d_150_143, pf_251⟩, List.forall_mem_cons.mpr ⟨d_150_146, List.forall_mem_cons.mpr ⟨d_150_147, List.forall_mem_cons.mpr ⟨⟨d_150_148, Or.inl pf_241⟩, List.forall_mem_cons.mpr ⟨d_150_151, List.forall_mem_cons.mpr ⟨d_150_152, List.forall_mem_cons.mpr ⟨⟨d_150_153, pf_242⟩, List.forall_mem_cons.mpr ⟨d_150_156, List.forall_mem_cons.mpr ⟨d_150_157, List.forall_mem_cons.mpr ⟨⟨d_150_158, pf_253⟩, List.forall_mem_cons.mpr ⟨d_150_161, List.forall_mem_cons.mpr ⟨d_150_162, List.forall_mem_cons.mpr ⟨d_150_163, List.forall_mem_cons.mpr ⟨d_150_164, List.forall_mem_cons.mpr ⟨d_150_165, List.forall_mem_cons.mpr ⟨d_150_166, List.forall_mem_cons.mpr ⟨d_150_167, List.forall_mem_cons.mpr ⟨d_150_168, List.forall_mem_cons.mpr ⟨⟨d_150_169, Or.inl pf_250⟩, List.forall_mem_cons.mpr ⟨⟨d_150_172, (by decide)⟩, List.forall_mem_cons.mpr ⟨d_150_175, List.forall_mem_cons.mpr ⟨⟨d_150_176, (by decide)⟩, List.forall_mem_cons.mpr ⟨d_150_179, List.forall_mem_cons.mpr ⟨⟨d_150_180, Or.inl pf_249⟩, List.forall_mem_cons.mpr ⟨d_150_183, List.forall_mem_cons.mpr ⟨d_150_184, List.forall_mem_cons.mpr ⟨d_150_185, List.forall_mem_cons.mpr ⟨⟨d_150_187, (by decide)⟩, List.forall_mem_cons.mpr ⟨d_150_190, List.forall_mem_cons.mpr ⟨⟨d_150_191, (by decide)⟩, List.forall_mem_cons.mpr ⟨d_150_194, List.forall_mem_cons.mpr ⟨d_150_195, List.forall_mem_cons.mpr ⟨d_150_196, List.forall_mem_cons.mpr ⟨⟨d_150_199, (by decide)⟩, List.forall_mem_cons.mpr ⟨d_150_202, List.forall_mem_cons.mpr ⟨⟨d_150_203, (by decide)⟩, List.forall_mem_cons.mpr ⟨d_150_206, List.forall_mem_cons.mpr ⟨d_150_207, List.forall_mem_cons.mpr ⟨⟨d_150_209, ⟨mo_140, mi_140, se_140, pm_165⟩⟩, List.forall_mem_cons.mpr ⟨⟨d_150_212, (by decide)⟩, List.forall_mem_cons.mpr ⟨d_150_215, List.forall_mem_cons.mpr ⟨d_150_216, List.forall_mem_cons.mpr ⟨d_150_217, List.forall_mem_cons.mpr ⟨d_150_218, List.forall_mem_cons.mpr ⟨⟨d_150_219, Or.inl pf_241⟩, List.forall_mem_cons.mpr ⟨d_150_222, List.forall_mem_cons.mpr ⟨d_150_223, List.forall_mem_cons.mpr ⟨⟨d_150_224, pf_242⟩, List.forall_mem_cons.mpr ⟨d_150_227, List.forall_mem_cons.mpr ⟨⟨d_150_228, ⟨mo_147, mi_147, se_147, pm_167⟩⟩, List.forall_mem_cons.mpr ⟨d_150_231, List.forall_mem_cons.mpr ⟨⟨d_150_233, (by decide)⟩, List.forall_mem_cons.mpr ⟨d_150_236, List.forall_mem_cons.mpr ⟨d_150_237, List.forall_mem_cons.mpr ⟨⟨d_150_238, Or.inl pf_250⟩, List.forall_mem_cons.mpr ⟨d_150_241, List.forall_mem_cons.mpr ⟨d_150_242, List.forall_mem_cons.mpr ⟨⟨d_150_243, pf_251⟩, List.forall_mem_cons.mpr ⟨d_150_246, List.forall_mem_cons.mpr ⟨d_150_247, List.forall_mem_cons.mpr ⟨⟨d_150_248, Or.inl pf_249⟩, List.forall_mem_cons.mpr ⟨d_150_251, List.forall_mem_cons.mpr ⟨⟨d_150_252, Or.inl pf_250⟩, List.forall_mem_cons.mpr ⟨d_150_255, List.forall_mem_cons.mpr ⟨d_150_256, List.forall_mem_cons.mpr ⟨⟨d_150_257, ⟨mo_145, mi_145, se_145, pm_168⟩⟩, List.forall_mem_cons.mpr ⟨⟨d_150_260, (by decide)⟩, List.forall_mem_cons.mpr ⟨d_150_263, List.forall_mem_cons.mpr ⟨d_150_264, List.forall_mem_cons.mpr ⟨⟨d_150_265, Or.inl pf_250⟩, List.forall_mem_cons.mpr ⟨d_150_268, List.forall_mem_cons.mpr ⟨d_150_269, List.forall_mem_cons.mpr ⟨⟨d_150_270, pf_251⟩, List.forall_mem_cons.mpr ⟨d_150_273, List.forall_mem_cons.mpr ⟨d_150_274, List.forall_mem_cons.mpr ⟨⟨d_150_275, Or.inl pf_247⟩, List.forall_mem_cons.mpr ⟨d_150_278, List.forall_mem_cons.mpr ⟨d_150_279, List.forall_mem_cons.mpr ⟨⟨d_150_280, pf_252⟩, List.forall_mem_cons.mpr ⟨d_150_283, List.forall_mem_cons.mpr ⟨⟨d_150_284, ⟨mo_148, mi_148, se_148, pm_174⟩⟩, List.forall_mem_cons.mpr ⟨d_150_287, List.forall_mem_cons.mpr ⟨d_150_288, fun _ h => absurd h List.not_mem_nil⟩⟩⟩⟩⟩⟩⟩⟩⟩⟩⟩⟩⟩⟩⟩⟩⟩⟩⟩⟩⟩⟩⟩⟩⟩⟩⟩⟩⟩⟩⟩⟩⟩⟩⟩⟩⟩⟩⟩⟩⟩⟩⟩⟩⟩⟩⟩⟩⟩⟩⟩⟩⟩⟩⟩⟩⟩⟩⟩⟩⟩⟩⟩⟩⟩⟩⟩⟩⟩⟩⟩⟩⟩⟩⟩⟩⟩⟩⟩⟩⟩⟩⟩⟩⟩⟩⟩⟩⟩⟩⟩⟩⟩⟩⟩⟩⟩⟩⟩⟩⟩⟩⟩⟩⟩⟩⟩⟩⟩⟩⟩⟩⟩⟩⟩⟩⟩⟩⟩⟩⟩⟩⟩⟩⟩⟩⟩⟩⟩⟩⟩⟩⟩⟩⟩⟩⟩⟩⟩⟩⟩⟩⟩⟩⟩⟩⟩⟩⟩⟩⟩⟩⟩⟩⟩⟩
theorem d_151_0 : decode prog_12_method_21_code 0 = .ok (.aload_n 0, 1) := by decide +kernel
theorem d_151_1 : decode prog_12_method_21_code 1 = .ok (.iconst 0, 1) := by decide +kernel
theorem d_151_2 : decode prog_12_method_21_code 2 = .ok (.putfield 132, 3) := by decide +kernel
theorem d_151_5 : decode prog_12_method_21_code 5 = .ok (.aload_n 0, 1) := by decide +kernel
theorem d_151_6 : decode prog_12_method_21_code 6 = .ok (.iconst 0, 1) := by decide +kernel
theorem d_151_7 : decode prog_12_method_21_code 7 = .ok (.putfield 126, 3) := by decide +kernel
theorem d_151_10 : decode prog_12_method_21_code 10 = .ok (.aload_n 0, 1) := by decide +kernel
theorem d_151_11 : decode prog_12_method_21_code 11 = .ok (.iconst 1, 1) := by decide +kernel
theorem d_151_12 : decode prog_12_method_21_code 12 = .ok (.putfield 143, 3) := by decide +kernel
theorem d_151_15 : decode prog_12_method_21_code 15 = .ok (.iconst 1, 1) := by decide +kernel
theorem d_151_16 : decode prog_12_method_21_code 16 = .ok (.istore_n 1, 1) := by decide +kernel
theorem d_151_17 : decode prog_12_method_21_code 17 = .ok (.iload_n 1, 1) := by decide +kernel
theorem d_151_18 : decode prog_12_method_21_code 18 = .ok (.ifCond .eq 32, 3) := by decide +kernel
theorem d_151_21 : decode prog_12_method_21_code 21 = .ok (.aload_n 0, 1) := by decide +kernel
theorem d_151_22 : decode prog_12_method_21_code 22 = .ok (.getfield 105, 3) := by decide +kernel
theorem d_151_25 : decode prog_12_method_21_code 25 = .ok (.ifCond .ne 25, 3) := by decide +kernel
theorem d_151_28 : decode prog_12_method_21_code 28 = .ok (.aload_n 0, 1) := by decide +kernel
theorem d_151_29 : decode prog_12_method_21_code 29 = .ok (.getfield 143, 3) := by decide +kernel
theorem d_151_32 : decode prog_12_method_21_code 32 = .ok (.ifCond .eq 10, 3) := by decide +kernel
theorem d_151_35 : decode prog_12_method_21_code 35 = .ok (.aload_n 0, 1) := by decide +kernel
theorem d_151_36 : decode prog_12_method_21_code 36 = .ok (.invokevirtual 166, 3) := by decide +kernel
theorem d_151_39 : decode prog_12_method_21_code 39 = .ok (.goto (-22), 3) := by decide +kernel
theorem d_151_42 : decode prog_12_method_21_code 42 = .ok (.aload_n 0, 1) := by decide +kernel
theorem d_151_43 : decode prog_12_method_21_code 43 = .ok (.invokevirtual 169, 3) := by decide +kernel
theorem d_151_46 : decode prog_12_method_21_code 46 = .ok (.istore_n 1, 1) := by decide +kernel
theorem d_151_47 : decode prog_12_method_21_code 47 = .ok (.goto (-30), 3) := by decide +kernel
theorem d_151_50 : decode prog_12_method_21_code 50 = .ok (.aload_n 0, 1) := by decide +kernel
theorem d_151_51 : decode prog_12_method_21_code 51 = .ok (.getfield 132, 3) := by decide +kernel
theorem d_151_54 : decode prog_12_method_21_code 54 = .ok (.ifCond .le 60, 3) := by decide +kernel
theorem d_151_57 : decode prog_12_method_21_code 57 = .ok (.aload_n 0, 1) := by decide +kernel
theorem d_151_58 : decode prog_12_method_21_code 58 = .ok (.dup, 1) := by decide +kernel
theorem d_151_59 : decode prog_12_method_21_code 59 = .ok (.getfield 132, 3) := by decide +kernel
theorem d_151_62 : decode prog_12_method_21_code 62 = .ok (.iconst 1, 1) := by decide +kernel
theorem d_151_63 : decode prog_12_method_21_code 63 = .ok (.isub, 1) := by decide +kernel
theorem d_151_64 : decode prog_12_method_21_code 64 = .ok (.putfield 132, 3) := by decide +kernel
theorem d_151_67 : decode prog_12_method_21_code 67 = .ok (.aload_n 0, 1) := by decide +kernel
theorem d_151_68 : decode prog_12_method_21_code 68 = .ok (.aload_n 0, 1) := by decide +kernel
theorem d_151_69 : decode prog_12_method_21_code 69 = .ok (.getfield 105, 3) := by decide +kernel
theorem d_151_72 : decode prog_12_method_21_code 72 = .ok (.ifCond .ne 17, 3) := by decide +kernel
theorem d_151_75 : decode prog_12_method_21_code 75 = .ok (.aload_n 0, 1) := by decide +kernel
theorem d_151_76 : decode prog_12_method_21_code 76 = .ok (.getfield 26, 3) := by decide +kernel
theorem d_151_79 : decode prog_12_method_21_code 79 = .ok (.aload_n 0, 1) := by decide +kernel
theorem d_151_80 : decode prog_12_method_21_code 80 = .ok (.getfield 132, 3) := by decide +kernel
theorem d_151_83 : decode prog_12_method_21_code 83 = .ok (.iaload, 1) := by decide +kernel
theorem d_151_84 : decode prog_12_method_21_code 84 = .ok (.bipush 16, 2) := by decide +kernel
theorem d_151_86 : decode prog_12_method_21_code 86 = .ok (.if_icmp .ne 7, 3) := by decide +kernel
theorem d_151_89 : decode prog_12_method_21_code 89 = .ok (.iconst 1, 1) := by decide +kernel
theorem d_151_90 : decode prog_12_method_21_code 90 = .ok (.goto 4, 3) := by decide +kernel
theorem d_151_93 : decode prog_12_method_21_code 93 = .ok (.iconst 0, 1) := by decide +kernel
theorem d_151_94 : decode prog_12_method_21_code 94 = .ok (.putfield 105, 3) := by decide +kernel
theorem d_151_97 : decode prog_12_method_21_code 97 = .ok (.aload_n 0, 1) := by decide +kernel
theorem d_151_98 : decode prog_12_method_21_code 98 = .ok (.aload_n 0, 1) := by decide +kernel
theorem d_151_99 : decode prog_12_method_21_code 99 = .ok (.getfield 26, 3) := by decide +kernel
theorem d_151_102 : decode prog_12_method_21_code 102 = .ok (.aload_n 0, 1) := by decide +kernel
theorem d_151_103 : decode prog_12_method_21_code 103 = .ok (.getfield 132, 3) := by decide +kernel
theorem d_151_106 : decode prog_12_method_21_code 106 = .ok (.iaload, 1) := by decide +kernel
theorem d_151_107 : decode prog_12_method_21_code 107 = .ok (.iconst 0, 1) := by decide +kernel
theorem d_151_108 : decode prog_12_method_21_code 108 = .ok (.invokevirtual 139, 3) := by decide +kernel
theorem d_151_111 : decode prog_12_method_21_code 111 = .ok (.goto (-61), 3) := by decide +kernel
theorem d_151_114 : decode prog_12_method_21_code 114 = .ok (.return_, 1) := by decide +kernel
set_option maxRecDepth 20000 in
theorem ok_151 : ∀ r ∈ tb_151, sm_ok 151 r := List.forall_mem_cons.mpr ⟨d_151_0, List.forall_mem_cons.mpr ⟨d_151_1, List.forall_mem_cons.mpr ⟨⟨d_151_2, pf_251⟩, List.forall_mem_cons.mpr ⟨d_151_5, List.forall_mem_cons.mpr ⟨d_151_6, List.forall_mem_cons.mpr ⟨⟨d_151_7, pf_252⟩, List.forall_mem_cons.mpr ⟨d_151_10, List.forall_mem_cons.mpr ⟨d_151_11, List.forall_mem_cons.mpr ⟨⟨d_151_12, pf_253⟩, List.forall_mem_cons.mpr ⟨d_151_15, List.forall_mem_cons.mpr ⟨d_151_16, List.forall_mem_cons.mpr ⟨d_151_17, List.forall_mem_cons.mpr ⟨⟨d_151_18, (by decide)⟩, List.forall_mem_cons.mpr ⟨d_151_21, List.forall_mem_cons.mpr ⟨⟨d_151_22, Or.inl pf_236⟩, List.forall_mem_cons.mpr ⟨⟨d_151_25, (by decide)⟩, List.forall_mem_cons.mpr ⟨d_151_28, List.forall_mem_cons.mpr ⟨⟨d_151_29, Or.inl pf_254⟩, List.forall_mem_cons.mpr ⟨⟨d_151_32, (by decide)⟩, List.forall_mem_cons.mpr ⟨d_151_35, List.forall_mem_cons.mpr ⟨⟨d_151_36, ⟨mo_149, mi_149, se_149, pm_175⟩⟩, List.forall_mem_cons.mpr ⟨⟨d_151_39, (by decide)⟩, List.forall_mem_cons.mpr ⟨d_151_42, List.forall_mem_cons.mpr ⟨⟨d_151_43, ⟨mo_150, mi_150, se_150, pm_176⟩⟩, List.forall_mem_cons.mpr ⟨d_151_46, List.forall_mem_cons.mpr ⟨⟨d_151_47, (by decide)⟩, List.forall_mem_cons.mpr ⟨d_151_50, List.forall_mem_cons.mpr ⟨⟨d_151_51, Or.inl pf_250⟩, List.forall_mem_cons.mpr ⟨⟨d_151_54, (by decide)⟩, List.forall_mem_cons.mpr ⟨d_151_57, List.forall_mem_cons.mpr ⟨d_151_58, List.forall_mem_cons.mpr ⟨⟨d_151_59, Or.inl pf_250⟩, List.forall_mem_cons.mpr ⟨d_151_62, List.forall_mem_cons.mpr ⟨d_151_63, List.forall_mem_cons.mpr ⟨⟨d_151_64, pf_251⟩, List.forall_mem_cons.mpr ⟨d_151_67, List.forall_mem_cons.mpr ⟨d_151_68, List.forall_mem_cons.mpr ⟨⟨d_151_69, Or.inl pf_236⟩, List.forall_mem_cons.mpr ⟨⟨d_151_72, (by decide)⟩, List.forall_mem_cons.mpr ⟨d_151_75, List.forall_mem_cons.mpr ⟨⟨d_151_76, Or.inl pf_249⟩, List.forall_mem_cons.mpr ⟨d_151_79, List.forall_mem_cons.mpr ⟨⟨d_151_80, Or.inl pf_250⟩, List.forall_mem_cons.mpr ⟨d_151_83, List.forall_mem_cons.mpr ⟨d_151_84, List.forall_mem_cons.mpr ⟨⟨d_151_86, (by decide)⟩, List.forall_mem_cons.mpr ⟨d_151_89, List.forall_mem_cons.mpr ⟨⟨d_151_90, (by decide)⟩, List.forall_mem_cons.mpr ⟨d_151_93, List.forall_mem_cons.mpr ⟨⟨d_151_94, pf_237⟩, List.forall_mem_cons.mpr ⟨d_151_97, List.forall_mem_cons.mpr ⟨d_151_98, List.forall_mem_cons.mpr ⟨⟨d_151_99, Or.inl pf_249⟩, List.forall_mem_cons.mpr ⟨d_151_102, List.forall_mem_cons.mpr ⟨⟨d_151_103, Or.inl pf_250⟩, List.forall_mem_cons.mpr ⟨d_151_106, List.forall_mem_cons.mpr ⟨d_151_107, List.forall_mem_cons.mpr ⟨⟨d_151_108, ⟨mo_145, mi_145, se_145, pm_168⟩⟩, List.forall_mem_cons.mpr ⟨⟨d_151_111, (by decide)⟩, List.forall_mem_cons.mpr ⟨d_151_114, fun _ h => absurd h List.not_mem_nil⟩⟩⟩⟩⟩⟩⟩⟩⟩⟩⟩⟩⟩⟩⟩⟩⟩⟩⟩⟩⟩⟩⟩⟩⟩⟩⟩⟩⟩⟩⟩⟩⟩⟩⟩⟩⟩⟩⟩⟩⟩⟩⟩⟩⟩⟩⟩⟩⟩⟩⟩⟩⟩⟩⟩⟩⟩⟩⟩⟩
theorem d_152_0 : decode prog_12_method_22_code 0 = .ok (.aload_n 0, 1) := by decide +kernel
theorem d_152_1 : decode prog_12_method_22_code 1 = .ok (.dup, 1) := by decide +kernel
theorem d_152_2 : decode prog_12_method_22_code 2 = .ok (.getfield 173, 3) := by decide +kernel
theorem d_152_5 : decode prog_12_method_22_code 5 = .ok (.iconst 1, 1) := by decide +kernel
theorem d_152_6 : decode prog_12_method_22_code 6 = .ok (.isub, 1) := by decide +kernel
theorem d_152_7 : decode prog_12_method_22_code 7 = .ok (.putfield 173, 3) := by decide +kernel
theorem d_152_10 : decode prog_12_method_22_code 10 = .ok (.aload_n 0, 1) := by decide +kernel
theorem d_152_11 : decode prog_12_method_22_code 11 = .ok (.aload_n 0, 1) := by decide +kernel
theorem d_152_12 : decode prog_12_method_22_code 12 = .ok (.getfield 29, 3) := by decide +kernel
theorem d_152_15 : decode prog_12_method_22_code 15 = .ok (.aload_n 0, 1) := by decide +kernel
theorem d_152_16 : decode prog_12_method_22_code 16 = .ok (.getfield 173, 3) := by decide +kernel
theorem d_152_19 : decode prog_12_method_22_code 19 = .ok (.iaload, 1) := by decide +kernel
theorem d_152_20 : decode prog_12_method_22_code 20 = .ok (.iconst 0, 1) := by decide +kernel
theorem d_152_21 : decode prog_12_method_22_code 21 = .ok (.invokevirtual 139, 3) := by decide +kernel
theorem d_152_24 : decode prog_12_method_22_code 24 = .ok (.return_, 1) := by decide +kernel
set_option maxRecDepth 20000 in
theorem ok_152 : ∀ r ∈ tb_152, sm_ok 152 r := List.forall_mem_cons.mpr ⟨d_152_0, List.forall_mem_cons.mpr ⟨d_152_1, List.forall_mem_cons.mpr ⟨⟨d_152_2, Or.inl pf_255⟩, List.forall_mem_cons.mpr ⟨d_152_5, List.forall_mem_cons.mpr ⟨d_152_6, List.forall_mem_cons.mpr ⟨⟨d_152_7, pf_256⟩, List.forall_mem_cons.mpr ⟨d_152_10, List.forall_mem_cons.mpr ⟨d_152_11, List.forall_mem_cons.mpr ⟨⟨d_152_12, Or.inl pf_257⟩, List.forall_mem_cons.mpr ⟨d_152_15, List.forall_mem_cons.mpr ⟨⟨d_152_16, Or.inl pf_255⟩, List.forall_mem_cons.mpr ⟨d_152_19, List.forall_mem_cons.mpr ⟨d_152_20, List.forall_mem_cons.mpr ⟨⟨d_152_21, ⟨mo_145, mi_145, se_145, pm_168⟩⟩, List.forall_mem_cons.mpr ⟨d_152_24, fun _ h => absurd h List.not_mem_nil⟩⟩⟩⟩⟩⟩⟩⟩⟩⟩⟩⟩⟩⟩⟩
theorem d_153_0 : decode prog_12_method_23_code 0 = .ok (.aload_n 0, 1) := by decide +kernel
theorem d_153_1 : decode prog_12_method_23_code 1 = .ok (.getfield 29, 3) := by decide +kernel
theorem d_153_4 : decode prog_12_method_23_code 4 = .ok (.aload_n 0, 1) := by decide +kernel
theorem d_153_5 : decode prog_12_method_23_code 5 = .ok (.getfield 173, 3) := by decide +kernel
theorem d_153_8 : decode prog_12_method_23_code 8 = .ok (.iload_n 1, 1) := by decide +kernel
theorem d_153_9 : decode prog_12_method_23_code 9 = .ok (.iastore, 1) := by decide +kernel
theorem d_153_10 : decode prog_12_method_23_code 10 = .ok (.aload_n 0, 1) := by decide +kernel
theorem d_153_11 : decode prog_12_method_23_code 11 = .ok (.dup, 1) := by decide +kernel
theorem d_153_12 : decode prog_12_method_23_code 12 = .ok (.getfield 173, 3) := by decide +kernel
theorem d_153_15 : decode prog_12_method_23_code 15 = .ok (.iconst 1, 1) := by decide +kernel
theorem d_153_16 : decode prog_12_method_23_code 16 = .ok (.iadd, 1) := by decide +kernel
theorem d_153_17 : decode prog_12_method_23_code 17 = .ok (.putfield 173, 3) := by decide +kernel
theorem d_153_20 : decode prog_12_method_23_code 20 = .ok (.return_, 1) := by decide +kernel
set_option maxRecDepth 20000 in
theorem ok_153 : ∀ r ∈ tb_153, sm_ok 153 r := List.forall_mem_cons.mpr ⟨d_153_0, List.forall_mem_cons.mpr ⟨⟨d_153_1, Or.inl pf_257⟩, List.forall_mem_cons.mpr ⟨d_153_4, List.forall_mem_cons.mpr ⟨⟨d_153_5, Or.inl pf_255⟩, List.forall_mem_cons.mpr ⟨d_153_8, List.forall_mem_cons.mpr ⟨d_153_9, List.forall_mem_cons.mpr ⟨d_153_10, List.forall_mem_cons.mpr ⟨d_153_11, List.forall_mem_cons.mpr ⟨⟨d_153_12, Or.inl pf_255⟩, List.forall_mem_cons.mpr ⟨d_153_15, List.forall_mem_cons.mpr ⟨d_153_16, List.forall_mem_cons.mpr ⟨⟨d_153_17, pf_256⟩, List.forall_mem_cons.mpr ⟨d_153_20, fun _ h => absurd h List.not_mem_nil⟩⟩⟩⟩⟩⟩⟩⟩⟩⟩⟩⟩⟩
theorem d_154_0 : decode prog_12_method_24_code 0 = .ok (.aload_n 0, 1) := by decide +kernel
theorem d_154_1 : decode prog_12_method_24_code 1 = .ok (.getfield 173, 3) := by decide +kernel
theorem d_154_4 : decode prog_12_method_24_code 4 = .ok (.ifCond .le 36, 3) := by decide +kernel
theorem d_154_7 : decode prog_12_method_24_code 7 = .ok (.aload_n 0, 1) := by decide +kernel
theorem d_154_8 : decode prog_12_method_24_code 8 = .ok (.getfield 29, 3) := by decide +kernel
theorem d_154_11 : decode prog_12_method_24_code 11 = .ok (.aload_n 0, 1) := by decide +kernel
theorem d_154_12 : decode prog_12_method_24_code 12 = .ok (.getfield 173, 3) := by decide +kernel
theorem d_154_15 : decode prog_12_method_24_code 15 = .ok (.iconst 1, 1) := by decide +kernel
theorem d_154_16 : decode prog_12_method_24_code 16 = .ok (.isub, 1) := by decide +kernel
theorem d_154_17 : decode prog_12_method_24_code 17 = .ok (.iaload, 1) := by decide +kernel
theorem d_154_18 : decode prog_12_method_24_code 18 = .ok (.bipush 13, 2) := by decide +kernel
theorem d_154_20 : decode prog_12_method_24_code 20 = .ok (.if_icmp .ne 20, 3) := by decide +kernel
theorem d_154_23 : decode prog_12_method_24_code 23 = .ok (.aload_n 0, 1) := by decide +kernel
theorem d_154_24 : decode prog_12_method_24_code 24 = .ok (.invokevirtual 176, 3) := by decide +kernel
theorem d_154_27 : decode prog_12_method_24_code 27 = .ok (.aload_n 0, 1) := by decide +kernel
theorem d_154_28 : decode prog_12_method_24_code 28 = .ok (.dup, 1) := by decide +kernel
theorem d_154_29 : decode prog_12_method_24_code 29 = .ok (.getfield 129, 3) := by decide +kernel
theorem d_154_32 : decode prog_12_method_24_code 32 = .ok (.iconst 1, 1) := by decide +kernel
theorem d_154_33 : decode prog_12_method_24_code 33 = .ok (.isub, 1) := by decide +kernel
theorem d_154_34 : decode prog_12_method_24_code 34 = .ok (.putfield 129, 3) := by decide +kernel
theorem d_154_37 : decode prog_12_method_24_code 37 = .ok (.goto (-37), 3) := by decide +kernel
theorem d_154_40 : decode prog_12_method_24_code 40 = .ok (.aload_n 0, 1) := by decide +kernel
theorem d_154_41 : decode prog_12_method_24_code 41 = .ok (.getfield 129, 3) := by decide +kernel
theorem d_154_44 : decode prog_12_method_24_code 44 = .ok (.ifCond .ne 52, 3) := by decide +kernel
theorem d_154_47 : decode prog_12_method_24_code 47 = .ok (.aload_n 0, 1) := by decide +kernel
theorem d_154_48 : decode prog_12_method_24_code 48 = .ok (.getfield 41, 3) := by decide +kernel
theorem d_154_51 : decode prog_12_method_24_code 51 = .ok (.aload_n 0, 1) := by decide +kernel
theorem d_154_52 : decode prog_12_method_24_code 52 = .ok (.getfield 179, 3) := by decide +kernel
theorem d_154_55 : decode prog_12_method_24_code 55 = .ok (.aload_n 0, 1) := by decide +kernel
theorem d_154_56 : decode prog_12_method_24_code 56 = .ok (.getfield 182, 3) := by decide +kernel
theorem d_154_59 : decode prog_12_method_24_code 59 = .ok (.iastore, 1) := by decide +kernel
theorem d_154_60 : decode prog_12_method_24_code 60 = .ok (.aload_n 0, 1) := by decide +kernel
theorem d_154_61 : decode prog_12_method_24_code 61 = .ok (.getfield 44, 3) := by decide +kernel
theorem d_154_64 : decode prog_12_method_24_code 64 = .ok (.aload_n 0, 1) := by decide +kernel
theorem d_154_65 : decode prog_12_method_24_code 65 = .ok (.getfield 179, 3) := by decide +kernel
theorem d_154_68 : decode prog_12_method_24_code 68 = .ok (.aload_n 0, 1) := by decide +kernel
theorem d_154_69 : decode prog_12_method_24_code 69 = .ok (.getfield 123, 3) := by decide +kernel
theorem d_154_72 : decode prog_12_method_24_code 72 = .ok (.iastore, 1) := by decide +kernel
theorem d_154_73 : decode prog_12_method_24_code 73 = .ok (.aload_n 0, 1) := by decide +kernel
theorem d_154_74 : decode prog_12_method_24_code 74 = .ok (.getfield 47, 3) := by decide +kernel
theorem d_154_77 : decode prog_12_method_24_code 77 = .ok (.aload_n 0, 1) := by decide +kernel
theorem d_154_78 : decode prog_12_method_24_code 78 = .ok (.getfield 179, 3) := by decide +kernel
theorem d_154_81 : decode prog_12_method_24_code 81 = .ok (.aload_n 0, 1) := by decide +kernel
theorem d_154_82 : decode prog_12_method_24_code 82 = .ok (.getfield 185, 3) := by decide +kernel
theorem d_154_85 : decode prog_12_method_24_code 85 = .ok (.iastore, 1) := by decide +kernel
theorem d_154_86 : decode prog_12_method_24_code 86 = .ok (.aload_n 0, 1) := by decide +kernel
theorem d_154_87 : decode prog_12_method_24_code 87 = .ok (.dup, 1) := by decide +kernel
theorem d_154_88 : decode prog_12_method_24_code 88 = .ok (.getfield 179, 3) := by decide +kernel
theorem d_154_91 : decode prog_12_method_24_code 91 = .ok (.iconst 1, 1) := by decide +kernel
theorem d_154_92 : decode prog_12_method_24_code 92 = .ok (.iadd, 1) := by decide +kernel
theorem d_154_93 : decode prog_12_method_24_code 93 = .ok (.putfield 179, 3) := by decide +kernel
theorem d_154_96 : decode prog_12_method_24_code 96 = .ok (.return_, 1) := by decide +kernel
set_option maxRecDepth 20000 in
theorem ok_154 : ∀ r ∈ tb_154, sm_ok 154 r := List.forall_mem_cons.mpr ⟨d_154_0, List.forall_mem_cons.mpr ⟨⟨d_154_1, Or.inl pf_255⟩, List.forall_mem_cons.mpr ⟨⟨d_154_4, (by decide)⟩, List.forall_mem_cons.mpr ⟨d_154_7, List.forall_mem_cons.mpr ⟨⟨d_154_8, Or.inl pf_257⟩, List.forall_mem_cons.mpr ⟨d_154_11, List.forall_mem_cons.mpr ⟨⟨d_154_12, Or.inl pf_255⟩, List.forall_mem_cons.mpr ⟨d_154_15, List.forall_mem_cons.mpr ⟨d_154_16, List.forall_mem_cons.mpr ⟨d_154_17, List.forall_mem_cons.mpr ⟨d_154_18, List.forall_mem_cons.mpr ⟨⟨d_154_20, (by decide)⟩, List.forall_mem_cons.mpr ⟨d_154_23, List.forall_mem_cons.mpr ⟨⟨d_154_24, ⟨mo_152, mi_152, se_152, pm_177⟩⟩, List.forall_mem_cons.mpr ⟨d_154_27, List.forall_mem_cons.mpr ⟨d_154_28, List.forall_mem_cons.mpr ⟨⟨d_154_29, Or.inl pf_248⟩, List.forall_mem_cons.mpr ⟨d_154_32, List.forall_mem_cons.mpr ⟨d_154_33, List.forall_mem_cons.mpr ⟨⟨d_154_34, pf_258⟩, List.forall_mem_cons.mpr ⟨⟨d_154_37, (by decide)⟩, List.forall_mem_cons.mpr ⟨d_154_40, List.forall_mem_cons.mpr ⟨⟨d_154_41, Or.inl pf_248⟩, List.forall_mem_cons.mpr ⟨⟨d_154_44, (by decide)⟩, List.forall_mem_cons.mpr ⟨d_154_47, List.forall_mem_cons.mpr ⟨⟨d_154_48, Or.inl pf_259⟩, List.forall_mem_cons.mpr ⟨d_154_51, List.forall_mem_cons.mpr ⟨⟨d_154_52, Or.inl pf_260⟩, List.forall_mem_cons.mpr ⟨d_154_55, List.forall_mem_cons.mpr ⟨⟨d_154_56, Or.inl pf_261⟩, List.forall_mem_cons.mpr ⟨d_154_59, List.forall_mem_cons.mpr ⟨d_154_60, List.forall_mem_cons.mpr ⟨⟨d_154_61, Or.inl pf_262⟩, List.forall_mem_cons.mpr ⟨d_154_64, List.forall_mem_cons.mpr ⟨⟨d_154_65, Or.inl pf_260⟩, List.forall_mem_cons.mpr ⟨d_154_68, List.forall_mem_cons.mpr ⟨⟨d_154_69, Or.inl pf_244⟩, List.forall_mem_cons.mpr ⟨d_154_72, List.forall_mem_cons.mpr ⟨d_154_73, List.forall_mem_cons.mpr ⟨⟨d_154_74, Or.inl pf_263⟩, List.forall_mem_cons.mpr ⟨d_154_77, List.forall_mem_cons.mpr ⟨⟨d_154_78, Or.inl pf_260⟩, List.forall_mem_cons.mpr ⟨d_154_81, List.forall_mem_cons.mpr ⟨⟨d_154_82, Or.inl pf_264⟩, List.forall_mem_cons.mpr ⟨d_154_85, List.forall_mem_cons.mpr ⟨d_154_86, List.forall_mem_cons.mpr ⟨d_154_87, List.forall_mem_cons.mpr ⟨⟨d_154_88, Or.inl pf_260⟩, List.forall_mem_cons.mpr ⟨d_154_91, List.forall_mem_cons.mpr ⟨d_154_92, List.forall_mem_cons.mpr ⟨⟨d_154_93, pf_265⟩, List.forall_mem_cons.mpr ⟨d_154_96, fun _ h => absurd h List.not_mem_nil⟩⟩⟩⟩⟩⟩⟩⟩⟩⟩⟩⟩⟩⟩⟩⟩⟩⟩⟩⟩⟩⟩⟩⟩⟩⟩⟩⟩⟩⟩⟩⟩⟩⟩⟩⟩⟩⟩⟩⟩⟩⟩⟩⟩⟩⟩⟩⟩⟩⟩⟩⟩
theorem d_155_0 : decode prog_12_method_25_code 0 = .ok (.aload_n 0, 1) := by decide +kernel
theorem d_155_1 : decode prog_12_method_25_code 1 = .ok (.bipush 110, 2) := by decide +kernel
theorem d_155_3 : decode prog_12_method_25_code 3 = .ok (.bipush 111, 2) := by decide +kernel
theorem d_155_5 : decode prog_12_method_25_code 5 = .ok (.bipush 116, 2) := by decide +kernel
theorem d_155_7 : decode prog_12_method_25_code 7 = .ok (.iconst 0, 1) := by decide +kernel
theorem d_155_8 : decode prog_12_method_25_code 8 = .ok (.iconst 0, 1) := by decide +kernel
theorem d_155_9 : decode prog_12_method_25_code 9 = .ok (.iconst 0, 1) := by decide +kernel
theorem d_155_10 : decode prog_12_method_25_code 10 = .ok (.invokestatic 156, 3) := by decide +kernel
theorem d_155_13 : decode prog_12_method_25_code 13 = .ok (.invokevirtual 160, 3) := by decide +kernel
theorem d_155_16 : decode prog_12_method_25_code 16 = .ok (.istore_n 1, 1) := by decide +kernel
theorem d_155_17 : decode prog_12_method_25_code 17 = .ok (.iload_n 1, 1) := by decide +kernel
theorem d_155_18 : decode prog_12_method_25_code 18 = .ok (.ifCond .ne 12, 3) := by decide +kernel
theorem d_155_21 : decode prog_12_method_25_code 21 = .ok (.aload_n 0, 1) := by decide +kernel
theorem d_155_22 : decode prog_12_method_25_code 22 = .ok (.bipush 91, 2) := by decide +kernel
theorem d_155_24 : decode prog_12_method_25_code 24 = .ok (.invokevirtual 150, 3) := by decide +kernel
theorem d_155_27 : decode prog_12_method_25_code 27 = .ok (.ifCond .eq 59, 3) := by decide +kernel
theorem d_155_30 : decode prog_12_method_25_code 30 = .ok (.aload_n 0, 1) := by decide +kernel
theorem d_155_31 : decode prog_12_method_25_code 31 = .ok (.aload_n 0, 1) := by decide +kernel
theorem d_155_32 : decode prog_12_method_25_code 32 = .ok (.getfield 105, 3) := by decide +kernel
theorem d_155_35 : decode prog_12_method_25_code 35 = .ok (.ifCond .ne 12, 3) := by decide +kernel
theorem d_155_38 : decode prog_12_method_25_code 38 = .ok (.aload_n 0, 1) := by decide +kernel
theorem d_155_39 : decode prog_12_method_25_code 39 = .ok (.getfield 129, 3) := by decide +kernel
theorem d_155_42 : decode prog_12_method_25_code 42 = .ok (.bipush 7, 2) := by decide +kernel
theorem d_155_44 : decode prog_12_method_25_code 44 = .ok (.if_icmp .le 7, 3) := by decide +kernel
theorem d_155_47 : decode prog_12_method_25_code 47 = .ok (.iconst 1, 1) := by decide +kernel
theorem d_155_48 : decode prog_12_method_25_code 48 = .ok (.goto 4, 3) := by decide +kernel
theorem d_155_51 : decode prog_12_method_25_code 51 = .ok (.iconst 0, 1) := by decide +kernel
theorem d_155_52 : decode prog_12_method_25_code 52 = .ok (.putfield 105, 3) := by decide +kernel
theorem d_155_55 : decode prog_12_method_25_code 55 = .ok (.aload_n 0, 1) := by decide +kernel
theorem d_155_56 : decode prog_12_method_25_code 56 = .ok (.iload_n 1, 1) := by decide +kernel
theorem d_155_57 : decode prog_12_method_25_code 57 = .ok (.ifCond .eq 8, 3) := by decide +kernel
theorem d_155_60 : decode prog_12_method_25_code 60 = .ok (.bipush 13, 2) := by decide +kernel
theorem d_155_62 : decode prog_12_method_25_code 62 = .ok (.goto 5, 3) := by decide +kernel
theorem d_155_65 : decode prog_12_method_25_code 65 = .ok (.bipush 16, 2) := by decide +kernel
theorem d_155_67 : decode prog_12_method_25_code 67 = .ok (.invokevirtual 188, 3) := by decide +kernel
theorem d_155_70 : decode prog_12_method_25_code 70 = .ok (.aload_n 0, 1) := by decide +kernel
theorem d_155_71 : decode prog_12_method_25_code 71 = .ok (.dup, 1) := by decide +kernel
theorem d_155_72 : decode prog_12_method_25_code 72 = .ok (.getfield 129, 3) := by decide +kernel
theorem d_155_75 : decode prog_12_method_25_code 75 = .ok (.iconst 1, 1) := by decide +kernel
theorem d_155_76 : decode prog_12_method_25_code 76 = .ok (.iadd, 1) := by decide +kernel
theorem d_155_77 : decode prog_12_method_25_code 77 = .ok (.putfield 129, 3) := by decide +kernel
theorem d_155_80 : decode prog_12_method_25_code 80 = .ok (.aload_n 0, 1) := by decide +kernel
theorem d_155_81 : decode prog_12_method_25_code 81 = .ok (.iconst 1, 1) := by decide +kernel
theorem d_155_82 : decode prog_12_method_25_code 82 = .ok (.putfield 143, 3) := by decide +kernel
theorem d_155_85 : decode prog_12_method_25_code 85 = .ok (.return_, 1) := by decide +kernel
theorem d_155_86 : decode prog_12_method_25_code 86 = .ok (.aload_n 0, 1) := by decide +kernel
theorem d_155_87 : decode prog_12_method_25_code 87 = .ok (.invokevirtual 191, 3) := by decide +kernel
theorem d_155_90 : decode prog_12_method_25_code 90 = .ok (.aload_n 0, 1) := by decide +kernel
theorem d_155_91 : decode prog_12_method_25_code 91 = .ok (.bipush 61, 2) := by decide +kernel
theorem d_155_93 : decode prog_12_method_25_code 93 = .ok (.invokevirtual 115, 3) := by decide +kernel
theorem d_155_96 : decode prog_12_method_25_code 96 = .ok (.ifCond .eq 8, 3) := by decide +kernel
theorem d_155_99 : decode prog_12_method_25_code 99 = .ok (.bipush 9, 2) := by decide +kernel
theorem d_155_101 : decode prog_12_method_25_code 101 = .ok (.goto 32, 3) := by decide +kernel
theorem d_155_104 : decode prog_12_method_25_code 104 = .ok (.aload_n 0, 1) := by decide +kernel
theorem d_155_105 : decode prog_12_method_25_code 105 = .ok (.bipush 60, 2) := by decide +kernel
theorem d_155_107 : decode prog_12_method_25_code 107 = .ok (.invokevirtual 115, 3) := by decide +kernel
theorem d_155_110 : decode prog_12_method_25_code 110 = .ok (.ifCond .eq 8, 3) := by decide +kernel
theorem d_155_113 : decode prog_12_method_25_code 113 = .ok (.bipush 10, 2) := by decide +kernel
theorem d_155_115 : decode prog_12_method_25_code 115 = .ok (.goto 18, 3) := by decide +kernel
theorem d_155_118 : decode prog_12_method_25_code 118 = .ok (.aload_n 0, 1) := by decide +kernel
theorem d_155_119 : decode prog_12_method_25_code 119 = .ok (.bipush 62, 2) := by decide +kernel
theorem d_155_121 : decode prog_12_method_25_code 121 = .ok (.invokevirtual 115, 3) := by decide +kernel
theorem d_155_124 : decode prog_12_method_25_code 124 = .ok (.ifCond .eq 8, 3) := by decide +kernel
theorem d_155_127 : decode prog_12_method_25_code 127 = .ok (.bipush 11, 2) := by decide +kernel
theorem d_155_129 : decode prog_12_method_25_code 129 = .ok (.goto 4, 3) := by decide +kernel
theorem d_155_132 : decode prog_12_method_25_code 132 = .ok (.iconst 0, 1) := by decide +kernel
theorem d_155_133 : decode prog_12_method_25_code 133 = .ok (.istore_n 2, 1) := by decide +kernel
theorem d_155_134 : decode prog_12_method_25_code 134 = .ok (.aload_n 0, 1) := by decide +kernel
theorem d_155_135 : decode prog_12_method_25_code 135 = .ok (.iload_n 2, 1) := by decide +kernel
theorem d_155_136 : decode prog_12_method_25_code 136 = .ok (.bipush 9, 2) := by decide +kernel
theorem d_155_138 : decode prog_12_method_25_code 138 = .ok (.if_icmp .ne 17, 3) := by decide +kernel
theorem d_155_141 : decode prog_12_method_25_code 141 = .ok (.aload_n 0, 1) := by decide +kernel
theorem d_155_142 : decode prog_12_method_25_code 142 = .ok (.getfield 129, 3) := by decide +kernel
theorem d_155_145 : decode prog_12_method_25_code 145 = .ok (.ifCond .ne 10, 3) := by decide +kernel
theorem d_155_148 : decode prog_12_method_25_code 148 = .ok (.aload_n 0, 1) := by decide +kernel
theorem d_155_149 : decode prog_12_method_25_code 149 = .ok (.getfield 123, 3) := by decide +kernel
theorem d_155_152 : decode prog_12_method_25_code 152 = .ok (.goto 4, 3) := by decide +kernel
theorem d_155_155 : decode prog_12_method_25_code 155 = .ok (.iconst (-1), 1) := by decide +kernel
theorem d_155_156 : decode prog_12_method_25_code 156 = .ok (.putfield 185, 3) := by decide +kernel
theorem d_155_159 : decode prog_12_method_25_code 159 = .ok (.iload_n 2, 1) := by decide +kernel
theorem d_155_160 : decode prog_12_method_25_code 160 = .ok (.ifCond .le 26, 3) := by decide +kernel
theorem d_155_163 : decode prog_12_method_25_code 163 = .ok (.aload_n 0, 1) := by decide +kernel
theorem d_155_164 : decode prog_12_method_25_code 164 = .ok (.dup, 1) := by decide +kernel
theorem d_155_165 : decode prog_12_method_25_code 165 = .ok (.getfield 112, 3) := by decide +kernel
theorem d_155_168 : decode prog_12_method_25_code 168 = .ok (.iconst 1, 1) := by decide +kernel
theorem d_155_169 : decode prog_12_method_25_code 169 = .ok (.iadd, 1) := by decide +kernel
theorem d_155_170 : decode prog_12_method_25_code 170 = .ok (.putfield 112, 3) := by decide +kernel
theorem d_155_173 : decode prog_12_method_25_code 173 = .ok (.aload_n 0, 1) := by decide +kernel
theorem d_155_174 : decode prog_12_method_25_code 174 = .ok (.invokevirtual 191, 3) := by decide +kernel
theorem d_155_177 : decode prog_12_method_25_code 177 = .ok (.aload_n 0, 1) := by decide +kernel
theorem d_155_178 : decode prog_12_method_25_code 178 = .ok (.iload_n 2, 1) := by decide +kernel
theorem d_155_179 : decode prog_12_method_25_code 179 = .ok (.iconst 0, 1) := by decide +kernel
theorem d_155_180 : decode prog_12_method_25_code 180 = .ok (.invokevirtual 139, 3) := by decide +kernel
theorem d_155_183 : decode prog_12_method_25_code 183 = .ok (.goto 46, 3) := by decide +kernel
theorem d_155_186 : decode prog_12_method_25_code 186 = .ok (.aload_n 0, 1) := by decide +kernel
theorem d_155_187 : decode prog_12_method_25_code 187 = .ok (.aload_n 0, 1) := by decide +kernel
theorem d_155_188 : decode prog_12_method_25_code 188 = .ok (.getfield 105, 3) := by decide +kernel
theorem d_155_191 : decode prog_12_method_25_code 191 = .ok (.ifCond .ne 23, 3) := by decide +kernel
theorem d_155_194 : decode prog_12_method_25_code 194 = .ok (.aload_n 0, 1) := by decide +kernel
theorem d_155_195 : decode prog_12_method_25_code 195 = .ok (.bipush 110, 2) := by decide +kernel
theorem d_155_197 : decode prog_12_method_25_code 197 = .ok (.bipush 117, 2) := by decide +kernel
theorem d_155_199 : decode prog_12_method_25_code 199 = .ok (.bipush 108, 2) := by decide +kernel
theorem d_155_201 : decode prog_12_method_25_code 201 = .ok (.bipush 108, 2) := by decide +kernel
theorem d_155_203 : decode prog_12_method_25_code 203 = .ok (.iconst 0, 1) := by decide +kernel
theorem d_155_204 : decode prog_12_method_25_code 204 = .ok (.iconst 0, 1) := by decide +kernel
theorem d_155_205 : decode prog_12_method_25_code 205 = .ok (.invokestatic 156, 3) := by decide +kernel
theorem d_155_208 : decode prog_12_method_25_code 208 = .ok (.invokevirtual 160, 3) := by decide +kernel
theorem d_155_211 : decode prog_12_method_25_code 211 = .ok (.ifCond .ne 7, 3) := by decide +kernel
theorem d_155_214 : decode prog_12_method_25_code 214 = .ok (.iconst 1, 1) := by decide +kernel
theorem d_155_215 : decode prog_12_method_25_code 215 = .ok (.goto 4, 3) := by decide +kernel
theorem d_155_218 : decode prog_12_method_25_code 218 = .ok (.iconst 0, 1) := by decide +kernel
theorem d_155_219 : decode prog_12_method_25_code 219 = .ok (.putfield 105, 3) := by decide +kernel
theorem d_155_222 : decode prog_12_method_25_code 222 = .ok (.aload_n 0, 1) := by decide +kernel
theorem d_155_223 : decode prog_12_method_25_code 223 = .ok (.bipush 12, 2) := by decide +kernel
theorem d_155_225 : decode prog_12_method_25_code 225 = .ok (.iconst 0, 1) := by decide +kernel
theorem d_155_226 : decode prog_12_method_25_code 226 = .ok (.invokevirtual 139, 3) := by decide +kernel
theorem d_155_229 : decode prog_12_method_25_code 229 = .ok (.aload_n 0, 1) := by decide +kernel
theorem d_155_230 : decode prog_12_method_25_code 230 = .ok (.iconst 0, 1) := by decide +kernel
theorem d_155_231 : decode prog_12_method_25_code 231 = .ok (.putfield 143, 3) := by decide +kernel
theorem d_155_234 : decode prog_12_method_25_code 234 = .ok (.aload_n 0, 1) := by decide +kernel
theorem d_155_235 : decode prog_12_method_25_code 235 = .ok (.getfield 105, 3) := by decide +kernel
theorem d_155_238 : decode prog_12_method_25_code 238 = .ok (.ifCond .ne 7, 3) := by decide +kernel
theorem d_155_241 : decode prog_12_method_25_code 241 = .ok (.aload_n 0, 1) := by decide +kernel
theorem d_155_242 : decode prog_12_method_25_code 242 = .ok (.invokevirtual 194, 3) := by decide +kernel
theorem d_155_245 : decode prog_12_method_25_code 245 = .ok (.return_, 1) := by decide +kernel
set_option maxRecDepth 20000 in
theorem ok_155 : ∀ r ∈ tb_155, sm_ok 155 r := List.forall_mem_cons.mpr ⟨d_155_0, List.forall_mem_cons.mpr ⟨d_155_1, List.forall_mem_cons.mpr ⟨d_155_3, List.forall_mem_cons.mpr ⟨d_155_5, List.forall_mem_cons.mpr ⟨d_155_7, List.forall_mem_cons.mpr ⟨d_155_8, List.forall_mem_cons.mpr ⟨d_155_9, List.forall_mem_cons.mpr ⟨⟨d_155_10, (Or.inl ⟨Nat.le_of_ble_eq_true rfl, mo_139, ms_139, pm_172⟩)⟩, List.forall_mem_cons.mpr ⟨⟨d_155_13, ⟨mo_142, mi_142, se_142, pm_173⟩⟩, List.forall_mem_cons.mpr ⟨d_155_16, List.forall_mem_cons.mpr ⟨d_155_17, List.forall_mem_cons.mpr ⟨⟨d_155_18, (by decide)⟩, List.forall_mem_cons.mpr ⟨d_155_21, List.forall_mem_cons.mpr ⟨d_155_22, List.forall_mem_cons.mpr ⟨⟨d_155_24, ⟨mo_141, mi_141, se_141, pm_170⟩⟩, List.forall_mem_cons.mpr ⟨⟨d_155_27, (by decide)⟩, List.forall_mem_cons.mpr ⟨d_155_30, List.forall_mem_cons.mpr ⟨d_155_31, List.forall_mem_cons.mpr ⟨⟨d_155_32, Or.inl pf_236⟩, List.forall_mem_cons.mpr ⟨⟨d_155_35, (by decide)⟩, List.forall_mem_cons.mpr ⟨d_155_38, List.forall_mem_cons.mpr ⟨⟨d_155_39, Or.inl pf_248⟩, List.forall_mem_cons.mpr ⟨d_155_42, List.forall_mem_cons.mpr ⟨⟨d_155_44, (by decide)⟩, List.forall_mem_cons.mpr ⟨d_155_47, List.forall_mem_cons.mpr ⟨⟨d_155_48, (by decide)⟩, List.forall_mem_cons.mpr ⟨d_155_51, List.forall_mem_cons.mpr ⟨⟨d_155_52, pf_237⟩, List.forall_mem_cons.mpr ⟨d_155_55, List.forall_mem_cons.mpr ⟨d_155_56, List.forall_mem_cons.mpr ⟨⟨d_155_57, (by decide)⟩, List.forall_mem_cons.mpr ⟨d_155_60, List.forall_mem_cons.mpr ⟨⟨d_155_62, (by decide)⟩, List.forall_mem_cons.mpr ⟨d_155_65, List.forall_mem_cons.mpr ⟨⟨d_155_67, ⟨mo_153, mi_153, se_153, pm_178⟩⟩, List.forall_mem_cons.mpr ⟨d_155_70, List.forall_mem_cons.mpr ⟨d_155_71, List.forall_mem_cons.mpr ⟨⟨d_155_72, Or.inl pf_248⟩, List.forall_mem_cons.mpr ⟨d_155_75, List.forall_mem_cons.mpr ⟨d_155_76, List.forall_mem_cons.mpr ⟨⟨d_155_77, pf_258⟩, List.forall_mem_cons.mpr ⟨d_155_80, List.forall_mem_cons.mpr ⟨d_155_81, List.forall_mem_cons.mpr ⟨⟨d_155_82, pf_253⟩, List.forall_mem_cons.mpr ⟨d_155_85, List.forall_mem_cons.mpr ⟨d_155_86, List.forall_mem_cons.mpr ⟨⟨d_155_87, ⟨mo_151, mi_151, se_151, pm_179⟩⟩, List.forall_mem_cons.mpr ⟨d_155_90, List.forall_mem_cons.mpr ⟨d_155_91, List.forall_mem_cons.mpr ⟨⟨d_155_93, ⟨mo_140, mi_140, se_140, pm_165⟩⟩, List.forall_mem_cons.mpr ⟨⟨d_155_96, (by decide)⟩, List.forall_mem_cons.mpr ⟨d_155_99, List.forall_mem_cons.mpr ⟨⟨d_155_101, (by decide)⟩, List.forall_mem_cons.mpr ⟨d_155_104, List.forall_mem_cons.mpr ⟨d_155_105, List.forall_mem_cons.mpr ⟨⟨d_155_107, ⟨mo_140, mi_140, se_140, pm_165⟩⟩, List.forall_mem_cons.mpr ⟨⟨d_155_110, (by decide)⟩, List.forall_mem_cons.mpr ⟨d_155_113, List.forall_mem_cons.mpr ⟨⟨d_155_115, (by decide)⟩, List.forall_mem_cons.mpr ⟨d_155_118, List.forall_mem_cons.mpr ⟨d_155_119, List.forall_mem_cons.mpr ⟨⟨d_155_121, ⟨mo_140, mi_140, se_140, pm_165⟩⟩, List.forall_mem_cons.mpr ⟨⟨d_155_124, (by decide)⟩, List.forall_mem_cons.mpr ⟨d_155_127, List.forall_mem_cons.mpr ⟨⟨d_155_129, (by decide)⟩, List.forall_mem_cons.mpr ⟨d_155_132, List.forall_mem_cons.mpr ⟨d_155_133, List.forall_mem_cons.mpr ⟨d_155_134, List.forall_mem_cons.mpr ⟨d_155_135, List.forall_mem_cons.mpr ⟨d_155_136, List.forall_mem_cons.mpr ⟨⟨d_155_138, (by decide)⟩, List.forall_mem_cons.mpr ⟨d_155_141, List.forall_mem_cons.mpr ⟨⟨d_155_142, Or.inl pf_248⟩, List.forall_mem_cons.mpr ⟨⟨d_155_145, (by decide)⟩, List.forall_mem_cons.mpr ⟨d_155_148, List.forall_mem_cons.mpr ⟨⟨d_155_149, Or.inl pf_244⟩, List.forall_mem_cons.mpr ⟨⟨d_155_152, (by decide)⟩, List.forall_mem_cons.mpr ⟨d_155_155, List.forall_mem_cons.mpr ⟨⟨d_155_156, pf_266⟩, List.forall_mem_cons.mpr ⟨d_155_159, List.forall_mem_cons.mpr ⟨⟨d_155_160, (by decide)⟩, List.forall_mem_cons.mpr ⟨d_155_163, List.forall_mem_cons.mpr ⟨d_155_164, List.forall_mem_cons.mpr ⟨⟨d_155_165, Or.inl pf_241⟩, List.forall_mem_cons.mpr ⟨d_155_168, List.forall_mem_cons.mpr ⟨d_155_169, List.forall_mem_cons.mpr ⟨⟨d_155_170, pf_242⟩, List.forall_mem_cons.mpr ⟨d_155_173, List.forall_mem_cons.mpr ⟨⟨d_155_174, ⟨mo_151, mi_151, se_151, pm_179⟩⟩, List.forall_mem_cons.mpr ⟨d_155_177, List.forall_mem_cons.mpr ⟨d_155_178, List.forall_mem_cons.mpr ⟨d_155_179, List.forall_mem_cons.mpr ⟨⟨d_155_180, ⟨mo_145, mi_145, se_145, pm_168⟩⟩, List.forall_mem_cons.mpr ⟨⟨d_155_183, (by decide)⟩, List.forall_mem_cons.mpr ⟨d_155_186, List.forall_mem_cons.mpr ⟨d_155_187, List.forall_mem_cons.mpr ⟨⟨d_155_188, Or.inl pf_236⟩, List.forall_mem_cons.mpr ⟨⟨d_155_191, (by decide)⟩, List.forall_mem_cons.mpr ⟨d_155_194, List.forall_mem_cons.mpr ⟨d_155_195, List.forall_mem_cons.mpr ⟨d_155_197, List.forall_mem_cons.mpr ⟨d_155_199, List.forall_mem_cons.mpr ⟨d_155_201, List.forall_mem_cons.mpr ⟨d_155_203, List.forall_mem_cons.mpr ⟨d_155_204, List.forall_mem_cons.mpr ⟨⟨d_155_205, (Or.inl ⟨Nat.le_of_ble_eq_true rfl, mo_139, ms_139, pm_172⟩)⟩, List.forall_mem_cons.mpr ⟨⟨d_155_208, ⟨mo_142, mi_142, se_142, pm_173⟩⟩, List.forall_mem_cons.mpr ⟨⟨d_155_211, (by decide)⟩, List.forall_mem_cons.mpr ⟨d_155_214, List.forall_mem_cons.mpr ⟨⟨d_155_215, (by decide)⟩, List.forall_mem_cons.mpr ⟨d_155_218, List.forall_mem_cons.mpr ⟨⟨d_155_219, pf_237⟩, List.forall_mem_cons.mpr ⟨d_155_222, List.forall_mem_cons.mpr ⟨d_155_223, List.forall_mem_cons.mpr ⟨d_155_225, List.forall_mem_cons.mpr ⟨⟨d_155_226, ⟨mo_145, mi_145, se_145, pm_168⟩⟩, List.forall_mem_cons.mpr ⟨d_155_229, List.forall_mem_cons.mpr ⟨d_155_230, List.forall_mem_cons.mpr ⟨⟨d_155_231, pf_253⟩, List.forall_mem_cons.mpr ⟨d_155_234, List.forall_mem_cons.mpr ⟨⟨d_155_235, Or.inl pf_236⟩, List.forall_mem_cons.mpr ⟨⟨d_155_238, (by decide)⟩, List.forall_mem_cons.mpr ⟨d_155_241, List.forall_mem_cons.mpr ⟨⟨d_155_242, ⟨mo_154, mi_154, se_154, pm_180⟩⟩, List.forall_mem_cons.mpr ⟨d_155_245, fun _ h => absurd h List.not_mem_nil⟩⟩⟩⟩⟩⟩⟩⟩⟩⟩⟩⟩⟩⟩⟩⟩⟩⟩⟩⟩⟩⟩⟩⟩⟩⟩⟩⟩⟩⟩⟩⟩⟩⟩⟩⟩⟩⟩⟩⟩⟩⟩⟩⟩⟩⟩⟩⟩⟩⟩⟩⟩⟩⟩⟩⟩⟩⟩⟩⟩⟩⟩⟩⟩⟩⟩⟩⟩⟩⟩⟩⟩⟩⟩⟩⟩⟩⟩⟩⟩⟩⟩⟩⟩⟩⟩⟩⟩⟩⟩⟩⟩⟩⟩⟩⟩⟩⟩⟩⟩⟩⟩⟩⟩⟩⟩⟩⟩⟩⟩⟩⟩⟩⟩⟩⟩⟩⟩⟩⟩⟩⟩⟩⟩⟩
theorem d_156_0 : decode prog_12_method_26_code 0 = .ok (.aload_n 0, 1) := by decide +kernel
theorem d_156_1 : decode prog_12_method_26_code 1 = .ok (.bipush 97, 2) := by decide +kernel
theorem d_156_3 : decode prog_12_method_26_code 3 = .ok (.bipush 110, 2) := by decide +kernel
theorem d_156_5 : decode prog_12_method_26_code 5 = .ok (.bipush 100, 2) := by decide +kernel
theorem d_156_7 : decode prog_12_method_26_code 7 = .ok (.iconst 0, 1) := by decide +kernel
theorem d_156_8 : decode prog_12_method_26_code 8 = .ok (.iconst 0, 1) := by decide +kernel
theorem d_156_9 : decode prog_12_method_26_code 9 = .ok (.iconst 0, 1) := by decide +kernel
theorem d_156_10 : decode prog_12_method_26_code 10 = .ok (.invokestatic 156, 3) := by decide +kernel
theorem d_156_13 : decode prog_12_method_26_code 13 = .ok (.invokevirtual 160, 3) := by decide +kernel
theorem d_156_16 : decode prog_12_method_26_code 16 = .ok (.istore_n 1, 1) := by decide +kernel
theorem d_156_17 : decode prog_12_method_26_code 17 = .ok (.iload_n 1, 1) := by decide +kernel
theorem d_156_18 : decode prog_12_method_26_code 18 = .ok (.ifCond .ne 21, 3) := by decide +kernel
theorem d_156_21 : decode prog_12_method_26_code 21 = .ok (.aload_n 0, 1) := by decide +kernel
theorem d_156_22 : decode prog_12_method_26_code 22 = .ok (.bipush 111, 2) := by decide +kernel
theorem d_156_24 : decode prog_12_method_26_code 24 = .ok (.bipush 114, 2) := by decide +kernel
theorem d_156_26 : decode prog_12_method_26_code 26 = .ok (.iconst 0, 1) := by decide +kernel
theorem d_156_27 : decode prog_12_method_26_code 27 = .ok (.iconst 0, 1) := by decide +kernel
theorem d_156_28 : decode prog_12_method_26_code 28 = .ok (.iconst 0, 1) := by decide +kernel
theorem d_156_29 : decode prog_12_method_26_code 29 = .ok (.iconst 0, 1) := by decide +kernel
theorem d_156_30 : decode prog_12_method_26_code 30 = .ok (.invokestatic 156, 3) := by decide +kernel
theorem d_156_33 : decode prog_12_method_26_code 33 = .ok (.invokevirtual 160, 3) := by decide +kernel
theorem d_156_36 : decode prog_12_method_26_code 36 = .ok (.ifCond .eq 102, 3) := by decide +kernel
theorem d_156_39 : decode prog_12_method_26_code 39 = .ok (.aload_n 0, 1) := by decide +kernel
theorem d_156_40 : decode prog_12_method_26_code 40 = .ok (.aload_n 0, 1) := by decide +kernel
theorem d_156_41 : decode prog_12_method_26_code 41 = .ok (.getfield 197, 3) := by decide +kernel
theorem d_156_44 : decode prog_12_method_26_code 44 = .ok (.ifCond .ne 14, 3) := by decide +kernel
theorem d_156_47 : decode prog_12_method_26_code 47 = .ok (.iload_n 1, 1) := by decide +kernel
theorem d_156_48 : decode prog_12_method_26_code 48 = .ok (.ifCond .ne 14, 3) := by decide +kernel
theorem d_156_51 : decode prog_12_method_26_code 51 = .ok (.aload_n 0, 1) := by decide +kernel
theorem d_156_52 : decode prog_12_method_26_code 52 = .ok (.getfield 129, 3) := by decide +kernel
theorem d_156_55 : decode prog_12_method_26_code 55 = .ok (.ifCond .ne 7, 3) := by decide +kernel
theorem d_156_58 : decode prog_12_method_26_code 58 = .ok (.iconst 1, 1) := by decide +kernel
theorem d_156_59 : decode prog_12_method_26_code 59 = .ok (.goto 4, 3) := by decide +kernel
theorem d_156_62 : decode prog_12_method_26_code 62 = .ok (.iconst 0, 1) := by decide +kernel
theorem d_156_63 : decode prog_12_method_26_code 63 = .ok (.putfield 197, 3) := by decide +kernel
theorem d_156_66 : decode prog_12_method_26_code 66 = .ok (.aload_n 0, 1) := by decide +kernel
theorem d_156_67 : decode prog_12_method_26_code 67 = .ok (.getfield 173, 3) := by decide +kernel
theorem d_156_70 : decode prog_12_method_26_code 70 = .ok (.ifCond .le 46, 3) := by decide +kernel
theorem d_156_73 : decode prog_12_method_26_code 73 = .ok (.aload_n 0, 1) := by decide +kernel
theorem d_156_74 : decode prog_12_method_26_code 74 = .ok (.getfield 29, 3) := by decide +kernel
theorem d_156_77 : decode prog_12_method_26_code 77 = .ok (.aload_n 0, 1) := by decide +kernel
theorem d_156_78 : decode prog_12_method_26_code 78 = .ok (.getfield 173, 3) := by decide +kernel
theorem d_156_81 : decode prog_12_method_26_code 81 = .ok (.iconst 1, 1) := by decide +kernel
theorem d_156_82 : decode prog_12_method_26_code 82 = .ok (.isub, 1) := by decide +kernel
theorem d_156_83 : decode prog_12_method_26_code 83 = .ok (.iaload, 1) := by decide +kernel
theorem d_156_84 : decode prog_12_method_26_code 84 = .ok (.bipush 14, 2) := by decide +kernel
theorem d_156_86 : decode prog_12_method_26_code 86 = .ok (.if_icmp .eq 23, 3) := by decide +kernel
theorem d_156_89 : decode prog_12_method_26_code 89 = .ok (.iload_n 1, 1) := by decide +kernel
theorem d_156_90 : decode prog_12_method_26_code 90 = .ok (.ifCond .ne 26, 3) := by decide +kernel
theorem d_156_93 : decode prog_12_method_26_code 93 = .ok (.aload_n 0, 1) := by decide +kernel
theorem d_156_94 : decode prog_12_method_26_code 94 = .ok (.getfield 29, 3) := by decide +kernel
theorem d_156_97 : decode prog_12_method_26_code 97 = .ok (.aload_n 0, 1) := by decide +kernel
theorem d_156_98 : decode prog_12_method_26_code 98 = .ok (.getfield 173, 3) := by decide +kernel
theorem d_156_101 : decode prog_12_method_26_code 101 = .ok (.iconst 1, 1) := by decide +kernel
theorem d_156_102 : decode prog_12_method_26_code 102 = .ok (.isub, 1) := by decide +kernel
theorem d_156_103 : decode prog_12_method_26_code 103 = .ok (.iaload, 1) := by decide +kernel
theorem d_156_104 : decode prog_12_method_26_code 104 = .ok (.bipush 15, 2) := by decide +kernel
theorem d_156_106 : decode prog_12_method_26_code 106 = .ok (.if_icmp .ne 10, 3) := by decide +kernel
theorem d_156_109 : decode prog_12_method_26_code 109 = .ok (.aload_n 0, 1) := by decide +kernel
theorem d_156_110 : decode prog_12_method_26_code 110 = .ok (.invokevirtual 176, 3) := by decide +kernel
theorem d_156_113 : decode prog_12_method_26_code 113 = .ok (.goto (-47), 3) := by decide +kernel
theorem d_156_116 : decode prog_12_method_26_code 116 = .ok (.aload_n 0, 1) := by decide +kernel
theorem d_156_117 : decode prog_12_method_26_code 117 = .ok (.iload_n 1, 1) := by decide +kernel
theorem d_156_118 : decode prog_12_method_26_code 118 = .ok (.ifCond .eq 8, 3) := by decide +kernel
theorem d_156_121 : decode prog_12_method_26_code 121 = .ok (.bipush 14, 2) := by decide +kernel
theorem d_156_123 : decode prog_12_method_26_code 123 = .ok (.goto 5, 3) := by decide +kernel
theorem d_156_126 : decode prog_12_method_26_code 126 = .ok (.bipush 15, 2) := by decide +kernel
theorem d_156_128 : decode prog_12_method_26_code 128 = .ok (.invokevirtual 188, 3) := by decide +kernel
theorem d_156_131 : decode prog_12_method_26_code 131 = .ok (.aload_n 0, 1) := by decide +kernel
theorem d_156_132 : decode prog_12_method_26_code 132 = .ok (.iconst 1, 1) := by decide +kernel
theorem d_156_133 : decode prog_12_method_26_code 133 = .ok (.putfield 143, 3) := by decide +kernel
theorem d_156_136 : decode prog_12_method_26_code 136 = .ok (.iconst 1, 1) := by decide +kernel
theorem d_156_137 : decode prog_12_method_26_code 137 = .ok (.ireturn, 1) := by decide +kernel
theorem d_156_138 : decode prog_12_method_26_code 138 = .ok (.iconst 0, 1) := by decide +kernel
theorem d_156_139 : decode prog_12_method_26_code 139 = .ok (.istore_n 2, 1) := by decide +kernel
theorem d_156_140 : decode prog_12_method_26_code 140 = .ok (.iconst 0, 1) := by decide +kernel
theorem d_156_141 : decode prog_12_method_26_code 141 = .ok (.istore_n 3, 1) := by decide +kernel
theorem d_156_142 : decode prog_12_method_26_code 142 = .ok (.iload_n 3, 1) := by decide +kernel
theorem d_156_143 : decode prog_12_method_26_code 143 = .ok (.aload_n 0, 1) := by decide +kernel
theorem d_156_144 : decode prog_12_method_26_code 144 = .ok (.getfield 173, 3) := by decide +kernel
theorem d_156_147 : decode prog_12_method_26_code 147 = .ok (.if_icmp .ge 30, 3) := by decide +kernel
theorem d_156_150 : decode prog_12_method_26_code 150 = .ok (.iload_n 2, 1) := by decide +kernel
theorem d_156_151 : decode prog_12_method_26_code 151 = .ok (.ifCond .ne 14, 3) := by decide +kernel
theorem d_156_154 : decode prog_12_method_26_code 154 = .ok (.aload_n 0, 1) := by decide +kernel
theorem d_156_155 : decode prog_12_method_26_code 155 = .ok (.getfield 29, 3) := by decide +kernel
theorem d_156_158 : decode prog_12_method_26_code 158 = .ok (.iload_n 3, 1) := by decide +kernel
theorem d_156_159 : decode prog_12_method_26_code 159 = .ok (.iaload, 1) := by decide +kernel
theorem d_156_160 : decode prog_12_method_26_code 160 = .ok (.bipush 16, 2) := by decide +kernel
theorem d_156_162 : decode prog_12_method_26_code 162 = .ok (.if_icmp .ne 7, 3) := by decide +kernel
theorem d_156_165 : decode prog_12_method_26_code 165 = .ok (.iconst 1, 1) := by decide +kernel
theorem d_156_166 : decode prog_12_method_26_code 166 = .ok (.goto 4, 3) := by decide +kernel
theorem d_156_169 : decode prog_12_method_26_code 169 = .ok (.iconst 0, 1) := by decide +kernel
theorem d_156_170 : decode prog_12_method_26_code 170 = .ok (.istore_n 2, 1) := by decide +kernel
theorem d_156_171 : decode prog_12_method_26_code 171 = .ok (.iinc 3 1, 3) := by decide +kernel
theorem d_156_174 : decode prog_12_method_26_code 174 = .ok (.goto (-32), 3) := by decide +kernel
theorem d_156_177 : decode prog_12_method_26_code 177 = .ok (.iload_n 2, 1) := by decide +kernel
theorem d_156_178 : decode prog_12_method_26_code 178 = .ok (.ifCond .eq 12, 3) := by decide +kernel
theorem d_156_181 : decode prog_12_method_26_code 181 = .ok (.aload_n 0, 1) := by decide +kernel
theorem d_156_182 : decode prog_12_method_26_code 182 = .ok (.bipush 93, 2) := by decide +kernel
theorem d_156_184 : decode prog_12_method_26_code 184 = .ok (.invokevirtual 150, 3) := by decide +kernel
theorem d_156_187 : decode prog_12_method_26_code 187 = .ok (.ifCond .ne 5, 3) := by decide +kernel
theorem d_156_190 : decode prog_12_method_26_code 190 = .ok (.iconst 0, 1) := by decide +kernel
theorem d_156_191 : decode prog_12_method_26_code 191 = .ok (.ireturn, 1) := by decide +kernel
theorem d_156_192 : decode prog_12_method_26_code 192 = .ok (.aload_n 0, 1) := by decide +kernel
theorem d_156_193 : decode prog_12_method_26_code 193 = .ok (.getfield 29, 3) := by decide +kernel
theorem d_156_196 : decode prog_12_method_26_code 196 = .ok (.aload_n 0, 1) := by decide +kernel
theorem d_156_197 : decode prog_12_method_26_code 197 = .ok (.getfield 173, 3) := by decide +kernel
theorem d_156_200 : decode prog_12_method_26_code 200 = .ok (.iconst 1, 1) := by decide +kernel
theorem d_156_201 : decode prog_12_method_26_code 201 = .ok (.isub, 1) := by decide +kernel
theorem d_156_202 : decode prog_12_method_26_code 202 = .ok (.iaload, 1) := by decide +kernel
theorem d_156_203 : decode prog_12_method_26_code 203 = .ok (.bipush 16, 2) := by decide +kernel
theorem d_156_205 : decode prog_12_method_26_code 205 = .ok (.if_icmp .eq 10, 3) := by decide +kernel
theorem d_156_208 : decode prog_12_method_26_code 208 = .ok (.aload_n 0, 1) := by decide +kernel
theorem d_156_209 : decode prog_12_method_26_code 209 = .ok (.invokevirtual 176, 3) := by decide +kernel
theorem d_156_212 : decode prog_12_method_26_code 212 = .ok (.goto (-20), 3) := by decide +kernel
theorem d_156_215 : decode prog_12_method_26_code 215 = .ok (.aload_n 0, 1) := by decide +kernel
theorem d_156_216 : decode prog_12_method_26_code 216 = .ok (.dup, 1) := by decide +kernel
theorem d_156_217 : decode prog_12_method_26_code 217 = .ok (.getfield 173, 3) := by decide +kernel
theorem d_156_220 : decode prog_12_method_26_code 220 = .ok (.iconst 1, 1) := by decide +kernel
theorem d_156_221 : decode prog_12_method_26_code 221 = .ok (.isub, 1) := by decide +kernel
theorem d_156_222 : decode prog_12_method_26_code 222 = .ok (.putfield 173, 3) := by decide +kernel
theorem d_156_225 : decode prog_12_method_26_code 225 = .ok (.aload_n 0, 1) := by decide +kernel
theorem d_156_226 : decode prog_12_method_26_code 226 = .ok (.dup, 1) := by decide +kernel
theorem d_156_227 : decode prog_12_method_26_code 227 = .ok (.getfield 129, 3) := by decide +kernel
theorem d_156_230 : decode prog_12_method_26_code 230 = .ok (.iconst 1, 1) := by decide +kernel
theorem d_156_231 : decode prog_12_method_26_code 231 = .ok (.isub, 1) := by decide +kernel
theorem d_156_232 : decode prog_12_method_26_code 232 = .ok (.putfield 129, 3) := by decide +kernel
theorem d_156_235 : decode prog_12_method_26_code 235 = .ok (.aload_n 0, 1) := by decide +kernel
theorem d_156_236 : decode prog_12_method_26_code 236 = .ok (.invokevirtual 194, 3) := by decide +kernel
theorem d_156_239 : decode prog_12_method_26_code 239 = .ok (.iconst 1, 1) := by decide +kernel
theorem d_156_240 : decode prog_12_method_26_code 240 = .ok (.ireturn, 1) := by decide +kernel
set_option maxRecDepth 20000 in
theorem ok_156 : ∀ r ∈ tb_156, sm_ok 156 r := List.forall_mem_cons.mpr ⟨d_156_0, List.forall_mem_cons.mpr ⟨d_156_1, List.forall_mem_cons.mpr ⟨d_156_3, List.forall_mem_cons.mpr ⟨d_156_5, List.forall_mem_cons.mpr ⟨d_156_7, List.forall_mem_cons.mpr ⟨d_156_8, List.forall_mem_cons.mpr ⟨d_156_9, List.forall_mem_cons.mpr ⟨⟨d_156_10, (Or.inl ⟨Nat.le_of_ble_eq_true rfl, mo_139, ms_139, pm_172⟩)⟩, List.forall_mem_cons.mpr ⟨⟨d_156_13, ⟨mo_142, mi_142, se_142, pm_173⟩⟩, List.forall_mem_cons.mpr ⟨d_156_16, List.forall_mem_cons.mpr ⟨d_156_17, List.forall_mem_cons.mpr ⟨⟨d_156_18, (by decide)⟩, List.forall_mem_cons.mpr ⟨d_156_21, List.forall_mem_cons.mpr ⟨d_156_22, List.forall_mem_cons.mpr ⟨d_156_24, List.forall_mem_cons.mpr ⟨d_156_26, List.forall_mem_cons.mpr ⟨d_156_27, List.forall_mem_cons.mpr ⟨d_156_28, List.forall_mem_cons.mpr ⟨d_156_29, List.forall_mem_cons.mpr ⟨⟨d_156_30, (Or.inl ⟨Nat.le_of_ble_eq_true rfl, mo_139, ms_139, pm_172⟩)⟩, List.forall_mem_cons.mpr ⟨⟨d_156_33, ⟨mo_142, mi_142, se_142, pm_173⟩⟩, List.forall_mem_cons.mpr ⟨⟨d_156_36, (by decide)⟩, List.forall_mem_cons.mpr ⟨d_156_39, List.forall_mem_cons.mpr ⟨d_156_40, List.forall_mem_cons.mpr ⟨⟨d_156_41, Or.inl pf_267⟩, List.forall_mem_cons.mpr ⟨⟨d_156_44, (by decide)⟩, List.forall_mem_cons.mpr ⟨d_156_47, List.forall_mem_cons.mpr ⟨⟨d_156_48, (by decide)⟩, List.forall_mem_cons.mpr ⟨d_156_51, List.forall_mem_cons.mpr ⟨⟨d_156_52, Or.inl pf_248⟩, List.forall_mem_cons.mpr ⟨⟨d_156_55, (by decide)⟩, List.forall_mem_cons.mpr ⟨d_156_58, List.forall_mem_cons.mpr ⟨⟨d_156_59, (by decide)⟩, List.forall_mem_cons.mpr ⟨d_156_62, List.forall_mem_cons.mpr ⟨⟨d_156_63, pf_268⟩, List.forall_mem_cons.mpr ⟨d_156_66, List.forall_mem_cons.mpr ⟨⟨d_156_67, Or.inl pf_255⟩, List.forall_mem_cons.mpr ⟨⟨d_156_70, (by decide)⟩, List.forall_mem_cons.mpr ⟨d_156_73, List.forall_mem_cons.mpr ⟨⟨d_156_74, Or.inl pf_257⟩, List.forall_mem_cons.mpr ⟨d_156_77, List.forall_mem_cons.mpr ⟨⟨d_156_78, Or.inl pf_255⟩, List.forall_mem_cons.mpr ⟨d_156_81, List.forall_mem_cons.mpr ⟨d_156_82, List.forall_mem_cons.mpr ⟨d_156_83, List.forall_mem_cons.mpr ⟨d_156_84, List.forall_mem_cons.mpr ⟨⟨d_156_86, (by decide)⟩, List.forall_mem_cons.mpr ⟨d_156_89, List.forall_mem_cons.mpr ⟨⟨d_156_90, (by decide)⟩, List.forall_mem_cons.mpr ⟨d_156_93, List.forall_mem_cons.mpr ⟨⟨d_156_94, Or.inl pf_257⟩, List.forall_mem_cons.mpr ⟨d_156_97, List.forall_mem_cons.mpr ⟨⟨d_156_98, Or.inl pf_255⟩, List.forall_mem_cons.mpr ⟨d_156_101, List.forall_mem_cons.mpr ⟨d_156_102, List.forall_mem_cons.mpr ⟨d_156_103, List.forall_mem_cons.mpr ⟨d_156_104, List.forall_mem_cons.mpr ⟨⟨d_156_106, (by decide)⟩, List.forall_mem_cons.mpr ⟨d_156_109, List.forall_mem_cons.mpr ⟨⟨d_156_110, ⟨mo_152, mi_152, se_152, pm_177⟩⟩, List.forall_mem_cons.mpr ⟨⟨d_156_113, (by decide)⟩, List.forall_mem_cons.mpr ⟨d_156_116, List.forall_mem_cons.mpr ⟨d_156_117, List.forall_mem_cons.mpr ⟨⟨d_156_118, (by decide)⟩, List.forall_mem_cons.mpr ⟨d_156_121, List.forall_mem_cons.mpr ⟨⟨d_156_123, (by decide)⟩, List.forall_mem_cons.mpr ⟨d_156_126, List.forall_mem_cons.mpr ⟨⟨d_156_128, ⟨mo_153, mi_153, se_153, pm_178⟩⟩, List.forall_mem_cons.mpr ⟨d_156_131, List.forall_mem_cons.mpr ⟨d_156_132, List.forall_mem_cons.mpr ⟨⟨d_156_133, pf_253⟩, List.forall_mem_cons.mpr ⟨d_156_136, List.forall_mem_cons.mpr ⟨d_156_137, List.forall_mem_cons.mpr ⟨d_156_138, List.forall_mem_cons.mpr ⟨d_156_139, List.forall_mem_cons.mpr ⟨d_156_140, List.forall_mem_cons.mpr ⟨d_156_141, List.forall_mem_cons.mpr ⟨d_156_142, List.forall_mem_cons.mpr ⟨d_156_143, List.forall_mem_cons.mpr ⟨⟨d_156_144, Or.inl pf_255⟩, List.forall_mem_cons.mpr ⟨⟨d_156_147, (by decide)⟩, List.forall_mem_cons.mpr ⟨d_156_150, List.forall_mem_cons.mpr ⟨⟨d_156_151, (by decide)⟩, List.forall_mem_cons.mpr ⟨d_156_154, List.forall_mem_cons.mpr ⟨⟨d_156_155, Or.inl pf_257⟩, List.forall_mem_cons.mpr ⟨d_156_158, List.forall_mem_cons.mpr ⟨d_156_159, List.forall_mem_cons.mpr ⟨d_156_160, List.forall_mem_cons.mpr ⟨⟨d_156_162, (by decide)⟩, List.forall_mem_cons.mpr ⟨d_156_165, List.forall_mem_cons.mpr ⟨⟨d_156_166, (by decide)⟩, List.forall_mem_cons.mpr ⟨d_156_169, List.forall_mem_cons.mpr ⟨d_156_170, List.forall_mem_cons.mpr ⟨d_156_171, List.forall_mem_cons.mpr ⟨⟨d_156_174, (by decide)⟩, List.forall_mem_cons.mpr ⟨d_156_177, List.forall_mem_cons.mpr ⟨⟨d_156_178, (by decide)⟩, List.forall_mem_cons.mpr ⟨d_156_181, List.forall_mem_cons.mpr ⟨d_156_182, List.forall_mem_cons.mpr ⟨⟨d_156_184, ⟨mo_141, mi_141, se_141, pm_170⟩⟩, List.forall_mem_cons.mpr ⟨⟨d_156_187, (by decide)⟩, List.forall_mem_cons.mpr ⟨d_156_190, List.forall_mem_cons.mpr ⟨d_156_191, List.forall_mem_cons.mpr ⟨d_156_192, List.forall_mem_cons.mpr ⟨⟨d_156_193, Or.inl pf_257⟩, List.forall_mem_cons.mpr ⟨d_156_196, List.forall_mem_cons.mpr ⟨⟨d_156_197, Or.inl pf_255⟩, List.forall_mem_cons.mpr ⟨d_156_200, List.forall_mem_cons.mpr ⟨d_156_201, List.forall_mem_cons.mpr ⟨d_156_202, List.forall_mem_cons.mpr ⟨d_156_203, List.forall_mem_cons.mpr ⟨⟨d_156_205, (by decide)⟩, List.forall_mem_cons.mpr ⟨d_156_208, List.forall_mem_cons.mpr ⟨⟨d_156_209, ⟨mo_152, mi_152, se_152, pm_177⟩⟩, List.forall_mem_cons.mpr ⟨⟨d_156_212, (by decide)⟩, List.forall_mem_cons.mpr ⟨d_156_215, List.forall_mem_cons.mpr ⟨d_156_216, List.forall_mem_cons.mpr ⟨⟨d_156_217, Or.inl pf_255⟩, List.forall_mem_cons.mpr ⟨d_156_220, List.forall_mem_cons.mpr ⟨d_156_221, List.forall_mem_cons.mpr ⟨⟨d_156_222, pf_256⟩, List.forall_mem_cons.mpr ⟨d_156_225, List.forall_mem_cons.mpr ⟨d_156_226, List.forall_mem_cons.mpr ⟨⟨d_156_227, Or.inl pf_248⟩, List.forall_mem_cons.mpr ⟨d_156_230, List.forall_mem_cons.mpr ⟨d_156_231, List.forall_mem_cons.mpr ⟨⟨d_156_232, pf_258⟩, List.forall_mem_cons.mpr ⟨d_156_235, List.forall_mem_cons.mpr ⟨⟨d_156_236, ⟨mo_154, mi_154, se_154, pm_180⟩⟩, List.forall_mem_cons.mpr ⟨d_156_239, List.forall_mem_cons.mpr ⟨d_156_240, fun _ h => absurd h List.not_mem_nil⟩⟩⟩⟩⟩⟩⟩⟩⟩⟩⟩⟩⟩⟩⟩⟩⟩⟩⟩⟩⟩⟩⟩⟩⟩⟩⟩⟩⟩⟩⟩⟩⟩⟩⟩⟩⟩⟩⟩⟩⟩⟩⟩⟩⟩⟩⟩⟩⟩⟩⟩⟩⟩⟩⟩⟩⟩⟩⟩⟩⟩⟩⟩⟩⟩⟩⟩⟩⟩⟩⟩⟩⟩⟩⟩⟩⟩⟩⟩⟩⟩⟩⟩⟩⟩⟩⟩⟩⟩⟩⟩⟩⟩⟩⟩⟩⟩⟩⟩⟩⟩⟩⟩⟩⟩⟩⟩⟩⟩⟩⟩⟩⟩⟩⟩⟩⟩⟩⟩⟩⟩⟩⟩⟩⟩⟩⟩⟩⟩⟩⟩
