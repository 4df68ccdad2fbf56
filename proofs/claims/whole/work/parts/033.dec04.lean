/-! DECODE ROWS, by program -/
theorem d_115_0 : decode prog_2_method_3_code 0 = .ok (.iload_n 2, 1) := by decide +kernel
theorem d_115_1 : decode prog_2_method_3_code 1 = .ok (.iconst (-1), 1) := by decide +kernel
theorem d_115_2 : decode prog_2_method_3_code 2 = .ok (.if_icmp .eq 23, 3) := by decide +kernel
theorem d_115_5 : decode prog_2_method_3_code 5 = .ok (.aload_n 0, 1) := by decide +kernel
theorem d_115_6 : decode prog_2_method_3_code 6 = .ok (.getfield 19, 3) := by decide +kernel
theorem d_115_9 : decode prog_2_method_3_code 9 = .ok (.iload_n 3, 1) := by decide +kernel
theorem d_115_10 : decode prog_2_method_3_code 10 = .ok (.iload 4, 2) := by decide +kernel
theorem d_115_12 : decode prog_2_method_3_code 12 = .ok (.invokevirtual 54, 3) := by decide +kernel
theorem d_115_15 : decode prog_2_method_3_code 15 = .ok (.aload_n 0, 1) := by decide +kernel
theorem d_115_16 : decode prog_2_method_3_code 16 = .ok (.getfield 26, 3) := by decide +kernel
theorem d_115_19 : decode prog_2_method_3_code 19 = .ok (.iconst (-1), 1) := by decide +kernel
theorem d_115_20 : decode prog_2_method_3_code 20 = .ok (.ixor, 1) := by decide +kernel
theorem d_115_21 : decode prog_2_method_3_code 21 = .ok (.iand, 1) := by decide +kernel
theorem d_115_22 : decode prog_2_method_3_code 22 = .ok (.ifCond .eq 4, 3) := by decide +kernel
theorem d_115_25 : decode prog_2_method_3_code 25 = .ok (.return_, 1) := by decide +kernel
theorem d_115_26 : decode prog_2_method_3_code 26 = .ok (.iload_n 2, 1) := by decide +kernel
theorem d_115_27 : decode prog_2_method_3_code 27 = .ok (.ifCond .ne 15, 3) := by decide +kernel
theorem d_115_30 : decode prog_2_method_3_code 30 = .ok (.aload_n 0, 1) := by decide +kernel
theorem d_115_31 : decode prog_2_method_3_code 31 = .ok (.iconst 3, 1) := by decide +kernel
theorem d_115_32 : decode prog_2_method_3_code 32 = .ok (.iload_n 2, 1) := by decide +kernel
theorem d_115_33 : decode prog_2_method_3_code 33 = .ok (.iload_n 3, 1) := by decide +kernel
theorem d_115_34 : decode prog_2_method_3_code 34 = .ok (.iload 4, 2) := by decide +kernel
theorem d_115_36 : decode prog_2_method_3_code 36 = .ok (.invokevirtual 58, 3) := by decide +kernel
theorem d_115_39 : decode prog_2_method_3_code 39 = .ok (.goto 28, 3) := by decide +kernel
theorem d_115_42 : decode prog_2_method_3_code 42 = .ok (.aload_n 0, 1) := by decide +kernel
theorem d_115_43 : decode prog_2_method_3_code 43 = .ok (.getfield 11, 3) := by decide +kernel
theorem d_115_46 : decode prog_2_method_3_code 46 = .ok (.iconst 1, 1) := by decide +kernel
theorem d_115_47 : decode prog_2_method_3_code 47 = .ok (.if_icmp .ne 20, 3) := by decide +kernel
theorem d_115_50 : decode prog_2_method_3_code 50 = .ok (.aload_n 1, 1) := by decide +kernel
theorem d_115_51 : decode prog_2_method_3_code 51 = .ok (.iload_n 2, 1) := by decide +kernel
theorem d_115_52 : decode prog_2_method_3_code 52 = .ok (.invokevirtual 62, 3) := by decide +kernel
theorem d_115_55 : decode prog_2_method_3_code 55 = .ok (.ifCond .eq 12, 3) := by decide +kernel
theorem d_115_58 : decode prog_2_method_3_code 58 = .ok (.aload_n 0, 1) := by decide +kernel
theorem d_115_59 : decode prog_2_method_3_code 59 = .ok (.iconst 2, 1) := by decide +kernel
theorem d_115_60 : decode prog_2_method_3_code 60 = .ok (.iload_n 2, 1) := by decide +kernel
theorem d_115_61 : decode prog_2_method_3_code 61 = .ok (.iload_n 3, 1) := by decide +kernel
theorem d_115_62 : decode prog_2_method_3_code 62 = .ok (.iload 4, 2) := by decide +kernel
theorem d_115_64 : decode prog_2_method_3_code 64 = .ok (.invokevirtual 58, 3) := by decide +kernel
theorem d_115_67 : decode prog_2_method_3_code 67 = .ok (.return_, 1) := by decide +kernel
set_option maxRecDepth 20000 in
theorem ok_115 : ∀ r ∈ tb_115, sm_ok 115 r := List.forall_mem_cons.mpr ⟨d_115_0, List.forall_mem_cons.mpr ⟨d_115_1, List.forall_mem_cons.mpr ⟨⟨d_115_2, (by decide)⟩, List.forall_mem_cons.mpr ⟨d_115_5, List.forall_mem_cons.mpr ⟨⟨d_115_6, Or.inl pf_152⟩, List.forall_mem_cons.mpr ⟨d_115_9, List.forall_mem_cons.mpr ⟨d_115_10, List.forall_mem_cons.mpr ⟨⟨d_115_12, ⟨mo_49, mi_49, se_49, pm_140⟩⟩, List.forall_mem_cons.mpr ⟨d_115_15, List.forall_mem_cons.mpr ⟨⟨d_115_16, Or.inl pf_154⟩, List.forall_mem_cons.mpr ⟨d_115_19, List.forall_mem_cons.mpr ⟨d_115_20, List.forall_mem_cons.mpr ⟨d_115_21, List.forall_mem_cons.mpr ⟨⟨d_115_22, (by decide)⟩, List.forall_mem_cons.mpr ⟨d_115_25, List.forall_mem_cons.mpr ⟨d_115_26, List.forall_mem_cons.mpr ⟨⟨d_115_27, (by decide)⟩, List.forall_mem_cons.mpr ⟨d_115_30, List.forall_mem_cons.mpr ⟨d_115_31, List.forall_mem_cons.mpr ⟨d_115_32, List.forall_mem_cons.mpr ⟨d_115_33, List.forall_mem_cons.mpr ⟨d_115_34, List.forall_mem_cons.mpr ⟨⟨d_115_36, ⟨mo_116, mi_116, se_116, pm_141⟩⟩, List.forall_mem_cons.mpr ⟨⟨d_115_39, (by decide)⟩, List.forall_mem_cons.mpr ⟨d_115_42, List.forall_mem_cons.mpr ⟨⟨d_115_43, Or.inl pf_148⟩, List.forall_mem_cons.mpr ⟨d_115_46, List.forall_mem_cons.mpr ⟨⟨d_115_47, (by decide)⟩, List.forall_mem_cons.mpr ⟨d_115_50, List.forall_mem_cons.mpr ⟨d_115_51, List.forall_mem_cons.mpr ⟨⟨d_115_52, ⟨mo_28, mi_28, se_28, pm_142⟩⟩, List.forall_mem_cons.mpr ⟨⟨d_115_55, (by decide)⟩, List.forall_mem_cons.mpr ⟨d_115_58, List.forall_mem_cons.mpr ⟨d_115_59, List.forall_mem_cons.mpr ⟨d_115_60, List.forall_mem_cons.mpr ⟨d_115_61, List.forall_mem_cons.mpr ⟨d_115_62, List.forall_mem_cons.mpr ⟨⟨d_115_64, ⟨mo_116, mi_116, se_116, pm_141⟩⟩, List.forall_mem_cons.mpr ⟨d_115_67, fun _ h => absurd h List.not_mem_nil⟩⟩⟩⟩⟩⟩⟩⟩⟩⟩⟩⟩⟩⟩⟩⟩⟩⟩⟩⟩⟩⟩⟩⟩⟩⟩⟩⟩⟩⟩⟩⟩⟩⟩⟩⟩⟩⟩⟩
theorem d_116_0 : decode prog_2_method_4_code 0 = .ok (.aload_n 0, 1) := by decide +kernel
theorem d_116_1 : decode prog_2_method_4_code 1 = .ok (.iload_n 1, 1) := by decide +kernel
theorem d_116_2 : decode prog_2_method_4_code 2 = .ok (.putfield 11, 3) := by decide +kernel
theorem d_116_5 : decode prog_2_method_4_code 5 = .ok (.aload_n 0, 1) := by decide +kernel
theorem d_116_6 : decode prog_2_method_4_code 6 = .ok (.iload_n 2, 1) := by decide +kernel
theorem d_116_7 : decode prog_2_method_4_code 7 = .ok (.putfield 68, 3) := by decide +kernel
theorem d_116_10 : decode prog_2_method_4_code 10 = .ok (.aload_n 0, 1) := by decide +kernel
theorem d_116_11 : decode prog_2_method_4_code 11 = .ok (.iload_n 3, 1) := by decide +kernel
theorem d_116_12 : decode prog_2_method_4_code 12 = .ok (.putfield 71, 3) := by decide +kernel
theorem d_116_15 : decode prog_2_method_4_code 15 = .ok (.aload_n 0, 1) := by decide +kernel
theorem d_116_16 : decode prog_2_method_4_code 16 = .ok (.iload 4, 2) := by decide +kernel
theorem d_116_18 : decode prog_2_method_4_code 18 = .ok (.putfield 74, 3) := by decide +kernel
theorem d_116_21 : decode prog_2_method_4_code 21 = .ok (.return_, 1) := by decide +kernel
set_option maxRecDepth 20000 in
theorem ok_116 : ∀ r ∈ tb_116, sm_ok 116 r := List.forall_mem_cons.mpr ⟨d_116_0, List.forall_mem_cons.mpr ⟨d_116_1, List.forall_mem_cons.mpr ⟨⟨d_116_2, pf_141⟩, List.forall_mem_cons.mpr ⟨d_116_5, List.forall_mem_cons.mpr ⟨d_116_6, List.forall_mem_cons.mpr ⟨⟨d_116_7, pf_155⟩, List.forall_mem_cons.mpr ⟨d_116_10, List.forall_mem_cons.mpr ⟨d_116_11, List.forall_mem_cons.mpr ⟨⟨d_116_12, pf_156⟩, List.forall_mem_cons.mpr ⟨d_116_15, List.forall_mem_cons.mpr ⟨d_116_16, List.forall_mem_cons.mpr ⟨⟨d_116_18, pf_157⟩, List.forall_mem_cons.mpr ⟨d_116_21, fun _ h => absurd h List.not_mem_nil⟩⟩⟩⟩⟩⟩⟩⟩⟩⟩⟩⟩⟩
theorem d_117_0 : decode prog_2_method_5_code 0 = .ok (.aload_n 0, 1) := by decide +kernel
theorem d_117_1 : decode prog_2_method_5_code 1 = .ok (.getfield 11, 3) := by decide +kernel
theorem d_117_4 : decode prog_2_method_5_code 4 = .ok (.lookupswitch 39 #[(2, 30), (3, 28)], 28) := by decide +kernel
theorem d_117_32 : decode prog_2_method_5_code 32 = .ok (.iconst 1, 1) := by decide +kernel
theorem d_117_33 : decode prog_2_method_5_code 33 = .ok (.ireturn, 1) := by decide +kernel
theorem d_117_34 : decode prog_2_method_5_code 34 = .ok (.aload_n 1, 1) := by decide +kernel
theorem d_117_35 : decode prog_2_method_5_code 35 = .ok (.getfield 77, 3) := by decide +kernel
theorem d_117_38 : decode prog_2_method_5_code 38 = .ok (.iconst 1, 1) := by decide +kernel
theorem d_117_39 : decode prog_2_method_5_code 39 = .ok (.iadd, 1) := by decide +kernel
theorem d_117_40 : decode prog_2_method_5_code 40 = .ok (.iconst 2, 1) := by decide +kernel
theorem d_117_41 : decode prog_2_method_5_code 41 = .ok (.idiv, 1) := by decide +kernel
theorem d_117_42 : decode prog_2_method_5_code 42 = .ok (.ireturn, 1) := by decide +kernel
theorem d_117_43 : decode prog_2_method_5_code 43 = .ok (.aload_n 1, 1) := by decide +kernel
theorem d_117_44 : decode prog_2_method_5_code 44 = .ok (.getfield 77, 3) := by decide +kernel
theorem d_117_47 : decode prog_2_method_5_code 47 = .ok (.ireturn, 1) := by decide +kernel
set_option maxRecDepth 20000 in
theorem ok_117 : ∀ r ∈ tb_117, sm_ok 117 r := List.forall_mem_cons.mpr ⟨d_117_0, List.forall_mem_cons.mpr ⟨⟨d_117_1, Or.inl pf_148⟩, List.forall_mem_cons.mpr ⟨⟨⟨_, d_117_4⟩, by decide⟩, List.forall_mem_cons.mpr ⟨d_117_32, List.forall_mem_cons.mpr ⟨d_117_33, List.forall_mem_cons.mpr ⟨d_117_34, List.forall_mem_cons.mpr ⟨⟨d_117_35, Or.inl pf_158⟩, List.forall_mem_cons.mpr ⟨d_117_38, List.forall_mem_cons.mpr ⟨d_117_39, List.forall_mem_cons.mpr ⟨d_117_40, List.forall_mem_cons.mpr ⟨d_117_41, List.forall_mem_cons.mpr ⟨d_117_42, List.forall_mem_cons.mpr ⟨d_117_43, List.forall_mem_cons.mpr ⟨⟨d_117_44, Or.inl pf_158⟩, List.forall_mem_cons.mpr ⟨d_117_47, fun _ h => absurd h List.not_mem_nil⟩⟩⟩⟩⟩⟩⟩⟩⟩⟩⟩⟩⟩⟩⟩
theorem d_118_0 : decode prog_7_method_1_code 0 = .ok (.aload_n 0, 1) := by decide +kernel
theorem d_118_1 : decode prog_7_method_1_code 1 = .ok (.invokespecial 3, 3) := by decide +kernel
theorem d_118_4 : decode prog_7_method_1_code 4 = .ok (.aload_n 0, 1) := by decide +kernel
theorem d_118_5 : decode prog_7_method_1_code 5 = .ok (.bipush 20, 2) := by decide +kernel
theorem d_118_7 : decode prog_7_method_1_code 7 = .ok (.newarray .int, 2) := by decide +kernel
theorem d_118_9 : decode prog_7_method_1_code 9 = .ok (.putfield 9, 3) := by decide +kernel
theorem d_118_12 : decode prog_7_method_1_code 12 = .ok (.aload_n 0, 1) := by decide +kernel
theorem d_118_13 : decode prog_7_method_1_code 13 = .ok (.bipush 20, 2) := by decide +kernel
theorem d_118_15 : decode prog_7_method_1_code 15 = .ok (.newarray .int, 2) := by decide +kernel
theorem d_118_17 : decode prog_7_method_1_code 17 = .ok (.putfield 15, 3) := by decide +kernel
theorem d_118_20 : decode prog_7_method_1_code 20 = .ok (.aload_n 0, 1) := by decide +kernel
theorem d_118_21 : decode prog_7_method_1_code 21 = .ok (.bipush 60, 2) := by decide +kernel
theorem d_118_23 : decode prog_7_method_1_code 23 = .ok (.newarray .long, 2) := by decide +kernel
theorem d_118_25 : decode prog_7_method_1_code 25 = .ok (.putfield 18, 3) := by decide +kernel
theorem d_118_28 : decode prog_7_method_1_code 28 = .ok (.aload_n 0, 1) := by decide +kernel
theorem d_118_29 : decode prog_7_method_1_code 29 = .ok (.bipush 60, 2) := by decide +kernel
theorem d_118_31 : decode prog_7_method_1_code 31 = .ok (.newarray .int, 2) := by decide +kernel
theorem d_118_33 : decode prog_7_method_1_code 33 = .ok (.putfield 22, 3) := by decide +kernel
theorem d_118_36 : decode prog_7_method_1_code 36 = .ok (.aload_n 0, 1) := by decide +kernel
theorem d_118_37 : decode prog_7_method_1_code 37 = .ok (.bipush 60, 2) := by decide +kernel
theorem d_118_39 : decode prog_7_method_1_code 39 = .ok (.newarray .int, 2) := by decide +kernel
theorem d_118_41 : decode prog_7_method_1_code 41 = .ok (.putfield 25, 3) := by decide +kernel
theorem d_118_44 : decode prog_7_method_1_code 44 = .ok (.aload_n 0, 1) := by decide +kernel
theorem d_118_45 : decode prog_7_method_1_code 45 = .ok (.aload_n 1, 1) := by decide +kernel
theorem d_118_46 : decode prog_7_method_1_code 46 = .ok (.putfield 28, 3) := by decide +kernel
theorem d_118_49 : decode prog_7_method_1_code 49 = .ok (.aload_n 0, 1) := by decide +kernel
theorem d_118_50 : decode prog_7_method_1_code 50 = .ok (.aload_n 2, 1) := by decide +kernel
theorem d_118_51 : decode prog_7_method_1_code 51 = .ok (.putfield 32, 3) := by decide +kernel
theorem d_118_54 : decode prog_7_method_1_code 54 = .ok (.aload_n 0, 1) := by decide +kernel
theorem d_118_55 : decode prog_7_method_1_code 55 = .ok (.aload_n 3, 1) := by decide +kernel
theorem d_118_56 : decode prog_7_method_1_code 56 = .ok (.putfield 36, 3) := by decide +kernel
theorem d_118_59 : decode prog_7_method_1_code 59 = .ok (.aload_n 0, 1) := by decide +kernel
theorem d_118_60 : decode prog_7_method_1_code 60 = .ok (.new 40, 3) := by decide +kernel
theorem d_118_63 : decode prog_7_method_1_code 63 = .ok (.dup, 1) := by decide +kernel
theorem d_118_64 : decode prog_7_method_1_code 64 = .ok (.aload_n 1, 1) := by decide +kernel
theorem d_118_65 : decode prog_7_method_1_code 65 = .ok (.aload_n 2, 1) := by decide +kernel
theorem d_118_66 : decode prog_7_method_1_code 66 = .ok (.iconst 0, 1) := by decide +kernel
theorem d_118_67 : decode prog_7_method_1_code 67 = .ok (.iconst 0, 1) := by decide +kernel
theorem d_118_68 : decode prog_7_method_1_code 68 = .ok (.invokespecial 42, 3) := by decide +kernel
theorem d_118_71 : decode prog_7_method_1_code 71 = .ok (.putfield 45, 3) := by decide +kernel
theorem d_118_74 : decode prog_7_method_1_code 74 = .ok (.aload_n 0, 1) := by decide +kernel
theorem d_118_75 : decode prog_7_method_1_code 75 = .ok (.new 40, 3) := by decide +kernel
theorem d_118_78 : decode prog_7_method_1_code 78 = .ok (.dup, 1) := by decide +kernel
theorem d_118_79 : decode prog_7_method_1_code 79 = .ok (.aload_n 1, 1) := by decide +kernel
theorem d_118_80 : decode prog_7_method_1_code 80 = .ok (.aload_n 2, 1) := by decide +kernel
theorem d_118_81 : decode prog_7_method_1_code 81 = .ok (.iconst 1, 1) := by decide +kernel
theorem d_118_82 : decode prog_7_method_1_code 82 = .ok (.iconst 0, 1) := by decide +kernel
theorem d_118_83 : decode prog_7_method_1_code 83 = .ok (.invokespecial 42, 3) := by decide +kernel
theorem d_118_86 : decode prog_7_method_1_code 86 = .ok (.putfield 49, 3) := by decide +kernel
theorem d_118_89 : decode prog_7_method_1_code 89 = .ok (.aload_n 0, 1) := by decide +kernel
theorem d_118_90 : decode prog_7_method_1_code 90 = .ok (.new 40, 3) := by decide +kernel
theorem d_118_93 : decode prog_7_method_1_code 93 = .ok (.dup, 1) := by decide +kernel
theorem d_118_94 : decode prog_7_method_1_code 94 = .ok (.aload_n 1, 1) := by decide +kernel
theorem d_118_95 : decode prog_7_method_1_code 95 = .ok (.aload_n 2, 1) := by decide +kernel
theorem d_118_96 : decode prog_7_method_1_code 96 = .ok (.iconst 0, 1) := by decide +kernel
theorem d_118_97 : decode prog_7_method_1_code 97 = .ok (.iconst 2, 1) := by decide +kernel
theorem d_118_98 : decode prog_7_method_1_code 98 = .ok (.invokespecial 42, 3) := by decide +kernel
theorem d_118_101 : decode prog_7_method_1_code 101 = .ok (.putfield 52, 3) := by decide +kernel
theorem d_118_104 : decode prog_7_method_1_code 104 = .ok (.aload_n 0, 1) := by decide +kernel
theorem d_118_105 : decode prog_7_method_1_code 105 = .ok (.new 40, 3) := by decide +kernel
theorem d_118_108 : decode prog_7_method_1_code 108 = .ok (.dup, 1) := by decide +kernel
theorem d_118_109 : decode prog_7_method_1_code 109 = .ok (.aload_n 1, 1) := by decide +kernel
theorem d_118_110 : decode prog_7_method_1_code 110 = .ok (.aload_n 2, 1) := by decide +kernel
theorem d_118_111 : decode prog_7_method_1_code 111 = .ok (.iconst 1, 1) := by decide +kernel
theorem d_118_112 : decode prog_7_method_1_code 112 = .ok (.iconst 1, 1) := by decide +kernel
theorem d_118_113 : decode prog_7_method_1_code 113 = .ok (.invokespecial 42, 3) := by decide +kernel
theorem d_118_116 : decode prog_7_method_1_code 116 = .ok (.putfield 55, 3) := by decide +kernel
theorem d_118_119 : decode prog_7_method_1_code 119 = .ok (.aload_n 0, 1) := by decide +kernel
theorem d_118_120 : decode prog_7_method_1_code 120 = .ok (.aload_n 0, 1) := by decide +kernel
theorem d_118_121 : decode prog_7_method_1_code 121 = .ok (.getfield 45, 3) := by decide +kernel
theorem d_118_124 : decode prog_7_method_1_code 124 = .ok (.putfield 58, 3) := by decide +kernel
theorem d_118_127 : decode prog_7_method_1_code 127 = .ok (.aload_n 0, 1) := by decide +kernel
theorem d_118_128 : decode prog_7_method_1_code 128 = .ok (.aload_n 0, 1) := by decide +kernel
theorem d_118_129 : decode prog_7_method_1_code 129 = .ok (.getfield 55, 3) := by decide +kernel
theorem d_118_132 : decode prog_7_method_1_code 132 = .ok (.putfield 61, 3) := by decide +kernel
theorem d_118_135 : decode prog_7_method_1_code 135 = .ok (.return_, 1) := by decide +kernel
set_option maxRecDepth 20000 in
theorem ok_118 : ∀ r ∈ tb_118, sm_ok 118 r := List.forall_mem_cons.mpr ⟨d_118_0, List.forall_mem_cons.mpr ⟨⟨d_118_1, (Or.inl ⟨rfl, wd_297, wd_34, wd_35⟩)⟩, List.forall_mem_cons.mpr ⟨d_118_4, List.forall_mem_cons.mpr ⟨d_118_5, List.forall_mem_cons.mpr ⟨⟨d_118_7, ⟨wd_133, Or.inl ⟨rfl, rfl⟩⟩⟩, List.forall_mem_cons.mpr ⟨⟨d_118_9, pf_159 rfl⟩, List.forall_mem_cons.mpr ⟨d_118_12, List.forall_mem_cons.mpr ⟨d_118_13, List.forall_mem_cons.mpr ⟨⟨d_118_15, ⟨wd_133, Or.inl ⟨rfl, rfl⟩⟩⟩, List.forall_mem_cons.mpr ⟨⟨d_118_17, pf_160 rfl⟩, List.forall_mem_cons.mpr ⟨d_118_20, List.forall_mem_cons.mpr ⟨d_118_21, List.forall_mem_cons.mpr ⟨⟨d_118_23, ⟨wd_60, Or.inr (Or.inl ⟨rfl, rfl⟩)⟩⟩, List.forall_mem_cons.mpr ⟨⟨d_118_25, pf_161 rfl⟩, List.forall_mem_cons.mpr ⟨d_118_28, List.forall_mem_cons.mpr ⟨d_118_29, List.forall_mem_cons.mpr ⟨⟨d_118_31, ⟨wd_133, Or.inl ⟨rfl, rfl⟩⟩⟩, List.forall_mem_cons.mpr ⟨⟨d_118_33, pf_162 rfl⟩, List.forall_mem_cons.mpr ⟨d_118_36, List.forall_mem_cons.mpr ⟨d_118_37, List.forall_mem_cons.mpr ⟨⟨d_118_39, ⟨wd_133, Or.inl ⟨rfl, rfl⟩⟩⟩, List.forall_mem_cons.mpr ⟨⟨d_118_41, pf_163 rfl⟩, List.forall_mem_cons.mpr ⟨d_118_44, List.forall_mem_cons.mpr ⟨d_118_45, List.forall_mem_cons.mpr ⟨⟨d_118_46, pf_164 rfl⟩, List.forall_mem_cons.mpr ⟨d_118_49, List.forall_mem_cons.mpr ⟨d_118_50, List.forall_mem_cons.mpr ⟨⟨d_118_51, pf_165 rfl⟩, List.forall_mem_cons.mpr ⟨d_118_54, List.forall_mem_cons.mpr ⟨d_118_55, List.forall_mem_cons.mpr ⟨⟨d_118_56, pf_166 rfl⟩, List.forall_mem_cons.mpr ⟨d_118_59, List.forall_mem_cons.mpr ⟨⟨d_118_60, ⟨_, rfl, wd_306⟩⟩, List.forall_mem_cons.mpr ⟨d_118_63, List.forall_mem_cons.mpr ⟨d_118_64, List.forall_mem_cons.mpr ⟨d_118_65, List.forall_mem_cons.mpr ⟨d_118_66, List.forall_mem_cons.mpr ⟨d_118_67, List.forall_mem_cons.mpr ⟨⟨d_118_68, (Or.inr ⟨(by decide), mo_113, mi_113, rfl, rfl, pm_143⟩)⟩, List.forall_mem_cons.mpr ⟨⟨d_118_71, pf_167 rfl⟩, List.forall_mem_cons.mpr ⟨d_118_74, List.forall_mem_cons.mpr ⟨⟨d_118_75, ⟨_, rfl, wd_306⟩⟩, List.forall_mem_cons.mpr ⟨d_118_78, List.forall_mem_cons.mpr ⟨d_118_79, List.forall_mem_cons.mpr ⟨d_118_80, List.forall_mem_cons.mpr ⟨d_118_81, List.forall_mem_cons.mpr ⟨d_118_82, List.forall_mem_cons.mpr ⟨⟨d_118_83, (Or.inr ⟨(by decide), mo_113, mi_113, rfl, rfl, pm_143⟩)⟩, List.forall_mem_cons.mpr ⟨⟨d_118_86, pf_168 rfl⟩, List.forall_mem_cons.mpr ⟨d_118_89, List.forall_mem_cons.mpr ⟨⟨d_118_90, ⟨_, rfl, wd_306⟩⟩, List.forall_mem_cons.mpr ⟨d_118_93, List.forall_mem_cons.mpr ⟨d_118_94, List.forall_mem_cons.mpr ⟨d_118_95, List.forall_mem_cons.mpr ⟨d_118_96, List.forall_mem_cons.mpr ⟨d_118_97, List.forall_mem_cons.mpr ⟨⟨d_118_98, (Or.inr ⟨(by decide), mo_113, mi_113, rfl, rfl, pm_143⟩)⟩, List.forall_mem_cons.mpr ⟨⟨d_118_101, pf_169 rfl⟩, List.forall_mem_cons.mpr ⟨d_118_104, List.forall_mem_cons.mpr ⟨⟨d_118_105, ⟨_, rfl, wd_306⟩⟩, List.forall_mem_cons.mpr ⟨d_118_108, List.forall_mem_cons.mpr ⟨d_118_109, List.forall_mem_cons.mpr ⟨d_118_110, List.forall_mem_cons.mpr ⟨d_118_111, List.forall_mem_cons.mpr ⟨d_118_112, List.forall_mem_cons.mpr ⟨⟨d_118_113, (Or.inr ⟨(by decide), mo_113, mi_113, rfl, rfl, pm_143⟩)⟩, List.forall_mem_cons.mpr ⟨⟨d_118_116, pf_170 rfl⟩, List.forall_mem_cons.mpr ⟨d_118_119, List.forall_mem_cons.mpr ⟨d_118_120, List.forall_mem_cons.mpr ⟨⟨d_118_121, Or.inl pf_171⟩, List.forall_mem_cons.mpr ⟨⟨d_118_124, pf_172⟩, List.forall_mem_cons.mpr ⟨d_118_127, List.forall_mem_cons.mpr ⟨d_118_128, List.forall_mem_cons.mpr ⟨⟨d_118_129, Or.inl pf_173⟩, List.forall_mem_cons.mpr ⟨⟨d_118_132, pf_174⟩, List.forall_mem_cons.mpr ⟨d_118_135, fun _ h => absurd h List.not_mem_nil⟩⟩⟩⟩⟩⟩⟩⟩⟩⟩⟩⟩⟩⟩⟩⟩⟩⟩⟩⟩⟩⟩⟩⟩⟩⟩⟩⟩⟩⟩⟩⟩⟩⟩⟩⟩⟩⟩⟩⟩⟩⟩⟩⟩⟩⟩⟩⟩⟩⟩⟩⟩⟩⟩⟩⟩⟩⟩⟩⟩⟩⟩⟩⟩⟩⟩⟩⟩⟩⟩⟩⟩⟩⟩⟩⟩
theorem d_119_0 : decode prog_7_method_2_code 0 = .ok (.aload_n 0, 1) := by decide +kernel
theorem d_119_1 : decode prog_7_method_2_code 1 = .ok (.getfield 36, 3) := by decide +kernel
theorem d_119_4 : decode prog_7_method_2_code 4 = .ok (.iconst 0, 1) := by decide +kernel
theorem d_119_5 : decode prog_7_method_2_code 5 = .ok (.invokevirtual 64, 3) := by decide +kernel
theorem d_119_8 : decode prog_7_method_2_code 8 = .ok (.astore_n 1, 1) := by decide +kernel
theorem d_119_9 : decode prog_7_method_2_code 9 = .ok (.aload_n 0, 1) := by decide +kernel
theorem d_119_10 : decode prog_7_method_2_code 10 = .ok (.getfield 36, 3) := by decide +kernel
theorem d_119_13 : decode prog_7_method_2_code 13 = .ok (.iconst 1, 1) := by decide +kernel
theorem d_119_14 : decode prog_7_method_2_code 14 = .ok (.invokevirtual 64, 3) := by decide +kernel
theorem d_119_17 : decode prog_7_method_2_code 17 = .ok (.astore_n 2, 1) := by decide +kernel
theorem d_119_18 : decode prog_7_method_2_code 18 = .ok (.aload_n 0, 1) := by decide +kernel
theorem d_119_19 : decode prog_7_method_2_code 19 = .ok (.aload_n 0, 1) := by decide +kernel
theorem d_119_20 : decode prog_7_method_2_code 20 = .ok (.getfield 45, 3) := by decide +kernel
theorem d_119_23 : decode prog_7_method_2_code 23 = .ok (.putfield 58, 3) := by decide +kernel
theorem d_119_26 : decode prog_7_method_2_code 26 = .ok (.aload_n 0, 1) := by decide +kernel
theorem d_119_27 : decode prog_7_method_2_code 27 = .ok (.aload_n 0, 1) := by decide +kernel
theorem d_119_28 : decode prog_7_method_2_code 28 = .ok (.getfield 55, 3) := by decide +kernel
theorem d_119_31 : decode prog_7_method_2_code 31 = .ok (.putfield 61, 3) := by decide +kernel
theorem d_119_34 : decode prog_7_method_2_code 34 = .ok (.aload_n 0, 1) := by decide +kernel
theorem d_119_35 : decode prog_7_method_2_code 35 = .ok (.getfield 45, 3) := by decide +kernel
theorem d_119_38 : decode prog_7_method_2_code 38 = .ok (.aload_n 1, 1) := by decide +kernel
theorem d_119_39 : decode prog_7_method_2_code 39 = .ok (.invokevirtual 70, 3) := by decide +kernel
theorem d_119_42 : decode prog_7_method_2_code 42 = .ok (.aload_n 0, 1) := by decide +kernel
theorem d_119_43 : decode prog_7_method_2_code 43 = .ok (.invokevirtual 74, 3) := by decide +kernel
theorem d_119_46 : decode prog_7_method_2_code 46 = .ok (.ifCond .ne 4, 3) := by decide +kernel
theorem d_119_49 : decode prog_7_method_2_code 49 = .ok (.return_, 1) := by decide +kernel
theorem d_119_50 : decode prog_7_method_2_code 50 = .ok (.aload_n 0, 1) := by decide +kernel
theorem d_119_51 : decode prog_7_method_2_code 51 = .ok (.getfield 55, 3) := by decide +kernel
theorem d_119_54 : decode prog_7_method_2_code 54 = .ok (.aload_n 2, 1) := by decide +kernel
theorem d_119_55 : decode prog_7_method_2_code 55 = .ok (.invokevirtual 70, 3) := by decide +kernel
theorem d_119_58 : decode prog_7_method_2_code 58 = .ok (.aload_n 0, 1) := by decide +kernel
theorem d_119_59 : decode prog_7_method_2_code 59 = .ok (.getfield 49, 3) := by decide +kernel
theorem d_119_62 : decode prog_7_method_2_code 62 = .ok (.aload_n 2, 1) := by decide +kernel
theorem d_119_63 : decode prog_7_method_2_code 63 = .ok (.invokevirtual 70, 3) := by decide +kernel
theorem d_119_66 : decode prog_7_method_2_code 66 = .ok (.aload_n 0, 1) := by decide +kernel
theorem d_119_67 : decode prog_7_method_2_code 67 = .ok (.getfield 52, 3) := by decide +kernel
theorem d_119_70 : decode prog_7_method_2_code 70 = .ok (.aload_n 1, 1) := by decide +kernel
theorem d_119_71 : decode prog_7_method_2_code 71 = .ok (.invokevirtual 70, 3) := by decide +kernel
theorem d_119_74 : decode prog_7_method_2_code 74 = .ok (.aload_n 0, 1) := by decide +kernel
theorem d_119_75 : decode prog_7_method_2_code 75 = .ok (.getfield 45, 3) := by decide +kernel
theorem d_119_78 : decode prog_7_method_2_code 78 = .ok (.aload_n 1, 1) := by decide +kernel
theorem d_119_79 : decode prog_7_method_2_code 79 = .ok (.invokevirtual 78, 3) := by decide +kernel
theorem d_119_82 : decode prog_7_method_2_code 82 = .ok (.aload_n 0, 1) := by decide +kernel
theorem d_119_83 : decode prog_7_method_2_code 83 = .ok (.getfield 55, 3) := by decide +kernel
theorem d_119_86 : decode prog_7_method_2_code 86 = .ok (.aload_n 2, 1) := by decide +kernel
theorem d_119_87 : decode prog_7_method_2_code 87 = .ok (.invokevirtual 78, 3) := by decide +kernel
theorem d_119_90 : decode prog_7_method_2_code 90 = .ok (.invokestatic 82, 3) := by decide +kernel
theorem d_119_93 : decode prog_7_method_2_code 93 = .ok (.istore_n 3, 1) := by decide +kernel
theorem d_119_94 : decode prog_7_method_2_code 94 = .ok (.aload_n 0, 1) := by decide +kernel
theorem d_119_95 : decode prog_7_method_2_code 95 = .ok (.getfield 49, 3) := by decide +kernel
theorem d_119_98 : decode prog_7_method_2_code 98 = .ok (.aload_n 2, 1) := by decide +kernel
theorem d_119_99 : decode prog_7_method_2_code 99 = .ok (.invokevirtual 78, 3) := by decide +kernel
theorem d_119_102 : decode prog_7_method_2_code 102 = .ok (.aload_n 0, 1) := by decide +kernel
theorem d_119_103 : decode prog_7_method_2_code 103 = .ok (.getfield 52, 3) := by decide +kernel
theorem d_119_106 : decode prog_7_method_2_code 106 = .ok (.aload_n 1, 1) := by decide +kernel
theorem d_119_107 : decode prog_7_method_2_code 107 = .ok (.invokevirtual 78, 3) := by decide +kernel
theorem d_119_110 : decode prog_7_method_2_code 110 = .ok (.invokestatic 82, 3) := by decide +kernel
theorem d_119_113 : decode prog_7_method_2_code 113 = .ok (.istore 4, 2) := by decide +kernel
theorem d_119_115 : decode prog_7_method_2_code 115 = .ok (.iload 4, 2) := by decide +kernel
theorem d_119_117 : decode prog_7_method_2_code 117 = .ok (.iload_n 3, 1) := by decide +kernel
theorem d_119_118 : decode prog_7_method_2_code 118 = .ok (.if_icmp .ge 19, 3) := by decide +kernel
theorem d_119_121 : decode prog_7_method_2_code 121 = .ok (.aload_n 0, 1) := by decide +kernel
theorem d_119_122 : decode prog_7_method_2_code 122 = .ok (.aload_n 0, 1) := by decide +kernel
theorem d_119_123 : decode prog_7_method_2_code 123 = .ok (.getfield 49, 3) := by decide +kernel
theorem d_119_126 : decode prog_7_method_2_code 126 = .ok (.putfield 58, 3) := by decide +kernel
theorem d_119_129 : decode prog_7_method_2_code 129 = .ok (.aload_n 0, 1) := by decide +kernel
theorem d_119_130 : decode prog_7_method_2_code 130 = .ok (.aload_n 0, 1) := by decide +kernel
theorem d_119_131 : decode prog_7_method_2_code 131 = .ok (.getfield 52, 3) := by decide +kernel
theorem d_119_134 : decode prog_7_method_2_code 134 = .ok (.putfield 61, 3) := by decide +kernel
theorem d_119_137 : decode prog_7_method_2_code 137 = .ok (.return_, 1) := by decide +kernel
set_option maxRecDepth 20000 in
theorem ok_119 : ∀ r ∈ tb_119, sm_ok 119 r := List.forall_mem_cons.mpr ⟨d_119_0, List.forall_mem_cons.mpr ⟨⟨d_119_1, Or.inl pf_175⟩, List.forall_mem_cons.mpr ⟨d_119_4, List.forall_mem_cons.mpr ⟨⟨d_119_5, ⟨mo_41, mi_41, se_41, pm_144⟩⟩, List.forall_mem_cons.mpr ⟨d_119_8, List.forall_mem_cons.mpr ⟨d_119_9, List.forall_mem_cons.mpr ⟨⟨d_119_10, Or.inl pf_175⟩, List.forall_mem_cons.mpr ⟨d_119_13, List.forall_mem_cons.mpr ⟨⟨d_119_14, ⟨mo_41, mi_41, se_41, pm_144⟩⟩, List.forall_mem_cons.mpr ⟨d_119_17, List.forall_mem_cons.mpr ⟨d_119_18, List.forall_mem_cons.mpr ⟨d_119_19, List.forall_mem_cons.mpr ⟨⟨d_119_20, Or.inl pf_171⟩, List.forall_mem_cons.mpr ⟨⟨d_119_23, pf_172⟩, List.forall_mem_cons.mpr ⟨d_119_26, List.forall_mem_cons.mpr ⟨d_119_27, List.forall_mem_cons.mpr ⟨⟨d_119_28, Or.inl pf_173⟩, List.forall_mem_cons.mpr ⟨⟨d_119_31, pf_174⟩, List.forall_mem_cons.mpr ⟨d_119_34, List.forall_mem_cons.mpr ⟨⟨d_119_35, Or.inl pf_171⟩, List.forall_mem_cons.mpr ⟨d_119_38, List.forall_mem_cons.mpr ⟨⟨d_119_39, ⟨mo_114, mi_114, se_114, pm_145⟩⟩, List.forall_mem_cons.mpr ⟨d_119_42, List.forall_mem_cons.mpr ⟨⟨d_119_43, ⟨mo_121, mi_121, se_121, pm_146⟩⟩, List.forall_mem_cons.mpr ⟨⟨d_119_46, (by decide)⟩, List.forall_mem_cons.mpr ⟨d_119_49, List.forall_mem_cons.mpr ⟨d_119_50, List.forall_mem_cons.mpr ⟨⟨d_119_51, Or.inl pf_173⟩, List.forall_mem_cons.mpr ⟨d_119_54, List.forall_mem_cons.mpr ⟨⟨d_119_55, ⟨mo_114, mi_114, se_114, pm_145⟩⟩, List.forall_mem_cons.mpr ⟨d_119_58, List.forall_mem_cons.mpr ⟨⟨d_119_59, Or.inl pf_176⟩, List.forall_mem_cons.mpr ⟨d_119_62, List.forall_mem_cons.mpr ⟨⟨d_119_63, ⟨mo_114, mi_114, se_114, pm_145⟩⟩, List.forall_mem_cons.mpr ⟨d_119_66, List.forall_mem_cons.mpr ⟨⟨d_119_67, Or.inl pf_177⟩, List.forall_mem_cons.mpr ⟨d_119_70, List.forall_mem_cons.mpr ⟨⟨d_119_71, ⟨mo_114, mi_114, se_114, pm_145⟩⟩, List.forall_mem_cons.mpr ⟨d_119_74, List.forall_mem_cons.mpr ⟨⟨d_119_75, Or.inl pf_171⟩, List.forall_mem_cons.mpr ⟨d_119_78, List.forall_mem_cons.mpr ⟨⟨d_119_79, ⟨mo_117, mi_117, se_117, pm_147⟩⟩, List.forall_mem_cons.mpr ⟨d_119_82, List.forall_mem_cons.mpr ⟨⟨d_119_83, Or.inl pf_173⟩, List.forall_mem_cons.mpr ⟨d_119_86, List.forall_mem_cons.mpr ⟨⟨d_119_87, ⟨mo_117, mi_117, se_117, pm_147⟩⟩, List.forall_mem_cons.mpr ⟨⟨d_119_90, (Or.inl ⟨Nat.le_of_ble_eq_true rfl, mo_120, ms_120, pm_148⟩)⟩, List.forall_mem_cons.mpr ⟨d_119_93, List.forall_mem_cons.mpr ⟨d_119_94, List.forall_mem_cons.mpr ⟨⟨d_119_95, Or.inl pf_176⟩, List.forall_mem_cons.mpr ⟨d_119_98, List.forall_mem_cons.mpr ⟨⟨d_119_99, ⟨mo_117, mi_117, se_117, pm_147⟩⟩, List.forall_mem_cons.mpr ⟨d_119_102, List.forall_mem_cons.mpr ⟨⟨d_119_103, Or.inl pf_177⟩, List.forall_mem_cons.mpr ⟨d_119_106, List.forall_mem_cons.mpr ⟨⟨d_119_107, ⟨mo_117, mi_117, se_117, pm_147⟩⟩, List.forall_mem_cons.mpr ⟨⟨d_119_110, (Or.inl ⟨Nat.le_of_ble_eq_true rfl, mo_120, ms_120, pm_148⟩)⟩, List.forall_mem_cons.mpr ⟨d_119_113, List.forall_mem_cons.mpr ⟨d_119_115, List.forall_mem_cons.mpr ⟨d_119_117, List.forall_mem_cons.mpr ⟨⟨d_119_118, (by decide)⟩, List.forall_mem_cons.mpr ⟨d_119_121, List.forall_mem_cons.mpr ⟨d_119_122, List.forall_mem_cons.mpr ⟨⟨d_119_123, Or.inl pf_176⟩, List.forall_mem_cons.mpr ⟨⟨d_119_126, pf_172⟩, List.forall_mem_cons.mpr ⟨d_119_129, List.forall_mem_cons.mpr ⟨d_119_130, List.forall_mem_cons.mpr ⟨⟨d_119_131, Or.inl pf_177⟩, List.forall_mem_cons.mpr ⟨⟨d_119_134, pf_174⟩, List.forall_mem_cons.mpr ⟨d_119_137, fun _ h => absurd h List.not_mem_nil⟩⟩⟩⟩⟩⟩⟩⟩⟩⟩⟩⟩⟩⟩⟩⟩⟩⟩⟩⟩⟩⟩⟩⟩⟩⟩⟩⟩⟩⟩⟩⟩⟩⟩⟩⟩⟩⟩⟩⟩⟩⟩⟩⟩⟩⟩⟩⟩⟩⟩⟩⟩⟩⟩⟩⟩⟩⟩⟩⟩⟩⟩⟩⟩⟩⟩⟩⟩⟩⟩
theorem d_120_0 : decode prog_7_method_3_code 0 = .ok (.iload_n 0, 1) := by decide +kernel
theorem d_120_1 : decode prog_7_method_3_code 1 = .ok (.iload_n 0, 1) := by decide +kernel
theorem d_120_2 : decode prog_7_method_3_code 2 = .ok (.iload_n 1, 1) := by decide +kernel
theorem d_120_3 : decode prog_7_method_3_code 3 = .ok (.imul, 1) := by decide +kernel
theorem d_120_4 : decode prog_7_method_3_code 4 = .ok (.iadd, 1) := by decide +kernel
theorem d_120_5 : decode prog_7_method_3_code 5 = .ok (.ireturn, 1) := by decide +kernel
set_option maxRecDepth 20000 in
theorem ok_120 : ∀ r ∈ tb_120, sm_ok 120 r := List.forall_mem_cons.mpr ⟨d_120_0, List.forall_mem_cons.mpr ⟨d_120_1, List.forall_mem_cons.mpr ⟨d_120_2, List.forall_mem_cons.mpr ⟨d_120_3, List.forall_mem_cons.mpr ⟨d_120_4, List.forall_mem_cons.mpr ⟨d_120_5, fun _ h => absurd h List.not_mem_nil⟩⟩⟩⟩⟩⟩
theorem d_121_0 : decode prog_7_method_4_code 0 = .ok (.aload_n 0, 1) := by decide +kernel
theorem d_121_1 : decode prog_7_method_4_code 1 = .ok (.getfield 28, 3) := by decide +kernel
theorem d_121_4 : decode prog_7_method_4_code 4 = .ok (.getfield 86, 3) := by decide +kernel
theorem d_121_7 : decode prog_7_method_4_code 7 = .ok (.iconst (-1), 1) := by decide +kernel
theorem d_121_8 : decode prog_7_method_4_code 8 = .ok (.if_icmp .eq 7, 3) := by decide +kernel
theorem d_121_11 : decode prog_7_method_4_code 11 = .ok (.iconst 1, 1) := by decide +kernel
theorem d_121_12 : decode prog_7_method_4_code 12 = .ok (.goto 4, 3) := by decide +kernel
theorem d_121_15 : decode prog_7_method_4_code 15 = .ok (.iconst 0, 1) := by decide +kernel
theorem d_121_16 : decode prog_7_method_4_code 16 = .ok (.ireturn, 1) := by decide +kernel
set_option maxRecDepth 20000 in
theorem ok_121 : ∀ r ∈ tb_121, sm_ok 121 r := List.forall_mem_cons.mpr ⟨d_121_0, List.forall_mem_cons.mpr ⟨⟨d_121_1, Or.inl pf_178⟩, List.forall_mem_cons.mpr ⟨⟨d_121_4, Or.inl pf_179⟩, List.forall_mem_cons.mpr ⟨d_121_7, List.forall_mem_cons.mpr ⟨⟨d_121_8, (by decide)⟩, List.forall_mem_cons.mpr ⟨d_121_11, List.forall_mem_cons.mpr ⟨⟨d_121_12, (by decide)⟩, List.forall_mem_cons.mpr ⟨d_121_15, List.forall_mem_cons.mpr ⟨d_121_16, fun _ h => absurd h List.not_mem_nil⟩⟩⟩⟩⟩⟩⟩⟩⟩
theorem d_122_0 : decode prog_7_method_5_code 0 = .ok (.aload_n 0, 1) := by decide +kernel
theorem d_122_1 : decode prog_7_method_5_code 1 = .ok (.invokevirtual 74, 3) := by decide +kernel
theorem d_122_4 : decode prog_7_method_5_code 4 = .ok (.ifCond .ne 11, 3) := by decide +kernel
theorem d_122_7 : decode prog_7_method_5_code 7 = .ok (.aload_n 0, 1) := by decide +kernel
theorem d_122_8 : decode prog_7_method_5_code 8 = .ok (.getfield 58, 3) := by decide +kernel
theorem d_122_11 : decode prog_7_method_5_code 11 = .ok (.getfield 92, 3) := by decide +kernel
theorem d_122_14 : decode prog_7_method_5_code 14 = .ok (.ireturn, 1) := by decide +kernel
theorem d_122_15 : decode prog_7_method_5_code 15 = .ok (.aload_n 0, 1) := by decide +kernel
theorem d_122_16 : decode prog_7_method_5_code 16 = .ok (.getfield 58, 3) := by decide +kernel
theorem d_122_19 : decode prog_7_method_5_code 19 = .ok (.getfield 92, 3) := by decide +kernel
theorem d_122_22 : decode prog_7_method_5_code 22 = .ok (.iconst 4, 1) := by decide +kernel
theorem d_122_23 : decode prog_7_method_5_code 23 = .ok (.aload_n 0, 1) := by decide +kernel
theorem d_122_24 : decode prog_7_method_5_code 24 = .ok (.getfield 61, 3) := by decide +kernel
theorem d_122_27 : decode prog_7_method_5_code 27 = .ok (.getfield 92, 3) := by decide +kernel
theorem d_122_30 : decode prog_7_method_5_code 30 = .ok (.imul, 1) := by decide +kernel
theorem d_122_31 : decode prog_7_method_5_code 31 = .ok (.iadd, 1) := by decide +kernel
theorem d_122_32 : decode prog_7_method_5_code 32 = .ok (.aload_n 0, 1) := by decide +kernel
theorem d_122_33 : decode prog_7_method_5_code 33 = .ok (.getfield 58, 3) := by decide +kernel
theorem d_122_36 : decode prog_7_method_5_code 36 = .ok (.getfield 95, 3) := by decide +kernel
theorem d_122_39 : decode prog_7_method_5_code 39 = .ok (.iconst 1, 1) := by decide +kernel
theorem d_122_40 : decode prog_7_method_5_code 40 = .ok (.if_icmp .ne 8, 3) := by decide +kernel
theorem d_122_43 : decode prog_7_method_5_code 43 = .ok (.bipush 16, 2) := by decide +kernel
theorem d_122_45 : decode prog_7_method_5_code 45 = .ok (.goto 4, 3) := by decide +kernel
theorem d_122_48 : decode prog_7_method_5_code 48 = .ok (.iconst 0, 1) := by decide +kernel
theorem d_122_49 : decode prog_7_method_5_code 49 = .ok (.iadd, 1) := by decide +kernel
theorem d_122_50 : decode prog_7_method_5_code 50 = .ok (.ireturn, 1) := by decide +kernel
set_option maxRecDepth 20000 in
theorem ok_122 : ∀ r ∈ tb_122, sm_ok 122 r := List.forall_mem_cons.mpr ⟨d_122_0, List.forall_mem_cons.mpr ⟨⟨d_122_1, ⟨mo_121, mi_121, se_121, pm_146⟩⟩, List.forall_mem_cons.mpr ⟨⟨d_122_4, (by decide)⟩, List.forall_mem_cons.mpr ⟨d_122_7, List.forall_mem_cons.mpr ⟨⟨d_122_8, Or.inl pf_180⟩, List.forall_mem_cons.mpr ⟨⟨d_122_11, Or.inl pf_181⟩, List.forall_mem_cons.mpr ⟨d_122_14, List.forall_mem_cons.mpr ⟨d_122_15, List.forall_mem_cons.mpr ⟨⟨d_122_16, Or.inl pf_180⟩, List.forall_mem_cons.mpr ⟨⟨d_122_19, Or.inl pf_181⟩, List.forall_mem_cons.mpr ⟨d_122_22, List.forall_mem_cons.mpr ⟨d_122_23, List.forall_mem_cons.mpr ⟨⟨d_122_24, Or.inl pf_182⟩, List.forall_mem_cons.mpr ⟨⟨d_122_27, Or.inl pf_181⟩, List.forall_mem_cons.mpr ⟨d_122_30, List.forall_mem_cons.mpr ⟨d_122_31, List.forall_mem_cons.mpr ⟨d_122_32, List.forall_mem_cons.mpr ⟨⟨d_122_33, Or.inl pf_180⟩, List.forall_mem_cons.mpr ⟨⟨d_122_36, Or.inl pf_183⟩, List.forall_mem_cons.mpr ⟨d_122_39, List.forall_mem_cons.mpr ⟨⟨d_122_40, (by decide)⟩, List.forall_mem_cons.mpr ⟨d_122_43, List.forall_mem_cons.mpr ⟨⟨d_122_45, (by decide)⟩, List.forall_mem_cons.mpr ⟨d_122_48, List.forall_mem_cons.mpr ⟨d_122_49, List.forall_mem_cons.mpr ⟨d_122_50, fun _ h => absurd h List.not_mem_nil⟩⟩⟩⟩⟩⟩⟩⟩⟩⟩⟩⟩⟩⟩⟩⟩⟩⟩⟩⟩⟩⟩⟩⟩⟩⟩
theorem d_123_0 : decode prog_7_method_6_code 0 = .ok (.aload_n 0, 1) := by decide +kernel
theorem d_123_1 : decode prog_7_method_6_code 1 = .ok (.iconst 0, 1) := by decide +kernel
theorem d_123_2 : decode prog_7_method_6_code 2 = .ok (.putfield 98, 3) := by decide +kernel
theorem d_123_5 : decode prog_7_method_6_code 5 = .ok (.aload_n 0, 1) := by decide +kernel
theorem d_123_6 : decode prog_7_method_6_code 6 = .ok (.iconst 0, 1) := by decide +kernel
theorem d_123_7 : decode prog_7_method_6_code 7 = .ok (.putfield 101, 3) := by decide +kernel
theorem d_123_10 : decode prog_7_method_6_code 10 = .ok (.aload_n 0, 1) := by decide +kernel
theorem d_123_11 : decode prog_7_method_6_code 11 = .ok (.aload_n 0, 1) := by decide +kernel
theorem d_123_12 : decode prog_7_method_6_code 12 = .ok (.getfield 58, 3) := by decide +kernel
theorem d_123_15 : decode prog_7_method_6_code 15 = .ok (.aload_n 0, 1) := by decide +kernel
theorem d_123_16 : decode prog_7_method_6_code 16 = .ok (.getfield 9, 3) := by decide +kernel
theorem d_123_19 : decode prog_7_method_6_code 19 = .ok (.invokevirtual 104, 3) := by decide +kernel
theorem d_123_22 : decode prog_7_method_6_code 22 = .ok (.istore_n 1, 1) := by decide +kernel
theorem d_123_23 : decode prog_7_method_6_code 23 = .ok (.iconst 0, 1) := by decide +kernel
theorem d_123_24 : decode prog_7_method_6_code 24 = .ok (.istore_n 2, 1) := by decide +kernel
theorem d_123_25 : decode prog_7_method_6_code 25 = .ok (.iload_n 2, 1) := by decide +kernel
theorem d_123_26 : decode prog_7_method_6_code 26 = .ok (.iload_n 1, 1) := by decide +kernel
theorem d_123_27 : decode prog_7_method_6_code 27 = .ok (.if_icmp .ge 103, 3) := by decide +kernel
theorem d_123_30 : decode prog_7_method_6_code 30 = .ok (.aload_n 0, 1) := by decide +kernel
theorem d_123_31 : decode prog_7_method_6_code 31 = .ok (.getfield 36, 3) := by decide +kernel
theorem d_123_34 : decode prog_7_method_6_code 34 = .ok (.aload_n 0, 1) := by decide +kernel
theorem d_123_35 : decode prog_7_method_6_code 35 = .ok (.getfield 58, 3) := by decide +kernel
theorem d_123_38 : decode prog_7_method_6_code 38 = .ok (.getfield 95, 3) := by decide +kernel
theorem d_123_41 : decode prog_7_method_6_code 41 = .ok (.aload_n 0, 1) := by decide +kernel
theorem d_123_42 : decode prog_7_method_6_code 42 = .ok (.getfield 9, 3) := by decide +kernel
theorem d_123_45 : decode prog_7_method_6_code 45 = .ok (.iload_n 2, 1) := by decide +kernel
theorem d_123_46 : decode prog_7_method_6_code 46 = .ok (.iaload, 1) := by decide +kernel
theorem d_123_47 : decode prog_7_method_6_code 47 = .ok (.invokevirtual 108, 3) := by decide +kernel
theorem d_123_50 : decode prog_7_method_6_code 50 = .ok (.aload_n 0, 1) := by decide +kernel
theorem d_123_51 : decode prog_7_method_6_code 51 = .ok (.invokevirtual 74, 3) := by decide +kernel
theorem d_123_54 : decode prog_7_method_6_code 54 = .ok (.ifCond .ne 10, 3) := by decide +kernel
theorem d_123_57 : decode prog_7_method_6_code 57 = .ok (.aload_n 0, 1) := by decide +kernel
theorem d_123_58 : decode prog_7_method_6_code 58 = .ok (.invokevirtual 112, 3) := by decide +kernel
theorem d_123_61 : decode prog_7_method_6_code 61 = .ok (.goto 63, 3) := by decide +kernel
theorem d_123_64 : decode prog_7_method_6_code 64 = .ok (.aload_n 0, 1) := by decide +kernel
theorem d_123_65 : decode prog_7_method_6_code 65 = .ok (.invokevirtual 115, 3) := by decide +kernel
theorem d_123_68 : decode prog_7_method_6_code 68 = .ok (.ifCond .eq 56, 3) := by decide +kernel
theorem d_123_71 : decode prog_7_method_6_code 71 = .ok (.aload_n 0, 1) := by decide +kernel
theorem d_123_72 : decode prog_7_method_6_code 72 = .ok (.aload_n 0, 1) := by decide +kernel
theorem d_123_73 : decode prog_7_method_6_code 73 = .ok (.getfield 61, 3) := by decide +kernel
theorem d_123_76 : decode prog_7_method_6_code 76 = .ok (.aload_n 0, 1) := by decide +kernel
theorem d_123_77 : decode prog_7_method_6_code 77 = .ok (.getfield 15, 3) := by decide +kernel
theorem d_123_80 : decode prog_7_method_6_code 80 = .ok (.invokevirtual 104, 3) := by decide +kernel
theorem d_123_83 : decode prog_7_method_6_code 83 = .ok (.istore_n 3, 1) := by decide +kernel
theorem d_123_84 : decode prog_7_method_6_code 84 = .ok (.iconst 0, 1) := by decide +kernel
theorem d_123_85 : decode prog_7_method_6_code 85 = .ok (.istore 4, 2) := by decide +kernel
theorem d_123_87 : decode prog_7_method_6_code 87 = .ok (.iload 4, 2) := by decide +kernel
theorem d_123_89 : decode prog_7_method_6_code 89 = .ok (.iload_n 3, 1) := by decide +kernel
theorem d_123_90 : decode prog_7_method_6_code 90 = .ok (.if_icmp .ge 34, 3) := by decide +kernel
theorem d_123_93 : decode prog_7_method_6_code 93 = .ok (.aload_n 0, 1) := by decide +kernel
theorem d_123_94 : decode prog_7_method_6_code 94 = .ok (.getfield 36, 3) := by decide +kernel
theorem d_123_97 : decode prog_7_method_6_code 97 = .ok (.aload_n 0, 1) := by decide +kernel
theorem d_123_98 : decode prog_7_method_6_code 98 = .ok (.getfield 61, 3) := by decide +kernel
theorem d_123_101 : decode prog_7_method_6_code 101 = .ok (.getfield 95, 3) := by decide +kernel
theorem d_123_104 : decode prog_7_method_6_code 104 = .ok (.aload_n 0, 1) := by decide +kernel
theorem d_123_105 : decode prog_7_method_6_code 105 = .ok (.getfield 15, 3) := by decide +kernel
theorem d_123_108 : decode prog_7_method_6_code 108 = .ok (.iload 4, 2) := by decide +kernel
theorem d_123_110 : decode prog_7_method_6_code 110 = .ok (.iaload, 1) := by decide +kernel
theorem d_123_111 : decode prog_7_method_6_code 111 = .ok (.invokevirtual 108, 3) := by decide +kernel
theorem d_123_114 : decode prog_7_method_6_code 114 = .ok (.aload_n 0, 1) := by decide +kernel
theorem d_123_115 : decode prog_7_method_6_code 115 = .ok (.invokevirtual 112, 3) := by decide +kernel
theorem d_123_118 : decode prog_7_method_6_code 118 = .ok (.iinc 4 1, 3) := by decide +kernel
theorem d_123_121 : decode prog_7_method_6_code 121 = .ok (.goto (-34), 3) := by decide +kernel
theorem d_123_124 : decode prog_7_method_6_code 124 = .ok (.iinc 2 1, 3) := by decide +kernel
theorem d_123_127 : decode prog_7_method_6_code 127 = .ok (.goto (-102), 3) := by decide +kernel
theorem d_123_130 : decode prog_7_method_6_code 130 = .ok (.return_, 1) := by decide +kernel
set_option maxRecDepth 20000 in
theorem ok_123 : ∀ r ∈ tb_123, sm_ok 123 r := List.forall_mem_cons.mpr ⟨d_123_0, List.forall_mem_cons.mpr ⟨d_123_1, List.forall_mem_cons.mpr ⟨⟨d_123_2, pf_184⟩, List.forall_mem_cons.mpr ⟨d_123_5, List.forall_mem_cons.mpr ⟨d_123_6, List.forall_mem_cons.mpr ⟨⟨d_123_7, pf_185⟩, List.forall_mem_cons.mpr ⟨d_123_10, List.forall_mem_cons.mpr ⟨d_123_11, List.forall_mem_cons.mpr ⟨⟨d_123_12, Or.inl pf_180⟩, List.forall_mem_cons.mpr ⟨d_123_15, List.forall_mem_cons.mpr ⟨⟨d_123_16, Or.inl pf_186⟩, List.forall_mem_cons.mpr ⟨⟨d_123_19, ⟨mo_124, mi_124, se_124, pm_149⟩⟩, List.forall_mem_cons.mpr ⟨d_123_22, List.forall_mem_cons.mpr ⟨d_123_23, List.forall_mem_cons.mpr ⟨d_123_24, List.forall_mem_cons.mpr ⟨d_123_25, List.forall_mem_cons.mpr ⟨d_123_26, List.forall_mem_cons.mpr ⟨⟨d_123_27, (by decide)⟩, List.forall_mem_cons.mpr ⟨d_123_30, List.forall_mem_cons.mpr ⟨⟨d_123_31, Or.inl pf_175⟩, List.forall_mem_cons.mpr ⟨d_123_34, List.forall_mem_cons.mpr ⟨⟨d_123_35, Or.inl pf_180⟩, List.forall_mem_cons.mpr ⟨⟨d_123_38, Or.inl pf_183⟩, List.forall_mem_cons.mpr ⟨d_123_41, List.forall_mem_cons.mpr ⟨⟨d_123_42, Or.inl pf_186⟩, List.forall_mem_cons.mpr ⟨d_123_45, List.forall_mem_cons.mpr ⟨d_123_46, List.forall_mem_cons.mpr ⟨⟨d_123_47, ⟨mo_43, mi_43, se_43, pm_150⟩⟩, List.forall_mem_cons.mpr ⟨d_123_50, List.forall_mem_cons.mpr ⟨⟨d_123_51, ⟨mo_121, mi_121, se_121, pm_146⟩⟩, List.forall_mem_cons.mpr ⟨⟨d_123_54, (by decide)⟩, List.forall_mem_cons.mpr ⟨d_123_57, List.forall_mem_cons.mpr ⟨⟨d_123_58, ⟨mo_126, mi_126, se_126, pm_151⟩⟩, List.forall_mem_cons.mpr ⟨⟨d_123_61, (by decide)⟩, List.forall_mem_cons.mpr ⟨d_123_64, List.forall_mem_cons.mpr ⟨⟨d_123_65, ⟨mo_125, mi_125, se_125, pm_152⟩⟩, List.forall_mem_cons.mpr ⟨⟨d_123_68, (by decide)⟩, List.forall_mem_cons.mpr ⟨d_123_71, List.forall_mem_cons.mpr ⟨d_123_72, List.forall_mem_cons.mpr ⟨⟨d_123_73, Or.inl pf_182⟩, List.forall_mem_cons.mpr ⟨d_123_76, List.forall_mem_cons.mpr ⟨⟨d_123_77, Or.inl pf_187⟩, List.forall_mem_cons.mpr ⟨⟨d_123_80, ⟨mo_124, mi_124, se_124, pm_149⟩⟩, List.forall_mem_cons.mpr ⟨d_123_83, List.forall_mem_cons.mpr ⟨d_123_84, List.forall_mem_cons.mpr ⟨d_123_85, List.forall_mem_cons.mpr ⟨d_123_87, List.forall_mem_cons.mpr ⟨d_123_89, List.forall_mem_cons.mpr ⟨⟨d_123_90, (by decide)⟩, List.forall_mem_cons.mpr ⟨d_123_93, List.forall_mem_cons.mpr ⟨⟨d_123_94, Or.inl pf_175⟩, List.forall_mem_cons.mpr ⟨d_123_97, List.forall_mem_cons.mpr ⟨⟨d_123_98, Or.inl pf_182⟩, List.forall_mem_cons.mpr ⟨⟨d_123_101, Or.inl pf_183⟩, List.forall_mem_cons.mpr ⟨d_123_104, List.forall_mem_cons.mpr ⟨⟨d_123_105, Or.inl pf_187⟩, List.forall_mem_cons.mpr ⟨d_123_108, List.forall_mem_cons.mpr ⟨d_123_110, List.forall_mem_cons.mpr ⟨⟨d_123_111, ⟨mo_43, mi_43, se_43, pm_150⟩⟩, List.forall_mem_cons.mpr ⟨d_123_114, List.forall_mem_cons.mpr ⟨⟨d_123_115, ⟨mo_126, mi_126, se_126, pm_151⟩⟩, List.forall_mem_cons.mpr ⟨d_123_118, List.forall_mem_cons.mpr ⟨⟨d_123_121, (by decide)⟩, List.forall_mem_cons.mpr ⟨d_123_124, List.forall_mem_cons.mpr ⟨⟨d_123_127, (by decide)⟩, List.forall_mem_cons.mpr ⟨d_123_130, fun _ h => absurd h List.not_mem_nil⟩⟩⟩⟩⟩⟩⟩⟩⟩⟩⟩⟩⟩⟩⟩⟩⟩⟩⟩⟩⟩⟩⟩⟩⟩⟩⟩⟩⟩⟩⟩⟩⟩⟩⟩⟩⟩⟩⟩⟩⟩⟩⟩⟩⟩⟩⟩⟩⟩⟩⟩⟩⟩⟩⟩⟩⟩⟩⟩⟩⟩⟩⟩⟩⟩⟩
theorem d_124_0 : decode prog_7_method_7_code 0 = .ok (.aload_n 0, 1) := by decide +kernel
theorem d_124_1 : decode prog_7_method_7_code 1 = .ok (.getfield 36, 3) := by decide +kernel
theorem d_124_4 : decode prog_7_method_7_code 4 = .ok (.aload_n 1, 1) := by decide +kernel
theorem d_124_5 : decode prog_7_method_7_code 5 = .ok (.getfield 95, 3) := by decide +kernel
theorem d_124_8 : decode prog_7_method_7_code 8 = .ok (.invokevirtual 64, 3) := by decide +kernel
theorem d_124_11 : decode prog_7_method_7_code 11 = .ok (.astore_n 3, 1) := by decide +kernel
theorem d_124_12 : decode prog_7_method_7_code 12 = .ok (.aload_n 1, 1) := by decide +kernel
theorem d_124_13 : decode prog_7_method_7_code 13 = .ok (.getfield 92, 3) := by decide +kernel
theorem d_124_16 : decode prog_7_method_7_code 16 = .ok (.iconst 1, 1) := by decide +kernel
theorem d_124_17 : decode prog_7_method_7_code 17 = .ok (.if_icmp .ne 7, 3) := by decide +kernel
theorem d_124_20 : decode prog_7_method_7_code 20 = .ok (.iconst 1, 1) := by decide +kernel
theorem d_124_21 : decode prog_7_method_7_code 21 = .ok (.goto 4, 3) := by decide +kernel
theorem d_124_24 : decode prog_7_method_7_code 24 = .ok (.iconst 0, 1) := by decide +kernel
theorem d_124_25 : decode prog_7_method_7_code 25 = .ok (.istore 4, 2) := by decide +kernel
theorem d_124_27 : decode prog_7_method_7_code 27 = .ok (.iload 4, 2) := by decide +kernel
theorem d_124_29 : decode prog_7_method_7_code 29 = .ok (.ifCond .eq 9, 3) := by decide +kernel
theorem d_124_32 : decode prog_7_method_7_code 32 = .ok (.ldc2_w 118, 3) := by decide +kernel
theorem d_124_35 : decode prog_7_method_7_code 35 = .ok (.goto 22, 3) := by decide +kernel
theorem d_124_38 : decode prog_7_method_7_code 38 = .ok (.aload_n 0, 1) := by decide +kernel
theorem d_124_39 : decode prog_7_method_7_code 39 = .ok (.getfield 32, 3) := by decide +kernel
theorem d_124_42 : decode prog_7_method_7_code 42 = .ok (.aload_n 1, 1) := by decide +kernel
theorem d_124_43 : decode prog_7_method_7_code 43 = .ok (.getfield 120, 3) := by decide +kernel
theorem d_124_46 : decode prog_7_method_7_code 46 = .ok (.aload_n 1, 1) := by decide +kernel
theorem d_124_47 : decode prog_7_method_7_code 47 = .ok (.getfield 123, 3) := by decide +kernel
theorem d_124_50 : decode prog_7_method_7_code 50 = .ok (.aload_n 0, 1) := by decide +kernel
theorem d_124_51 : decode prog_7_method_7_code 51 = .ok (.getfield 36, 3) := by decide +kernel
theorem d_124_54 : decode prog_7_method_7_code 54 = .ok (.invokevirtual 126, 3) := by decide +kernel
theorem d_124_57 : decode prog_7_method_7_code 57 = .ok (.lstore 5, 2) := by decide +kernel
theorem d_124_59 : decode prog_7_method_7_code 59 = .ok (.iconst 0, 1) := by decide +kernel
theorem d_124_60 : decode prog_7_method_7_code 60 = .ok (.istore 7, 2) := by decide +kernel
theorem d_124_62 : decode prog_7_method_7_code 62 = .ok (.iconst 0, 1) := by decide +kernel
theorem d_124_63 : decode prog_7_method_7_code 63 = .ok (.istore 8, 2) := by decide +kernel
theorem d_124_65 : decode prog_7_method_7_code 65 = .ok (.iload 8, 2) := by decide +kernel
theorem d_124_67 : decode prog_7_method_7_code 67 = .ok (.aload_n 3, 1) := by decide +kernel
theorem d_124_68 : decode prog_7_method_7_code 68 = .ok (.getfield 132, 3) := by decide +kernel
theorem d_124_71 : decode prog_7_method_7_code 71 = .ok (.if_icmp .ge 55, 3) := by decide +kernel
theorem d_124_74 : decode prog_7_method_7_code 74 = .ok (.iload 8, 2) := by decide +kernel
theorem d_124_76 : decode prog_7_method_7_code 76 = .ok (.aload_n 2, 1) := by decide +kernel
theorem d_124_77 : decode prog_7_method_7_code 77 = .ok (.arraylength, 1) := by decide +kernel
theorem d_124_78 : decode prog_7_method_7_code 78 = .ok (.if_icmp .ge 48, 3) := by decide +kernel
theorem d_124_81 : decode prog_7_method_7_code 81 = .ok (.iload 4, 2) := by decide +kernel
theorem d_124_83 : decode prog_7_method_7_code 83 = .ok (.ifCond .ne 28, 3) := by decide +kernel
theorem d_124_86 : decode prog_7_method_7_code 86 = .ok (.lload 5, 2) := by decide +kernel
theorem d_124_88 : decode prog_7_method_7_code 88 = .ok (.ldc2_w 118, 3) := by decide +kernel
theorem d_124_91 : decode prog_7_method_7_code 91 = .ok (.lcmp, 1) := by decide +kernel
theorem d_124_92 : decode prog_7_method_7_code 92 = .ok (.ifCond .eq 28, 3) := by decide +kernel
theorem d_124_95 : decode prog_7_method_7_code 95 = .ok (.aload_n 3, 1) := by decide +kernel
theorem d_124_96 : decode prog_7_method_7_code 96 = .ok (.iload 8, 2) := by decide +kernel
theorem d_124_98 : decode prog_7_method_7_code 98 = .ok (.aload_n 1, 1) := by decide +kernel
theorem d_124_99 : decode prog_7_method_7_code 99 = .ok (.getfield 137, 3) := by decide +kernel
theorem d_124_102 : decode prog_7_method_7_code 102 = .ok (.invokevirtual 140, 3) := by decide +kernel
theorem d_124_105 : decode prog_7_method_7_code 105 = .ok (.lload 5, 2) := by decide +kernel
theorem d_124_107 : decode prog_7_method_7_code 107 = .ok (.lcmp, 1) := by decide +kernel
theorem d_124_108 : decode prog_7_method_7_code 108 = .ok (.ifCond .ne 12, 3) := by decide +kernel
theorem d_124_111 : decode prog_7_method_7_code 111 = .ok (.aload_n 2, 1) := by decide +kernel
theorem d_124_112 : decode prog_7_method_7_code 112 = .ok (.iload 7, 2) := by decide +kernel
theorem d_124_114 : decode prog_7_method_7_code 114 = .ok (.iload 8, 2) := by decide +kernel
theorem d_124_116 : decode prog_7_method_7_code 116 = .ok (.iastore, 1) := by decide +kernel
theorem d_124_117 : decode prog_7_method_7_code 117 = .ok (.iinc 7 1, 3) := by decide +kernel
theorem d_124_120 : decode prog_7_method_7_code 120 = .ok (.iinc 8 1, 3) := by decide +kernel
theorem d_124_123 : decode prog_7_method_7_code 123 = .ok (.goto (-58), 3) := by decide +kernel
theorem d_124_126 : decode prog_7_method_7_code 126 = .ok (.aload_n 0, 1) := by decide +kernel
theorem d_124_127 : decode prog_7_method_7_code 127 = .ok (.dup, 1) := by decide +kernel
theorem d_124_128 : decode prog_7_method_7_code 128 = .ok (.getfield 98, 3) := by decide +kernel
theorem d_124_131 : decode prog_7_method_7_code 131 = .ok (.iload 7, 2) := by decide +kernel
theorem d_124_133 : decode prog_7_method_7_code 133 = .ok (.iadd, 1) := by decide +kernel
theorem d_124_134 : decode prog_7_method_7_code 134 = .ok (.putfield 98, 3) := by decide +kernel
theorem d_124_137 : decode prog_7_method_7_code 137 = .ok (.iload 7, 2) := by decide +kernel
theorem d_124_139 : decode prog_7_method_7_code 139 = .ok (.ireturn, 1) := by decide +kernel
set_option maxRecDepth 20000 in
theorem ok_124 : ∀ r ∈ tb_124, sm_ok 124 r := List.forall_mem_cons.mpr ⟨d_124_0, List.forall_mem_cons.mpr ⟨⟨d_124_1, Or.inl pf_175⟩, List.forall_mem_cons.mpr ⟨d_124_4, List.forall_mem_cons.mpr ⟨⟨d_124_5, Or.inl pf_183⟩, List.forall_mem_cons.mpr ⟨⟨d_124_8, ⟨mo_41, mi_41, se_41, pm_144⟩⟩, List.forall_mem_cons.mpr ⟨d_124_11, List.forall_mem_cons.mpr ⟨d_124_12, List.forall_mem_cons.mpr ⟨⟨d_124_13, Or.inl pf_181⟩, List.forall_mem_cons.mpr ⟨d_124_16, List.forall_mem_cons.mpr ⟨⟨d_124_17, (by decide)⟩, List.forall_mem_cons.mpr ⟨d_124_20, List.forall_mem_cons.mpr ⟨⟨d_124_21, (by decide)⟩, List.forall_mem_cons.mpr ⟨d_124_24, List.forall_mem_cons.mpr ⟨d_124_25, List.forall_mem_cons.mpr ⟨d_124_27, List.forall_mem_cons.mpr ⟨⟨d_124_29, (by decide)⟩, List.forall_mem_cons.mpr ⟨⟨d_124_32, (fun _ h => Option.some.inj h ▸ wd_328)⟩, List.forall_mem_cons.mpr ⟨⟨d_124_35, (by decide)⟩, List.forall_mem_cons.mpr ⟨d_124_38, List.forall_mem_cons.mpr ⟨⟨d_124_39, Or.inl pf_188⟩, List.forall_mem_cons.mpr ⟨d_124_42, List.forall_mem_cons.mpr ⟨⟨d_124_43, Or.inl pf_189⟩, List.forall_mem_cons.mpr ⟨d_124_46, List.forall_mem_cons.mpr ⟨⟨d_124_47, Or.inl pf_190⟩, List.forall_mem_cons.mpr ⟨d_124_50, List.forall_mem_cons.mpr ⟨⟨d_124_51, Or.inl pf_175⟩, List.forall_mem_cons.mpr ⟨⟨d_124_54, ⟨mo_51, mi_51, se_51, pm_153⟩⟩, List.forall_mem_cons.mpr ⟨d_124_57, List.forall_mem_cons.mpr ⟨d_124_59, List.forall_mem_cons.mpr ⟨d_124_60, List.forall_mem_cons.mpr ⟨d_124_62, List.forall_mem_cons.mpr ⟨d_124_63, List.forall_mem_cons.mpr ⟨d_124_65, List.forall_mem_cons.mpr ⟨d_124_67, List.forall_mem_cons.mpr ⟨⟨d_124_68, Or.inl pf_191⟩, List.forall_mem_cons.mpr ⟨⟨d_124_71, (by decide)⟩, List.forall_mem_cons.mpr ⟨d_124_74, List.forall_mem_cons.mpr ⟨d_124_76, List.forall_mem_cons.mpr ⟨d_124_77, List.forall_mem_cons.mpr ⟨⟨d_124_78, (by decide)⟩, List.forall_mem_cons.mpr ⟨d_124_81, List.forall_mem_cons.mpr ⟨⟨d_124_83, (by decide)⟩, List.forall_mem_cons.mpr ⟨d_124_86, List.forall_mem_cons.mpr ⟨⟨d_124_88, (fun _ h => Option.some.inj h ▸ wd_328)⟩, List.forall_mem_cons.mpr ⟨d_124_91, List.forall_mem_cons.mpr ⟨⟨d_124_92, (by decide)⟩, List.forall_mem_cons.mpr ⟨d_124_95, List.forall_mem_cons.mpr ⟨d_124_96, List.forall_mem_cons.mpr ⟨d_124_98, List.forall_mem_cons.mpr ⟨⟨d_124_99, Or.inl pf_192⟩, List.forall_mem_cons.mpr ⟨⟨d_124_102, ⟨mo_29, mi_29, se_29, pm_154⟩⟩, List.forall_mem_cons.mpr ⟨d_124_105, List.forall_mem_cons.mpr ⟨d_124_107, List.forall_mem_cons.mpr ⟨⟨d_124_108, (by decide)⟩, List.forall_mem_cons.mpr ⟨d_124_111, List.forall_mem_cons.mpr ⟨d_124_112, List.forall_mem_cons.mpr ⟨d_124_114, List.forall_mem_cons.mpr ⟨d_124_116, List.forall_mem_cons.mpr ⟨d_124_117, List.forall_mem_cons.mpr ⟨d_124_120, List.forall_mem_cons.mpr ⟨⟨d_124_123, (by decide)⟩, List.forall_mem_cons.mpr ⟨d_124_126, List.forall_mem_cons.mpr ⟨d_124_127, List.forall_mem_cons.mpr ⟨⟨d_124_128, Or.inl pf_193⟩, List.forall_mem_cons.mpr ⟨d_124_131, List.forall_mem_cons.mpr ⟨d_124_133, List.forall_mem_cons.mpr ⟨⟨d_124_134, pf_184⟩, List.forall_mem_cons.mpr ⟨d_124_137, List.forall_mem_cons.mpr ⟨d_124_139, fun _ h => absurd h List.not_mem_nil⟩⟩⟩⟩⟩⟩⟩⟩⟩⟩⟩⟩⟩⟩⟩⟩⟩⟩⟩⟩⟩⟩⟩⟩⟩⟩⟩⟩⟩⟩⟩⟩⟩⟩⟩⟩⟩⟩⟩⟩⟩⟩⟩⟩⟩⟩⟩⟩⟩⟩⟩⟩⟩⟩⟩⟩⟩⟩⟩⟩⟩⟩⟩⟩⟩⟩⟩⟩⟩
theorem d_125_0 : decode prog_7_method_8_code 0 = .ok (.iconst 0, 1) := by decide +kernel
theorem d_125_1 : decode prog_7_method_8_code 1 = .ok (.istore_n 1, 1) := by decide +kernel
theorem d_125_2 : decode prog_7_method_8_code 2 = .ok (.iload_n 1, 1) := by decide +kernel
theorem d_125_3 : decode prog_7_method_8_code 3 = .ok (.aload_n 0, 1) := by decide +kernel
theorem d_125_4 : decode prog_7_method_8_code 4 = .ok (.getfield 28, 3) := by decide +kernel
theorem d_125_7 : decode prog_7_method_8_code 7 = .ok (.getfield 144, 3) := by decide +kernel
theorem d_125_10 : decode prog_7_method_8_code 10 = .ok (.if_icmp .ge 85, 3) := by decide +kernel
theorem d_125_13 : decode prog_7_method_8_code 13 = .ok (.aload_n 0, 1) := by decide +kernel
theorem d_125_14 : decode prog_7_method_8_code 14 = .ok (.getfield 28, 3) := by decide +kernel
theorem d_125_17 : decode prog_7_method_8_code 17 = .ok (.getfield 147, 3) := by decide +kernel
theorem d_125_20 : decode prog_7_method_8_code 20 = .ok (.iload_n 1, 1) := by decide +kernel
theorem d_125_21 : decode prog_7_method_8_code 21 = .ok (.iaload, 1) := by decide +kernel
theorem d_125_22 : decode prog_7_method_8_code 22 = .ok (.istore_n 2, 1) := by decide +kernel
theorem d_125_23 : decode prog_7_method_8_code 23 = .ok (.aload_n 0, 1) := by decide +kernel
theorem d_125_24 : decode prog_7_method_8_code 24 = .ok (.getfield 28, 3) := by decide +kernel
theorem d_125_27 : decode prog_7_method_8_code 27 = .ok (.getfield 150, 3) := by decide +kernel
theorem d_125_30 : decode prog_7_method_8_code 30 = .ok (.iload_n 1, 1) := by decide +kernel
theorem d_125_31 : decode prog_7_method_8_code 31 = .ok (.iaload, 1) := by decide +kernel
theorem d_125_32 : decode prog_7_method_8_code 32 = .ok (.istore_n 3, 1) := by decide +kernel
theorem d_125_33 : decode prog_7_method_8_code 33 = .ok (.aload_n 0, 1) := by decide +kernel
theorem d_125_34 : decode prog_7_method_8_code 34 = .ok (.getfield 32, 3) := by decide +kernel
theorem d_125_37 : decode prog_7_method_8_code 37 = .ok (.iload_n 2, 1) := by decide +kernel
theorem d_125_38 : decode prog_7_method_8_code 38 = .ok (.iload_n 3, 1) := by decide +kernel
theorem d_125_39 : decode prog_7_method_8_code 39 = .ok (.invokevirtual 153, 3) := by decide +kernel
theorem d_125_42 : decode prog_7_method_8_code 42 = .ok (.iconst 1, 1) := by decide +kernel
theorem d_125_43 : decode prog_7_method_8_code 43 = .ok (.aload_n 0, 1) := by decide +kernel
theorem d_125_44 : decode prog_7_method_8_code 44 = .ok (.getfield 61, 3) := by decide +kernel
theorem d_125_47 : decode prog_7_method_8_code 47 = .ok (.getfield 95, 3) := by decide +kernel
theorem d_125_50 : decode prog_7_method_8_code 50 = .ok (.ishl, 1) := by decide +kernel
theorem d_125_51 : decode prog_7_method_8_code 51 = .ok (.iand, 1) := by decide +kernel
theorem d_125_52 : decode prog_7_method_8_code 52 = .ok (.ifCond .eq 7, 3) := by decide +kernel
theorem d_125_55 : decode prog_7_method_8_code 55 = .ok (.iconst 1, 1) := by decide +kernel
theorem d_125_56 : decode prog_7_method_8_code 56 = .ok (.goto 4, 3) := by decide +kernel
theorem d_125_59 : decode prog_7_method_8_code 59 = .ok (.iconst 0, 1) := by decide +kernel
theorem d_125_60 : decode prog_7_method_8_code 60 = .ok (.istore 4, 2) := by decide +kernel
theorem d_125_62 : decode prog_7_method_8_code 62 = .ok (.iload 4, 2) := by decide +kernel
theorem d_125_64 : decode prog_7_method_8_code 64 = .ok (.ifCond .ne 25, 3) := by decide +kernel
theorem d_125_67 : decode prog_7_method_8_code 67 = .ok (.aload_n 0, 1) := by decide +kernel
theorem d_125_68 : decode prog_7_method_8_code 68 = .ok (.getfield 32, 3) := by decide +kernel
theorem d_125_71 : decode prog_7_method_8_code 71 = .ok (.iload_n 2, 1) := by decide +kernel
theorem d_125_72 : decode prog_7_method_8_code 72 = .ok (.iload_n 3, 1) := by decide +kernel
theorem d_125_73 : decode prog_7_method_8_code 73 = .ok (.aload_n 0, 1) := by decide +kernel
theorem d_125_74 : decode prog_7_method_8_code 74 = .ok (.getfield 36, 3) := by decide +kernel
theorem d_125_77 : decode prog_7_method_8_code 77 = .ok (.invokevirtual 126, 3) := by decide +kernel
theorem d_125_80 : decode prog_7_method_8_code 80 = .ok (.ldc2_w 156, 3) := by decide +kernel
theorem d_125_83 : decode prog_7_method_8_code 83 = .ok (.lcmp, 1) := by decide +kernel
theorem d_125_84 : decode prog_7_method_8_code 84 = .ok (.ifCond .eq 5, 3) := by decide +kernel
theorem d_125_87 : decode prog_7_method_8_code 87 = .ok (.iconst 0, 1) := by decide +kernel
theorem d_125_88 : decode prog_7_method_8_code 88 = .ok (.ireturn, 1) := by decide +kernel
theorem d_125_89 : decode prog_7_method_8_code 89 = .ok (.iinc 1 1, 3) := by decide +kernel
theorem d_125_92 : decode prog_7_method_8_code 92 = .ok (.goto (-90), 3) := by decide +kernel
theorem d_125_95 : decode prog_7_method_8_code 95 = .ok (.iconst 1, 1) := by decide +kernel
theorem d_125_96 : decode prog_7_method_8_code 96 = .ok (.ireturn, 1) := by decide +kernel
set_option maxRecDepth 20000 in
theorem ok_125 : ∀ r ∈ tb_125, sm_ok 125 r := List.forall_mem_cons.mpr ⟨d_125_0, List.forall_mem_cons.mpr ⟨d_125_1, List.forall_mem_cons.mpr ⟨d_125_2, List.forall_mem_cons.mpr ⟨d_125_3, List.forall_mem_cons.mpr ⟨⟨d_125_4, Or.inl pf_178⟩, List.forall_mem_cons.mpr ⟨⟨d_125_7, Or.inl pf_194⟩, List.forall_mem_cons.mpr ⟨⟨d_125_10, (by decide)⟩, List.forall_mem_cons.mpr ⟨d_125_13, List.forall_mem_cons.mpr ⟨⟨d_125_14, Or.inl pf_178⟩, List.forall_mem_cons.mpr ⟨⟨d_125_17, Or.inl pf_195⟩, List.forall_mem_cons.mpr ⟨d_125_20, List.forall_mem_cons.mpr ⟨d_125_21, List.forall_mem_cons.mpr ⟨d_125_22, List.forall_mem_cons.mpr ⟨d_125_23, List.forall_mem_cons.mpr ⟨⟨d_125_24, Or.inl pf_178⟩, List.forall_mem_cons.mpr ⟨⟨d_125_27, Or.inl pf_196⟩, List.forall_mem_cons.mpr ⟨d_125_30, List.forall_mem_cons.mpr ⟨d_125_31, List.forall_mem_cons.mpr ⟨d_125_32, List.forall_mem_cons.mpr ⟨d_125_33, List.forall_mem_cons.mpr ⟨⟨d_125_34, Or.inl pf_188⟩, List.forall_mem_cons.mpr ⟨d_125_37, List.forall_mem_cons.mpr ⟨d_125_38, List.forall_mem_cons.mpr ⟨⟨d_125_39, ⟨mo_49, mi_49, se_49, pm_155⟩⟩, List.forall_mem_cons.mpr ⟨d_125_42, List.forall_mem_cons.mpr ⟨d_125_43, List.forall_mem_cons.mpr ⟨⟨d_125_44, Or.inl pf_182⟩, List.forall_mem_cons.mpr ⟨⟨d_125_47, Or.inl pf_183⟩, List.forall_mem_cons.mpr ⟨d_125_50, List.forall_mem_cons.mpr ⟨d_125_51, List.forall_mem_cons.mpr ⟨⟨d_125_52, (by decide)⟩, List.forall_mem_cons.mpr ⟨d_125_55, List.forall_mem_cons.mpr ⟨⟨d_125_56, (by decide)⟩, List.forall_mem_cons.mpr ⟨d_125_59, List.forall_mem_cons.mpr ⟨d_125_60, List.forall_mem_cons.mpr ⟨d_125_62, List.forall_mem_cons.mpr ⟨⟨d_125_64, (by decide)⟩, List.forall_mem_cons.mpr ⟨d_125_67, List.forall_mem_cons.mpr ⟨⟨d_125_68, Or.inl pf_188⟩, List.forall_mem_cons.mpr ⟨d_125_71, List.forall_mem_cons.mpr ⟨d_125_72, List.forall_mem_cons.mpr ⟨d_125_73, List.forall_mem_cons.mpr ⟨⟨d_125_74, Or.inl pf_175⟩, List.forall_mem_cons.mpr ⟨⟨d_125_77, ⟨mo_51, mi_51, se_51, pm_153⟩⟩, List.forall_mem_cons.mpr ⟨⟨d_125_80, (fun _ h => Option.some.inj h ▸ wd_339)⟩, List.forall_mem_cons.mpr ⟨d_125_83, List.forall_mem_cons.mpr ⟨⟨d_125_84, (by decide)⟩, List.forall_mem_cons.mpr ⟨d_125_87, List.forall_mem_cons.mpr ⟨d_125_88, List.forall_mem_cons.mpr ⟨d_125_89, List.forall_mem_cons.mpr ⟨⟨d_125_92, (by decide)⟩, List.forall_mem_cons.mpr ⟨d_125_95, List.forall_mem_cons.mpr ⟨d_125_96, fun _ h => absurd h List.not_mem_nil⟩⟩⟩⟩⟩⟩⟩⟩⟩⟩⟩⟩⟩⟩⟩⟩⟩⟩⟩⟩⟩⟩⟩⟩⟩⟩⟩⟩⟩⟩⟩⟩⟩⟩⟩⟩⟩⟩⟩⟩⟩⟩⟩⟩⟩⟩⟩⟩⟩⟩⟩⟩⟩
theorem d_126_0 : decode prog_7_method_9_code 0 = .ok (.aload_n 0, 1) := by decide +kernel
theorem d_126_1 : decode prog_7_method_9_code 1 = .ok (.getfield 28, 3) := by decide +kernel
theorem d_126_4 : decode prog_7_method_9_code 4 = .ok (.invokevirtual 158, 3) := by decide +kernel
theorem d_126_7 : decode prog_7_method_9_code 7 = .ok (.ifCond .eq 36, 3) := by decide +kernel
theorem d_126_10 : decode prog_7_method_9_code 10 = .ok (.aload_n 0, 1) := by decide +kernel
theorem d_126_11 : decode prog_7_method_9_code 11 = .ok (.getfield 32, 3) := by decide +kernel
theorem d_126_14 : decode prog_7_method_9_code 14 = .ok (.aload_n 0, 1) := by decide +kernel
theorem d_126_15 : decode prog_7_method_9_code 15 = .ok (.getfield 28, 3) := by decide +kernel
theorem d_126_18 : decode prog_7_method_9_code 18 = .ok (.getfield 161, 3) := by decide +kernel
theorem d_126_21 : decode prog_7_method_9_code 21 = .ok (.aload_n 0, 1) := by decide +kernel
theorem d_126_22 : decode prog_7_method_9_code 22 = .ok (.getfield 28, 3) := by decide +kernel
theorem d_126_25 : decode prog_7_method_9_code 25 = .ok (.getfield 164, 3) := by decide +kernel
theorem d_126_28 : decode prog_7_method_9_code 28 = .ok (.aload_n 0, 1) := by decide +kernel
theorem d_126_29 : decode prog_7_method_9_code 29 = .ok (.getfield 36, 3) := by decide +kernel
theorem d_126_32 : decode prog_7_method_9_code 32 = .ok (.invokevirtual 126, 3) := by decide +kernel
theorem d_126_35 : decode prog_7_method_9_code 35 = .ok (.ldc2_w 156, 3) := by decide +kernel
theorem d_126_38 : decode prog_7_method_9_code 38 = .ok (.lcmp, 1) := by decide +kernel
theorem d_126_39 : decode prog_7_method_9_code 39 = .ok (.ifCond .eq 4, 3) := by decide +kernel
theorem d_126_42 : decode prog_7_method_9_code 42 = .ok (.return_, 1) := by decide +kernel
theorem d_126_43 : decode prog_7_method_9_code 43 = .ok (.aload_n 0, 1) := by decide +kernel
theorem d_126_44 : decode prog_7_method_9_code 44 = .ok (.getfield 101, 3) := by decide +kernel
theorem d_126_47 : decode prog_7_method_9_code 47 = .ok (.bipush 60, 2) := by decide +kernel
theorem d_126_49 : decode prog_7_method_9_code 49 = .ok (.if_icmp .ge 68, 3) := by decide +kernel
theorem d_126_52 : decode prog_7_method_9_code 52 = .ok (.aload_n 0, 1) := by decide +kernel
theorem d_126_53 : decode prog_7_method_9_code 53 = .ok (.getfield 28, 3) := by decide +kernel
theorem d_126_56 : decode prog_7_method_9_code 56 = .ok (.invokevirtual 167, 3) := by decide +kernel
theorem d_126_59 : decode prog_7_method_9_code 59 = .ok (.ifCond .eq 31, 3) := by decide +kernel
theorem d_126_62 : decode prog_7_method_9_code 62 = .ok (.aload_n 0, 1) := by decide +kernel
theorem d_126_63 : decode prog_7_method_9_code 63 = .ok (.getfield 32, 3) := by decide +kernel
theorem d_126_66 : decode prog_7_method_9_code 66 = .ok (.aload_n 0, 1) := by decide +kernel
theorem d_126_67 : decode prog_7_method_9_code 67 = .ok (.getfield 28, 3) := by decide +kernel
theorem d_126_70 : decode prog_7_method_9_code 70 = .ok (.getfield 170, 3) := by decide +kernel
theorem d_126_73 : decode prog_7_method_9_code 73 = .ok (.aload_n 0, 1) := by decide +kernel
theorem d_126_74 : decode prog_7_method_9_code 74 = .ok (.getfield 28, 3) := by decide +kernel
theorem d_126_77 : decode prog_7_method_9_code 77 = .ok (.getfield 173, 3) := by decide +kernel
theorem d_126_80 : decode prog_7_method_9_code 80 = .ok (.aload_n 0, 1) := by decide +kernel
theorem d_126_81 : decode prog_7_method_9_code 81 = .ok (.getfield 36, 3) := by decide +kernel
theorem d_126_84 : decode prog_7_method_9_code 84 = .ok (.invokevirtual 126, 3) := by decide +kernel
theorem d_126_87 : decode prog_7_method_9_code 87 = .ok (.goto 4, 3) := by decide +kernel
theorem d_126_90 : decode prog_7_method_9_code 90 = .ok (.lconst 0, 1) := by decide +kernel
theorem d_126_91 : decode prog_7_method_9_code 91 = .ok (.lstore_n 1, 1) := by decide +kernel
theorem d_126_92 : decode prog_7_method_9_code 92 = .ok (.aload_n 0, 1) := by decide +kernel
theorem d_126_93 : decode prog_7_method_9_code 93 = .ok (.aload_n 0, 1) := by decide +kernel
theorem d_126_94 : decode prog_7_method_9_code 94 = .ok (.lload_n 1, 1) := by decide +kernel
theorem d_126_95 : decode prog_7_method_9_code 95 = .ok (.invokevirtual 176, 3) := by decide +kernel
theorem d_126_98 : decode prog_7_method_9_code 98 = .ok (.aload_n 0, 1) := by decide +kernel
theorem d_126_99 : decode prog_7_method_9_code 99 = .ok (.getfield 36, 3) := by decide +kernel
theorem d_126_102 : decode prog_7_method_9_code 102 = .ok (.iconst 0, 1) := by decide +kernel
theorem d_126_103 : decode prog_7_method_9_code 103 = .ok (.invokevirtual 180, 3) := by decide +kernel
theorem d_126_106 : decode prog_7_method_9_code 106 = .ok (.aload_n 0, 1) := by decide +kernel
theorem d_126_107 : decode prog_7_method_9_code 107 = .ok (.getfield 36, 3) := by decide +kernel
theorem d_126_110 : decode prog_7_method_9_code 110 = .ok (.iconst 1, 1) := by decide +kernel
theorem d_126_111 : decode prog_7_method_9_code 111 = .ok (.invokevirtual 180, 3) := by decide +kernel
theorem d_126_114 : decode prog_7_method_9_code 114 = .ok (.invokevirtual 184, 3) := by decide +kernel
theorem d_126_117 : decode prog_7_method_9_code 117 = .ok (.aload_n 0, 1) := by decide +kernel
theorem d_126_118 : decode prog_7_method_9_code 118 = .ok (.dup, 1) := by decide +kernel
theorem d_126_119 : decode prog_7_method_9_code 119 = .ok (.getfield 101, 3) := by decide +kernel
theorem d_126_122 : decode prog_7_method_9_code 122 = .ok (.iconst 1, 1) := by decide +kernel
theorem d_126_123 : decode prog_7_method_9_code 123 = .ok (.iadd, 1) := by decide +kernel
theorem d_126_124 : decode prog_7_method_9_code 124 = .ok (.putfield 101, 3) := by decide +kernel
theorem d_126_127 : decode prog_7_method_9_code 127 = .ok (.return_, 1) := by decide +kernel
set_option maxRecDepth 20000 in
theorem ok_126 : ∀ r ∈ tb_126, sm_ok 126 r := List.forall_mem_cons.mpr ⟨d_126_0, List.forall_mem_cons.mpr ⟨⟨d_126_1, Or.inl pf_178⟩, List.forall_mem_cons.mpr ⟨⟨d_126_4, ⟨mo_66, mi_66, se_66, pm_156⟩⟩, List.forall_mem_cons.mpr ⟨⟨d_126_7, (by decide)⟩, List.forall_mem_cons.mpr ⟨d_126_10, List.forall_mem_cons.mpr ⟨⟨d_126_11, Or.inl pf_188⟩, List.forall_mem_cons.mpr ⟨d_126_14, List.forall_mem_cons.mpr ⟨⟨d_126_15, Or.inl pf_178⟩, List.forall_mem_cons.mpr ⟨⟨d_126_18, Or.inl pf_197⟩, List.forall_mem_cons.mpr ⟨d_126_21, List.forall_mem_cons.mpr ⟨⟨d_126_22, Or.inl pf_178⟩, List.forall_mem_cons.mpr ⟨⟨d_126_25, Or.inl pf_198⟩, List.forall_mem_cons.mpr ⟨d_126_28, List.forall_mem_cons.mpr ⟨⟨d_126_29, Or.inl pf_175⟩, List.forall_mem_cons.mpr ⟨⟨d_126_32, ⟨mo_51, mi_51, se_51, pm_153⟩⟩, List.forall_mem_cons.mpr ⟨⟨d_126_35, (fun _ h => Option.some.inj h ▸ wd_339)⟩, List.forall_mem_cons.mpr ⟨d_126_38, List.forall_mem_cons.mpr ⟨⟨d_126_39, (by decide)⟩, List.forall_mem_cons.mpr ⟨d_126_42, List.forall_mem_cons.mpr ⟨d_126_43, List.forall_mem_cons.mpr ⟨⟨d_126_44, Or.inl pf_199⟩, List.forall_mem_cons.mpr ⟨d_126_47, List.forall_mem_cons.mpr ⟨⟨d_126_49, (by decide)⟩, List.forall_mem_cons.mpr ⟨d_126_52, List.forall_mem_cons.mpr ⟨⟨d_126_53, Or.inl pf_178⟩, List.forall_mem_cons.mpr ⟨⟨d_126_56, ⟨mo_67, mi_67, se_67, pm_157⟩⟩, List.forall_mem_cons.mpr ⟨⟨d_126_59, (by decide)⟩, List.forall_mem_cons.mpr ⟨d_126_62, List.forall_mem_cons.mpr ⟨⟨d_126_63, Or.inl pf_188⟩, List.forall_mem_cons.mpr ⟨d_126_66, List.forall_mem_cons.mpr ⟨⟨d_126_67, Or.inl pf_178⟩, List.forall_mem_cons.mpr ⟨⟨d_126_70, Or.inl pf_200⟩, List.forall_mem_cons.mpr ⟨d_126_73, List.forall_mem_cons.mpr ⟨⟨d_126_74, Or.inl pf_178⟩, List.forall_mem_cons.mpr ⟨⟨d_126_77, Or.inl pf_201⟩, List.forall_mem_cons.mpr ⟨d_126_80, List.forall_mem_cons.mpr ⟨⟨d_126_81, Or.inl pf_175⟩, List.forall_mem_cons.mpr ⟨⟨d_126_84, ⟨mo_51, mi_51, se_51, pm_153⟩⟩, List.forall_mem_cons.mpr ⟨⟨d_126_87, (by decide)⟩, List.forall_mem_cons.mpr ⟨d_126_90, List.forall_mem_cons.mpr ⟨d_126_91, List.forall_mem_cons.mpr ⟨d_126_92, List.forall_mem_cons.mpr ⟨d_126_93, List.forall_mem_cons.mpr ⟨d_126_94, List.forall_mem_cons.mpr ⟨⟨d_126_95, ⟨mo_127, mi_127, se_127, pm_158⟩⟩, List.forall_mem_cons.mpr ⟨d_126_98, List.forall_mem_cons.mpr ⟨⟨d_126_99, Or.inl pf_175⟩, List.forall_mem_cons.mpr ⟨d_126_102, List.forall_mem_cons.mpr ⟨⟨d_126_103, ⟨mo_42, mi_42, se_42, pm_159⟩⟩, List.forall_mem_cons.mpr ⟨d_126_106, List.forall_mem_cons.mpr ⟨⟨d_126_107, Or.inl pf_175⟩, List.forall_mem_cons.mpr ⟨d_126_110, List.forall_mem_cons.mpr ⟨⟨d_126_111, ⟨mo_42, mi_42, se_42, pm_159⟩⟩, List.forall_mem_cons.mpr ⟨⟨d_126_114, ⟨mo_128, mi_128, se_128, pm_160⟩⟩, List.forall_mem_cons.mpr ⟨d_126_117, List.forall_mem_cons.mpr ⟨d_126_118, List.forall_mem_cons.mpr ⟨⟨d_126_119, Or.inl pf_199⟩, List.forall_mem_cons.mpr ⟨d_126_122, List.forall_mem_cons.mpr ⟨d_126_123, List.forall_mem_cons.mpr ⟨⟨d_126_124, pf_185⟩, List.forall_mem_cons.mpr ⟨d_126_127, fun _ h => absurd h List.not_mem_nil⟩⟩⟩⟩⟩⟩⟩⟩⟩⟩⟩⟩⟩⟩⟩⟩⟩⟩⟩⟩⟩⟩⟩⟩⟩⟩⟩⟩⟩⟩⟩⟩⟩⟩⟩⟩⟩⟩⟩⟩⟩⟩⟩⟩⟩⟩⟩⟩⟩⟩⟩⟩⟩⟩⟩⟩⟩⟩⟩⟩⟩
theorem d_127_0 : decode prog_7_method_10_code 0 = .ok (.lload_n 1, 1) := by decide +kernel
theorem d_127_1 : decode prog_7_method_10_code 1 = .ok (.ldc2_w 118, 3) := by decide +kernel
theorem d_127_4 : decode prog_7_method_10_code 4 = .ok (.lcmp, 1) := by decide +kernel
theorem d_127_5 : decode prog_7_method_10_code 5 = .ok (.ifCond .ne 9, 3) := by decide +kernel
theorem d_127_8 : decode prog_7_method_10_code 8 = .ok (.ldc2_w 188, 3) := by decide +kernel
theorem d_127_11 : decode prog_7_method_10_code 11 = .ok (.goto 4, 3) := by decide +kernel
theorem d_127_14 : decode prog_7_method_10_code 14 = .ok (.lload_n 1, 1) := by decide +kernel
theorem d_127_15 : decode prog_7_method_10_code 15 = .ok (.lstore_n 3, 1) := by decide +kernel
theorem d_127_16 : decode prog_7_method_10_code 16 = .ok (.aload_n 0, 1) := by decide +kernel
theorem d_127_17 : decode prog_7_method_10_code 17 = .ok (.getfield 28, 3) := by decide +kernel
theorem d_127_20 : decode prog_7_method_10_code 20 = .ok (.getfield 190, 3) := by decide +kernel
theorem d_127_23 : decode prog_7_method_10_code 23 = .ok (.ifCond .eq 8, 3) := by decide +kernel
theorem d_127_26 : decode prog_7_method_10_code 26 = .ok (.lload_n 3, 1) := by decide +kernel
theorem d_127_27 : decode prog_7_method_10_code 27 = .ok (.lneg, 1) := by decide +kernel
theorem d_127_28 : decode prog_7_method_10_code 28 = .ok (.goto 4, 3) := by decide +kernel
theorem d_127_31 : decode prog_7_method_10_code 31 = .ok (.lload_n 3, 1) := by decide +kernel
theorem d_127_32 : decode prog_7_method_10_code 32 = .ok (.lreturn, 1) := by decide +kernel
set_option maxRecDepth 20000 in
theorem ok_127 : ∀ r ∈ tb_127, sm_ok 127 r := List.forall_mem_cons.mpr ⟨d_127_0, List.forall_mem_cons.mpr ⟨⟨d_127_1, (fun _ h => Option.some.inj h ▸ wd_328)⟩, List.forall_mem_cons.mpr ⟨d_127_4, List.forall_mem_cons.mpr ⟨⟨d_127_5, (by decide)⟩, List.forall_mem_cons.mpr ⟨⟨d_127_8, (fun _ h => Option.some.inj h ▸ wd_349)⟩, List.forall_mem_cons.mpr ⟨⟨d_127_11, (by decide)⟩, List.forall_mem_cons.mpr ⟨d_127_14, List.forall_mem_cons.mpr ⟨d_127_15, List.forall_mem_cons.mpr ⟨d_127_16, List.forall_mem_cons.mpr ⟨⟨d_127_17, Or.inl pf_178⟩, List.forall_mem_cons.mpr ⟨⟨d_127_20, Or.inl pf_202⟩, List.forall_mem_cons.mpr ⟨⟨d_127_23, (by decide)⟩, List.forall_mem_cons.mpr ⟨d_127_26, List.forall_mem_cons.mpr ⟨d_127_27, List.forall_mem_cons.mpr ⟨⟨d_127_28, (by decide)⟩, List.forall_mem_cons.mpr ⟨d_127_31, List.forall_mem_cons.mpr ⟨d_127_32, fun _ h => absurd h List.not_mem_nil⟩⟩⟩⟩⟩⟩⟩⟩⟩⟩⟩⟩⟩⟩⟩⟩⟩
theorem d_128_0 : decode prog_7_method_11_code 0 = .ok (.aload_n 0, 1) := by decide +kernel
theorem d_128_1 : decode prog_7_method_11_code 1 = .ok (.getfield 101, 3) := by decide +kernel
theorem d_128_4 : decode prog_7_method_11_code 4 = .ok (.istore 5, 2) := by decide +kernel
theorem d_128_6 : decode prog_7_method_11_code 6 = .ok (.iload 5, 2) := by decide +kernel
theorem d_128_8 : decode prog_7_method_11_code 8 = .ok (.ifCond .le 72, 3) := by decide +kernel
theorem d_128_11 : decode prog_7_method_11_code 11 = .ok (.aload_n 0, 1) := by decide +kernel
theorem d_128_12 : decode prog_7_method_11_code 12 = .ok (.lload_n 1, 1) := by decide +kernel
theorem d_128_13 : decode prog_7_method_11_code 13 = .ok (.iload_n 3, 1) := by decide +kernel
theorem d_128_14 : decode prog_7_method_11_code 14 = .ok (.iload 4, 2) := by decide +kernel
theorem d_128_16 : decode prog_7_method_11_code 16 = .ok (.iload 5, 2) := by decide +kernel
theorem d_128_18 : decode prog_7_method_11_code 18 = .ok (.iconst 1, 1) := by decide +kernel
theorem d_128_19 : decode prog_7_method_11_code 19 = .ok (.isub, 1) := by decide +kernel
theorem d_128_20 : decode prog_7_method_11_code 20 = .ok (.invokevirtual 194, 3) := by decide +kernel
theorem d_128_23 : decode prog_7_method_11_code 23 = .ok (.ifCond .eq 57, 3) := by decide +kernel
theorem d_128_26 : decode prog_7_method_11_code 26 = .ok (.aload_n 0, 1) := by decide +kernel
theorem d_128_27 : decode prog_7_method_11_code 27 = .ok (.getfield 18, 3) := by decide +kernel
theorem d_128_30 : decode prog_7_method_11_code 30 = .ok (.iload 5, 2) := by decide +kernel
theorem d_128_32 : decode prog_7_method_11_code 32 = .ok (.aload_n 0, 1) := by decide +kernel
theorem d_128_33 : decode prog_7_method_11_code 33 = .ok (.getfield 18, 3) := by decide +kernel
theorem d_128_36 : decode prog_7_method_11_code 36 = .ok (.iload 5, 2) := by decide +kernel
theorem d_128_38 : decode prog_7_method_11_code 38 = .ok (.iconst 1, 1) := by decide +kernel
theorem d_128_39 : decode prog_7_method_11_code 39 = .ok (.isub, 1) := by decide +kernel
theorem d_128_40 : decode prog_7_method_11_code 40 = .ok (.laload, 1) := by decide +kernel
theorem d_128_41 : decode prog_7_method_11_code 41 = .ok (.lastore, 1) := by decide +kernel
theorem d_128_42 : decode prog_7_method_11_code 42 = .ok (.aload_n 0, 1) := by decide +kernel
theorem d_128_43 : decode prog_7_method_11_code 43 = .ok (.getfield 22, 3) := by decide +kernel
theorem d_128_46 : decode prog_7_method_11_code 46 = .ok (.iload 5, 2) := by decide +kernel
theorem d_128_48 : decode prog_7_method_11_code 48 = .ok (.aload_n 0, 1) := by decide +kernel
theorem d_128_49 : decode prog_7_method_11_code 49 = .ok (.getfield 22, 3) := by decide +kernel
theorem d_128_52 : decode prog_7_method_11_code 52 = .ok (.iload 5, 2) := by decide +kernel
theorem d_128_54 : decode prog_7_method_11_code 54 = .ok (.iconst 1, 1) := by decide +kernel
theorem d_128_55 : decode prog_7_method_11_code 55 = .ok (.isub, 1) := by decide +kernel
theorem d_128_56 : decode prog_7_method_11_code 56 = .ok (.iaload, 1) := by decide +kernel
theorem d_128_57 : decode prog_7_method_11_code 57 = .ok (.iastore, 1) := by decide +kernel
theorem d_128_58 : decode prog_7_method_11_code 58 = .ok (.aload_n 0, 1) := by decide +kernel
theorem d_128_59 : decode prog_7_method_11_code 59 = .ok (.getfield 25, 3) := by decide +kernel
theorem d_128_62 : decode prog_7_method_11_code 62 = .ok (.iload 5, 2) := by decide +kernel
theorem d_128_64 : decode prog_7_method_11_code 64 = .ok (.aload_n 0, 1) := by decide +kernel
theorem d_128_65 : decode prog_7_method_11_code 65 = .ok (.getfield 25, 3) := by decide +kernel
theorem d_128_68 : decode prog_7_method_11_code 68 = .ok (.iload 5, 2) := by decide +kernel
theorem d_128_70 : decode prog_7_method_11_code 70 = .ok (.iconst 1, 1) := by decide +kernel
theorem d_128_71 : decode prog_7_method_11_code 71 = .ok (.isub, 1) := by decide +kernel
theorem d_128_72 : decode prog_7_method_11_code 72 = .ok (.iaload, 1) := by decide +kernel
theorem d_128_73 : decode prog_7_method_11_code 73 = .ok (.iastore, 1) := by decide +kernel
theorem d_128_74 : decode prog_7_method_11_code 74 = .ok (.iinc 5 (-1), 3) := by decide +kernel
theorem d_128_77 : decode prog_7_method_11_code 77 = .ok (.goto (-71), 3) := by decide +kernel
theorem d_128_80 : decode prog_7_method_11_code 80 = .ok (.aload_n 0, 1) := by decide +kernel
theorem d_128_81 : decode prog_7_method_11_code 81 = .ok (.getfield 18, 3) := by decide +kernel
theorem d_128_84 : decode prog_7_method_11_code 84 = .ok (.iload 5, 2) := by decide +kernel
theorem d_128_86 : decode prog_7_method_11_code 86 = .ok (.lload_n 1, 1) := by decide +kernel
theorem d_128_87 : decode prog_7_method_11_code 87 = .ok (.lastore, 1) := by decide +kernel
theorem d_128_88 : decode prog_7_method_11_code 88 = .ok (.aload_n 0, 1) := by decide +kernel
theorem d_128_89 : decode prog_7_method_11_code 89 = .ok (.getfield 22, 3) := by decide +kernel
theorem d_128_92 : decode prog_7_method_11_code 92 = .ok (.iload 5, 2) := by decide +kernel
theorem d_128_94 : decode prog_7_method_11_code 94 = .ok (.iload_n 3, 1) := by decide +kernel
theorem d_128_95 : decode prog_7_method_11_code 95 = .ok (.iastore, 1) := by decide +kernel
theorem d_128_96 : decode prog_7_method_11_code 96 = .ok (.aload_n 0, 1) := by decide +kernel
theorem d_128_97 : decode prog_7_method_11_code 97 = .ok (.getfield 25, 3) := by decide +kernel
theorem d_128_100 : decode prog_7_method_11_code 100 = .ok (.iload 5, 2) := by decide +kernel
theorem d_128_102 : decode prog_7_method_11_code 102 = .ok (.iload 4, 2) := by decide +kernel
theorem d_128_104 : decode prog_7_method_11_code 104 = .ok (.iastore, 1) := by decide +kernel
theorem d_128_105 : decode prog_7_method_11_code 105 = .ok (.return_, 1) := by decide +kernel
set_option maxRecDepth 20000 in
theorem ok_128 : ∀ r ∈ tb_128, sm_ok 128 r := List.forall_mem_cons.mpr ⟨d_128_0, List.forall_mem_cons.mpr ⟨⟨d_128_1, Or.inl pf_199⟩, List.forall_mem_cons.mpr ⟨d_128_4, List.forall_mem_cons.mpr ⟨d_128_6, List.forall_mem_cons.mpr ⟨⟨d_128_8, (by decide)⟩, List.forall_mem_cons.mpr ⟨d_128_11, List.forall_mem_cons.mpr ⟨d_128_12, List.forall_mem_cons.mpr ⟨d_128_13, List.forall_mem_cons.mpr ⟨d_128_14, List.forall_mem_cons.mpr ⟨d_128_16, List.forall_mem_cons.mpr ⟨d_128_18, List.forall_mem_cons.mpr ⟨d_128_19, List.forall_mem_cons.mpr ⟨⟨d_128_20, ⟨mo_129, mi_129, se_129, pm_161⟩⟩, List.forall_mem_cons.mpr ⟨⟨d_128_23, (by decide)⟩, List.forall_mem_cons.mpr ⟨d_128_26, List.forall_mem_cons.mpr ⟨⟨d_128_27, Or.inl pf_203⟩, List.forall_mem_cons.mpr ⟨d_128_30, List.forall_mem_cons.mpr ⟨d_128_32, List.forall_mem_cons.mpr ⟨⟨d_128_33, Or.inl pf_203⟩, List.forall_mem_cons.mpr ⟨d_128_36, List.forall_mem_cons.mpr ⟨d_128_38, List.forall_mem_cons.mpr ⟨d_128_39, List.forall_mem_cons.mpr ⟨d_128_40, List.forall_mem_cons.mpr ⟨d_128_41, List.forall_mem_cons.mpr ⟨d_128_42, List.forall_mem_cons.mpr ⟨⟨d_128_43, Or.inl pf_204⟩, List.forall_mem_cons.mpr ⟨d_128_46, List.forall_mem_cons.mpr ⟨d_128_48, List.forall_mem_cons.mpr ⟨⟨d_128_49, Or.inl pf_204⟩, List.forall_mem_cons.mpr ⟨d_128_52, List.forall_mem_cons.mpr ⟨d_128_54, List.forall_mem_cons.mpr ⟨d_128_55, List.forall_mem_cons.mpr ⟨d_128_56, List.forall_mem_cons.mpr ⟨d_128_57, List.forall_mem_cons.mpr ⟨d_128_58, List.forall_mem_cons.mpr ⟨⟨d_128_59, Or.inl pf_205⟩, List.forall_mem_cons.mpr ⟨d_128_62, List.forall_mem_cons.mpr ⟨d_128_64, List.forall_mem_cons.mpr ⟨⟨d_128_65, Or.inl pf_205⟩, List.forall_mem_cons.mpr ⟨d_128_68, List.forall_mem_cons.mpr ⟨d_128_70, List.forall_mem_cons.mpr ⟨d_128_71, List.forall_mem_cons.mpr ⟨d_128_72, List.forall_mem_cons.mpr ⟨d_128_73, List.forall_mem_cons.mpr ⟨d_128_74, List.forall_mem_cons.mpr ⟨⟨d_128_77, (by decide)⟩, List.forall_mem_cons.mpr ⟨d_128_80, List.forall_mem_cons.mpr ⟨⟨d_128_81, Or.inl pf_203⟩, List.forall_mem_cons.mpr ⟨d_128_84, List.forall_mem_cons.mpr ⟨d_128_86, List.forall_mem_cons.mpr ⟨d_128_87, List.forall_mem_cons.mpr ⟨d_128_88, List.forall_mem_cons.mpr ⟨⟨d_128_89, Or.inl pf_204⟩, List.forall_mem_cons.mpr ⟨d_128_92, List.forall_mem_cons.mpr ⟨d_128_94, List.forall_mem_cons.mpr ⟨d_128_95, List.forall_mem_cons.mpr ⟨d_128_96, List.forall_mem_cons.mpr ⟨⟨d_128_97, Or.inl pf_205⟩, List.forall_mem_cons.mpr ⟨d_128_100, List.forall_mem_cons.mpr ⟨d_128_102, List.forall_mem_cons.mpr ⟨d_128_104, List.forall_mem_cons.mpr ⟨d_128_105, fun _ h => absurd h List.not_mem_nil⟩⟩⟩⟩⟩⟩⟩⟩⟩⟩⟩⟩⟩⟩⟩⟩⟩⟩⟩⟩⟩⟩⟩⟩⟩⟩⟩⟩⟩⟩⟩⟩⟩⟩⟩⟩⟩⟩⟩⟩⟩⟩⟩⟩⟩⟩⟩⟩⟩⟩⟩⟩⟩⟩⟩⟩⟩⟩⟩⟩⟩⟩
theorem d_129_0 : decode prog_7_method_12_code 0 = .ok (.lload_n 1, 1) := by decide +kernel
theorem d_129_1 : decode prog_7_method_12_code 1 = .ok (.aload_n 0, 1) := by decide +kernel
theorem d_129_2 : decode prog_7_method_12_code 2 = .ok (.getfield 18, 3) := by decide +kernel
theorem d_129_5 : decode prog_7_method_12_code 5 = .ok (.iload 5, 2) := by decide +kernel
theorem d_129_7 : decode prog_7_method_12_code 7 = .ok (.laload, 1) := by decide +kernel
theorem d_129_8 : decode prog_7_method_12_code 8 = .ok (.lcmp, 1) := by decide +kernel
theorem d_129_9 : decode prog_7_method_12_code 9 = .ok (.ifCond .eq 21, 3) := by decide +kernel
theorem d_129_12 : decode prog_7_method_12_code 12 = .ok (.lload_n 1, 1) := by decide +kernel
theorem d_129_13 : decode prog_7_method_12_code 13 = .ok (.aload_n 0, 1) := by decide +kernel
theorem d_129_14 : decode prog_7_method_12_code 14 = .ok (.getfield 18, 3) := by decide +kernel
theorem d_129_17 : decode prog_7_method_12_code 17 = .ok (.iload 5, 2) := by decide +kernel
theorem d_129_19 : decode prog_7_method_12_code 19 = .ok (.laload, 1) := by decide +kernel
theorem d_129_20 : decode prog_7_method_12_code 20 = .ok (.lcmp, 1) := by decide +kernel
theorem d_129_21 : decode prog_7_method_12_code 21 = .ok (.ifCond .ge 7, 3) := by decide +kernel
theorem d_129_24 : decode prog_7_method_12_code 24 = .ok (.iconst 1, 1) := by decide +kernel
theorem d_129_25 : decode prog_7_method_12_code 25 = .ok (.goto 4, 3) := by decide +kernel
theorem d_129_28 : decode prog_7_method_12_code 28 = .ok (.iconst 0, 1) := by decide +kernel
theorem d_129_29 : decode prog_7_method_12_code 29 = .ok (.ireturn, 1) := by decide +kernel
theorem d_129_30 : decode prog_7_method_12_code 30 = .ok (.iload_n 3, 1) := by decide +kernel
theorem d_129_31 : decode prog_7_method_12_code 31 = .ok (.aload_n 0, 1) := by decide +kernel
theorem d_129_32 : decode prog_7_method_12_code 32 = .ok (.getfield 22, 3) := by decide +kernel
theorem d_129_35 : decode prog_7_method_12_code 35 = .ok (.iload 5, 2) := by decide +kernel
theorem d_129_37 : decode prog_7_method_12_code 37 = .ok (.iaload, 1) := by decide +kernel
theorem d_129_38 : decode prog_7_method_12_code 38 = .ok (.if_icmp .eq 22, 3) := by decide +kernel
theorem d_129_41 : decode prog_7_method_12_code 41 = .ok (.iload_n 3, 1) := by decide +kernel
theorem d_129_42 : decode prog_7_method_12_code 42 = .ok (.aload_n 0, 1) := by decide +kernel
theorem d_129_43 : decode prog_7_method_12_code 43 = .ok (.getfield 22, 3) := by decide +kernel
theorem d_129_46 : decode prog_7_method_12_code 46 = .ok (.iload 5, 2) := by decide +kernel
theorem d_129_48 : decode prog_7_method_12_code 48 = .ok (.iaload, 1) := by decide +kernel
theorem d_129_49 : decode prog_7_method_12_code 49 = .ok (.if_icmp .ge 7, 3) := by decide +kernel
theorem d_129_52 : decode prog_7_method_12_code 52 = .ok (.iconst 1, 1) := by decide +kernel
theorem d_129_53 : decode prog_7_method_12_code 53 = .ok (.goto 24, 3) := by decide +kernel
theorem d_129_56 : decode prog_7_method_12_code 56 = .ok (.iconst 0, 1) := by decide +kernel
theorem d_129_57 : decode prog_7_method_12_code 57 = .ok (.goto 20, 3) := by decide +kernel
theorem d_129_60 : decode prog_7_method_12_code 60 = .ok (.iload 4, 2) := by decide +kernel
theorem d_129_62 : decode prog_7_method_12_code 62 = .ok (.aload_n 0, 1) := by decide +kernel
theorem d_129_63 : decode prog_7_method_12_code 63 = .ok (.getfield 25, 3) := by decide +kernel
theorem d_129_66 : decode prog_7_method_12_code 66 = .ok (.iload 5, 2) := by decide +kernel
theorem d_129_68 : decode prog_7_method_12_code 68 = .ok (.iaload, 1) := by decide +kernel
theorem d_129_69 : decode prog_7_method_12_code 69 = .ok (.if_icmp .ge 7, 3) := by decide +kernel
theorem d_129_72 : decode prog_7_method_12_code 72 = .ok (.iconst 1, 1) := by decide +kernel
theorem d_129_73 : decode prog_7_method_12_code 73 = .ok (.goto 4, 3) := by decide +kernel
theorem d_129_76 : decode prog_7_method_12_code 76 = .ok (.iconst 0, 1) := by decide +kernel
theorem d_129_77 : decode prog_7_method_12_code 77 = .ok (.ireturn, 1) := by decide +kernel
set_option maxRecDepth 20000 in
theorem ok_129 : ∀ r ∈ tb_129, sm_ok 129 r := List.forall_mem_cons.mpr ⟨d_129_0, List.forall_mem_cons.mpr ⟨d_129_1, List.forall_mem_cons.mpr ⟨⟨d_129_2, Or.inl pf_203⟩, List.forall_mem_cons.mpr ⟨d_129_5, List.forall_mem_cons.mpr ⟨d_129_7, List.forall_mem_cons.mpr ⟨d_129_8, List.forall_mem_cons.mpr ⟨⟨d_129_9, (by decide)⟩, List.forall_mem_cons.mpr ⟨d_129_12, List.forall_mem_cons.mpr ⟨d_129_13, List.forall_mem_cons.mpr ⟨⟨d_129_14, Or.inl pf_203⟩, List.forall_mem_cons.mpr ⟨d_129_17, List.forall_mem_cons.mpr ⟨d_129_19, List.forall_mem_cons.mpr ⟨d_129_20, List.forall_mem_cons.mpr ⟨⟨d_129_21, (by decide)⟩, List.forall_mem_cons.mpr ⟨d_129_24, List.forall_mem_cons.mpr ⟨⟨d_129_25, (by decide)⟩, List.forall_mem_cons.mpr ⟨d_129_28, List.forall_mem_cons.mpr ⟨d_129_29, List.forall_mem_cons.mpr ⟨d_129_30, List.forall_mem_cons.mpr ⟨d_129_31, List.forall_mem_cons.mpr ⟨⟨d_129_32, Or.inl pf_204⟩, List.forall_mem_cons.mpr ⟨d_129_35, List.forall_mem_cons.mpr ⟨d_129_37, List.forall_mem_cons.mpr ⟨⟨d_129_38, (by decide)⟩, List.forall_mem_cons.mpr ⟨d_129_41, List.forall_mem_cons.mpr ⟨d_129_42, List.forall_mem_cons.mpr ⟨⟨d_129_43, Or.inl pf_204⟩, List.forall_mem_cons.mpr ⟨d_129_46, List.forall_mem_cons.mpr ⟨d_129_48, List.forall_mem_cons.mpr ⟨⟨d_129_49, (by decide)⟩, List.forall_mem_cons.mpr ⟨d_129_52, List.forall_mem_cons.mpr ⟨⟨d_129_53, (by decide)⟩, List.forall_mem_cons.mpr ⟨d_129_56, List.forall_mem_cons.mpr ⟨⟨d_129_57, (by decide)⟩, List.forall_mem_cons.mpr ⟨d_129_60, List.forall_mem_cons.mpr ⟨d_129_62, List.forall_mem_cons.mpr ⟨⟨d_129_63, Or.inl pf_205⟩, List.forall_mem_cons.mpr ⟨d_129_66, List.forall_mem_cons.mpr ⟨d_129_68, List.forall_mem_cons.mpr ⟨⟨d_129_69, (by decide)⟩, List.forall_mem_cons.mpr ⟨d_129_72, List.forall_mem_cons.mpr ⟨⟨d_129_73, (by decide)⟩, List.forall_mem_cons.mpr ⟨d_129_76, List.forall_mem_cons.mpr ⟨d_129_77, fun _ h => absurd h List.not_mem_nil⟩⟩⟩⟩⟩⟩⟩⟩⟩⟩⟩⟩⟩⟩⟩⟩⟩⟩⟩⟩⟩⟩⟩⟩⟩⟩⟩⟩⟩⟩⟩⟩⟩⟩⟩⟩⟩⟩⟩⟩⟩⟩⟩⟩
theorem d_130_0 : decode prog_7_method_13_code 0 = .ok (.iload_n 1, 1) := by decide +kernel
theorem d_130_1 : decode prog_7_method_13_code 1 = .ok (.ifCond .lt 45, 3) := by decide +kernel
theorem d_130_4 : decode prog_7_method_13_code 4 = .ok (.iload_n 1, 1) := by decide +kernel
theorem d_130_5 : decode prog_7_method_13_code 5 = .ok (.aload_n 0, 1) := by decide +kernel
theorem d_130_6 : decode prog_7_method_13_code 6 = .ok (.getfield 101, 3) := by decide +kernel
theorem d_130_9 : decode prog_7_method_13_code 9 = .ok (.if_icmp .ge 37, 3) := by decide +kernel
theorem d_130_12 : decode prog_7_method_13_code 12 = .ok (.iload_n 1, 1) := by decide +kernel
theorem d_130_13 : decode prog_7_method_13_code 13 = .ok (.bipush 60, 2) := by decide +kernel
theorem d_130_15 : decode prog_7_method_13_code 15 = .ok (.if_icmp .ge 31, 3) := by decide +kernel
theorem d_130_18 : decode prog_7_method_13_code 18 = .ok (.aload_n 0, 1) := by decide +kernel
theorem d_130_19 : decode prog_7_method_13_code 19 = .ok (.getfield 36, 3) := by decide +kernel
theorem d_130_22 : decode prog_7_method_13_code 22 = .ok (.iconst 0, 1) := by decide +kernel
theorem d_130_23 : decode prog_7_method_13_code 23 = .ok (.aload_n 0, 1) := by decide +kernel
theorem d_130_24 : decode prog_7_method_13_code 24 = .ok (.getfield 22, 3) := by decide +kernel
theorem d_130_27 : decode prog_7_method_13_code 27 = .ok (.iload_n 1, 1) := by decide +kernel
theorem d_130_28 : decode prog_7_method_13_code 28 = .ok (.iaload, 1) := by decide +kernel
theorem d_130_29 : decode prog_7_method_13_code 29 = .ok (.invokevirtual 108, 3) := by decide +kernel
theorem d_130_32 : decode prog_7_method_13_code 32 = .ok (.aload_n 0, 1) := by decide +kernel
theorem d_130_33 : decode prog_7_method_13_code 33 = .ok (.getfield 36, 3) := by decide +kernel
theorem d_130_36 : decode prog_7_method_13_code 36 = .ok (.iconst 1, 1) := by decide +kernel
theorem d_130_37 : decode prog_7_method_13_code 37 = .ok (.aload_n 0, 1) := by decide +kernel
theorem d_130_38 : decode prog_7_method_13_code 38 = .ok (.getfield 25, 3) := by decide +kernel
theorem d_130_41 : decode prog_7_method_13_code 41 = .ok (.iload_n 1, 1) := by decide +kernel
theorem d_130_42 : decode prog_7_method_13_code 42 = .ok (.iaload, 1) := by decide +kernel
theorem d_130_43 : decode prog_7_method_13_code 43 = .ok (.invokevirtual 108, 3) := by decide +kernel
theorem d_130_46 : decode prog_7_method_13_code 46 = .ok (.return_, 1) := by decide +kernel
set_option maxRecDepth 20000 in
theorem ok_130 : ∀ r ∈ tb_130, sm_ok 130 r := List.forall_mem_cons.mpr ⟨d_130_0, List.forall_mem_cons.mpr ⟨⟨d_130_1, (by decide)⟩, List.forall_mem_cons.mpr ⟨d_130_4, List.forall_mem_cons.mpr ⟨d_130_5, List.forall_mem_cons.mpr ⟨⟨d_130_6, Or.inl pf_199⟩, List.forall_mem_cons.mpr ⟨⟨d_130_9, (by decide)⟩, List.forall_mem_cons.mpr ⟨d_130_12, List.forall_mem_cons.mpr ⟨d_130_13, List.forall_mem_cons.mpr ⟨⟨d_130_15, (by decide)⟩, List.forall_mem_cons.mpr ⟨d_130_18, List.forall_mem_cons.mpr ⟨⟨d_130_19, Or.inl pf_175⟩, List.forall_mem_cons.mpr ⟨d_130_22, List.forall_mem_cons.mpr ⟨d_130_23, List.forall_mem_cons.mpr ⟨⟨d_130_24, Or.inl pf_204⟩, List.forall_mem_cons.mpr ⟨d_130_27, List.forall_mem_cons.mpr ⟨d_130_28, List.forall_mem_cons.mpr ⟨⟨d_130_29, ⟨mo_43, mi_43, se_43, pm_150⟩⟩, List.forall_mem_cons.mpr ⟨d_130_32, List.forall_mem_cons.mpr ⟨⟨d_130_33, Or.inl pf_175⟩, List.forall_mem_cons.mpr ⟨d_130_36, List.forall_mem_cons.mpr ⟨d_130_37, List.forall_mem_cons.mpr ⟨⟨d_130_38, Or.inl pf_205⟩, List.forall_mem_cons.mpr ⟨d_130_41, List.forall_mem_cons.mpr ⟨d_130_42, List.forall_mem_cons.mpr ⟨⟨d_130_43, ⟨mo_43, mi_43, se_43, pm_150⟩⟩, List.forall_mem_cons.mpr ⟨d_130_46, fun _ h => absurd h List.not_mem_nil⟩⟩⟩⟩⟩⟩⟩⟩⟩⟩⟩⟩⟩⟩⟩⟩⟩⟩⟩⟩⟩⟩⟩⟩⟩⟩
theorem d_131_0 : decode prog_12_method_1_code 0 = .ok (.aload_n 0, 1) := by decide +kernel
theorem d_131_1 : decode prog_12_method_1_code 1 = .ok (.invokespecial 1, 3) := by decide +kernel
theorem d_131_4 : decode prog_12_method_1_code 4 = .ok (.aload_n 0, 1) := by decide +kernel
theorem d_131_5 : decode prog_12_method_1_code 5 = .ok (.bipush 100, 2) := by decide +kernel
theorem d_131_7 : decode prog_12_method_1_code 7 = .ok (.newarray .char, 2) := by decide +kernel
theorem d_131_9 : decode prog_12_method_1_code 9 = .ok (.putfield 7, 3) := by decide +kernel
theorem d_131_12 : decode prog_12_method_1_code 12 = .ok (.aload_n 0, 1) := by decide +kernel
theorem d_131_13 : decode prog_12_method_1_code 13 = .ok (.bipush 101, 2) := by decide +kernel
theorem d_131_15 : decode prog_12_method_1_code 15 = .ok (.newarray .int, 2) := by decide +kernel
theorem d_131_17 : decode prog_12_method_1_code 17 = .ok (.putfield 13, 3) := by decide +kernel
theorem d_131_20 : decode prog_12_method_1_code 20 = .ok (.aload_n 0, 1) := by decide +kernel
theorem d_131_21 : decode prog_12_method_1_code 21 = .ok (.bipush 101, 2) := by decide +kernel
theorem d_131_23 : decode prog_12_method_1_code 23 = .ok (.newarray .int, 2) := by decide +kernel
theorem d_131_25 : decode prog_12_method_1_code 25 = .ok (.putfield 17, 3) := by decide +kernel
theorem d_131_28 : decode prog_12_method_1_code 28 = .ok (.aload_n 0, 1) := by decide +kernel
theorem d_131_29 : decode prog_12_method_1_code 29 = .ok (.bipush 110, 2) := by decide +kernel
theorem d_131_31 : decode prog_12_method_1_code 31 = .ok (.newarray .int, 2) := by decide +kernel
theorem d_131_33 : decode prog_12_method_1_code 33 = .ok (.putfield 20, 3) := by decide +kernel
theorem d_131_36 : decode prog_12_method_1_code 36 = .ok (.aload_n 0, 1) := by decide +kernel
theorem d_131_37 : decode prog_12_method_1_code 37 = .ok (.bipush 110, 2) := by decide +kernel
theorem d_131_39 : decode prog_12_method_1_code 39 = .ok (.newarray .int, 2) := by decide +kernel
theorem d_131_41 : decode prog_12_method_1_code 41 = .ok (.putfield 23, 3) := by decide +kernel
theorem d_131_44 : decode prog_12_method_1_code 44 = .ok (.aload_n 0, 1) := by decide +kernel
theorem d_131_45 : decode prog_12_method_1_code 45 = .ok (.bipush 101, 2) := by decide +kernel
theorem d_131_47 : decode prog_12_method_1_code 47 = .ok (.newarray .int, 2) := by decide +kernel
theorem d_131_49 : decode prog_12_method_1_code 49 = .ok (.putfield 26, 3) := by decide +kernel
theorem d_131_52 : decode prog_12_method_1_code 52 = .ok (.aload_n 0, 1) := by decide +kernel
theorem d_131_53 : decode prog_12_method_1_code 53 = .ok (.bipush 101, 2) := by decide +kernel
theorem d_131_55 : decode prog_12_method_1_code 55 = .ok (.newarray .int, 2) := by decide +kernel
theorem d_131_57 : decode prog_12_method_1_code 57 = .ok (.putfield 29, 3) := by decide +kernel
theorem d_131_60 : decode prog_12_method_1_code 60 = .ok (.aload_n 0, 1) := by decide +kernel
theorem d_131_61 : decode prog_12_method_1_code 61 = .ok (.iconst 2, 1) := by decide +kernel
theorem d_131_62 : decode prog_12_method_1_code 62 = .ok (.newarray .int, 2) := by decide +kernel
theorem d_131_64 : decode prog_12_method_1_code 64 = .ok (.putfield 32, 3) := by decide +kernel
theorem d_131_67 : decode prog_12_method_1_code 67 = .ok (.aload_n 0, 1) := by decide +kernel
theorem d_131_68 : decode prog_12_method_1_code 68 = .ok (.iconst 4, 1) := by decide +kernel
theorem d_131_69 : decode prog_12_method_1_code 69 = .ok (.newarray .int, 2) := by decide +kernel
theorem d_131_71 : decode prog_12_method_1_code 71 = .ok (.putfield 35, 3) := by decide +kernel
theorem d_131_74 : decode prog_12_method_1_code 74 = .ok (.aload_n 0, 1) := by decide +kernel
theorem d_131_75 : decode prog_12_method_1_code 75 = .ok (.iconst 4, 1) := by decide +kernel
theorem d_131_76 : decode prog_12_method_1_code 76 = .ok (.newarray .int, 2) := by decide +kernel
theorem d_131_78 : decode prog_12_method_1_code 78 = .ok (.putfield 38, 3) := by decide +kernel
theorem d_131_81 : decode prog_12_method_1_code 81 = .ok (.aload_n 0, 1) := by decide +kernel
theorem d_131_82 : decode prog_12_method_1_code 82 = .ok (.bipush 40, 2) := by decide +kernel
theorem d_131_84 : decode prog_12_method_1_code 84 = .ok (.newarray .int, 2) := by decide +kernel
theorem d_131_86 : decode prog_12_method_1_code 86 = .ok (.putfield 41, 3) := by decide +kernel
theorem d_131_89 : decode prog_12_method_1_code 89 = .ok (.aload_n 0, 1) := by decide +kernel
theorem d_131_90 : decode prog_12_method_1_code 90 = .ok (.bipush 40, 2) := by decide +kernel
theorem d_131_92 : decode prog_12_method_1_code 92 = .ok (.newarray .int, 2) := by decide +kernel
theorem d_131_94 : decode prog_12_method_1_code 94 = .ok (.putfield 44, 3) := by decide +kernel
theorem d_131_97 : decode prog_12_method_1_code 97 = .ok (.aload_n 0, 1) := by decide +kernel
theorem d_131_98 : decode prog_12_method_1_code 98 = .ok (.bipush 40, 2) := by decide +kernel
theorem d_131_100 : decode prog_12_method_1_code 100 = .ok (.newarray .int, 2) := by decide +kernel
theorem d_131_102 : decode prog_12_method_1_code 102 = .ok (.putfield 47, 3) := by decide +kernel
theorem d_131_105 : decode prog_12_method_1_code 105 = .ok (.aload_n 0, 1) := by decide +kernel
theorem d_131_106 : decode prog_12_method_1_code 106 = .ok (.iconst 3, 1) := by decide +kernel
theorem d_131_107 : decode prog_12_method_1_code 107 = .ok (.newarray .int, 2) := by decide +kernel
theorem d_131_109 : decode prog_12_method_1_code 109 = .ok (.putfield 50, 3) := by decide +kernel
theorem d_131_112 : decode prog_12_method_1_code 112 = .ok (.aload_n 0, 1) := by decide +kernel
theorem d_131_113 : decode prog_12_method_1_code 113 = .ok (.iconst 3, 1) := by decide +kernel
theorem d_131_114 : decode prog_12_method_1_code 114 = .ok (.newarray .int, 2) := by decide +kernel
theorem d_131_116 : decode prog_12_method_1_code 116 = .ok (.putfield 53, 3) := by decide +kernel
theorem d_131_119 : decode prog_12_method_1_code 119 = .ok (.aload_n 0, 1) := by decide +kernel
theorem d_131_120 : decode prog_12_method_1_code 120 = .ok (.sipush 240, 3) := by decide +kernel
theorem d_131_123 : decode prog_12_method_1_code 123 = .ok (.newarray .long, 2) := by decide +kernel
theorem d_131_125 : decode prog_12_method_1_code 125 = .ok (.putfield 56, 3) := by decide +kernel
theorem d_131_128 : decode prog_12_method_1_code 128 = .ok (.aload_n 0, 1) := by decide +kernel
theorem d_131_129 : decode prog_12_method_1_code 129 = .ok (.bipush 12, 2) := by decide +kernel
theorem d_131_131 : decode prog_12_method_1_code 131 = .ok (.newarray .boolean, 2) := by decide +kernel
theorem d_131_133 : decode prog_12_method_1_code 133 = .ok (.putfield 60, 3) := by decide +kernel
theorem d_131_136 : decode prog_12_method_1_code 136 = .ok (.aload_n 0, 1) := by decide +kernel
theorem d_131_137 : decode prog_12_method_1_code 137 = .ok (.iconst 3, 1) := by decide +kernel
theorem d_131_138 : decode prog_12_method_1_code 138 = .ok (.newarray .int, 2) := by decide +kernel
theorem d_131_140 : decode prog_12_method_1_code 140 = .ok (.putfield 64, 3) := by decide +kernel
theorem d_131_143 : decode prog_12_method_1_code 143 = .ok (.aload_n 0, 1) := by decide +kernel
theorem d_131_144 : decode prog_12_method_1_code 144 = .ok (.bipush 110, 2) := by decide +kernel
theorem d_131_146 : decode prog_12_method_1_code 146 = .ok (.newarray .long, 2) := by decide +kernel
theorem d_131_148 : decode prog_12_method_1_code 148 = .ok (.putfield 67, 3) := by decide +kernel
theorem d_131_151 : decode prog_12_method_1_code 151 = .ok (.aload_n 0, 1) := by decide +kernel
theorem d_131_152 : decode prog_12_method_1_code 152 = .ok (.bipush 20, 2) := by decide +kernel
theorem d_131_154 : decode prog_12_method_1_code 154 = .ok (.newarray .long, 2) := by decide +kernel
theorem d_131_156 : decode prog_12_method_1_code 156 = .ok (.putfield 70, 3) := by decide +kernel
theorem d_131_159 : decode prog_12_method_1_code 159 = .ok (.aload_n 0, 1) := by decide +kernel
theorem d_131_160 : decode prog_12_method_1_code 160 = .ok (.bipush 20, 2) := by decide +kernel
theorem d_131_162 : decode prog_12_method_1_code 162 = .ok (.newarray .boolean, 2) := by decide +kernel
theorem d_131_164 : decode prog_12_method_1_code 164 = .ok (.putfield 73, 3) := by decide +kernel
theorem d_131_167 : decode prog_12_method_1_code 167 = .ok (.aload_n 0, 1) := by decide +kernel
theorem d_131_168 : decode prog_12_method_1_code 168 = .ok (.bipush 60, 2) := by decide +kernel
theorem d_131_170 : decode prog_12_method_1_code 170 = .ok (.newarray .int, 2) := by decide +kernel
theorem d_131_172 : decode prog_12_method_1_code 172 = .ok (.putfield 76, 3) := by decide +kernel
theorem d_131_175 : decode prog_12_method_1_code 175 = .ok (.aload_n 0, 1) := by decide +kernel
theorem d_131_176 : decode prog_12_method_1_code 176 = .ok (.bipush 60, 2) := by decide +kernel
theorem d_131_178 : decode prog_12_method_1_code 178 = .ok (.newarray .int, 2) := by decide +kernel
theorem d_131_180 : decode prog_12_method_1_code 180 = .ok (.putfield 79, 3) := by decide +kernel
theorem d_131_183 : decode prog_12_method_1_code 183 = .ok (.aload_n 0, 1) := by decide +kernel
theorem d_131_184 : decode prog_12_method_1_code 184 = .ok (.bipush 60, 2) := by decide +kernel
theorem d_131_186 : decode prog_12_method_1_code 186 = .ok (.newarray .long, 2) := by decide +kernel
theorem d_131_188 : decode prog_12_method_1_code 188 = .ok (.putfield 82, 3) := by decide +kernel
theorem d_131_191 : decode prog_12_method_1_code 191 = .ok (.aload_n 0, 1) := by decide +kernel
theorem d_131_192 : decode prog_12_method_1_code 192 = .ok (.bipush 60, 2) := by decide +kernel
theorem d_131_194 : decode prog_12_method_1_code 194 = .ok (.newarray .boolean, 2) := by decide +kernel
theorem d_131_196 : decode prog_12_method_1_code 196 = .ok (.putfield 85, 3) := by decide +kernel
theorem d_131_199 : decode prog_12_method_1_code 199 = .ok (.aload_n 0, 1) := by decide +kernel
theorem d_131_200 : decode prog_12_method_1_code 200 = .ok (.sipush 180, 3) := by decide +kernel
theorem d_131_203 : decode prog_12_method_1_code 203 = .ok (.newarray .long, 2) := by decide +kernel
theorem d_131_205 : decode prog_12_method_1_code 205 = .ok (.putfield 88, 3) := by decide +kernel
theorem d_131_208 : decode prog_12_method_1_code 208 = .ok (.return_, 1) := by decide +kernel
set_option maxRecDepth 20000 in
theorem ok_131 : ∀ r ∈ tb_131, sm_ok 131 r := List.forall_mem_cons.mpr ⟨d_131_0, List.forall_mem_cons.mpr ⟨⟨d_131_1, (Or.inl ⟨rfl, wd_352, wd_34, wd_35⟩)⟩, List.forall_mem_cons.mpr ⟨d_131_4, List.forall_mem_cons.mpr ⟨d_131_5, List.forall_mem_cons.mpr ⟨⟨d_131_7, ⟨wd_36, Or.inr (Or.inr (Or.inl ⟨rfl, rfl⟩))⟩⟩, List.forall_mem_cons.mpr ⟨⟨d_131_9, pf_206 rfl⟩, List.forall_mem_cons.mpr ⟨d_131_12, List.forall_mem_cons.mpr ⟨d_131_13, List.forall_mem_cons.mpr ⟨⟨d_131_15, ⟨wd_133, Or.inl ⟨rfl, rfl⟩⟩⟩, List.forall_mem_cons.mpr ⟨⟨d_131_17, pf_207 rfl⟩, List.forall_mem_cons.mpr ⟨d_131_20, List.forall_mem_cons.mpr ⟨d_131_21, List.forall_mem_cons.mpr ⟨⟨d_131_23, ⟨wd_133, Or.inl ⟨rfl, rfl⟩⟩⟩, List.forall_mem_cons.mpr ⟨⟨d_131_25, pf_208 rfl⟩, List.forall_mem_cons.mpr ⟨d_131_28, List.forall_mem_cons.mpr ⟨d_131_29, List.forall_mem_cons.mpr ⟨⟨d_131_31, ⟨wd_133, Or.inl ⟨rfl, rfl⟩⟩⟩, List.forall_mem_cons.mpr ⟨⟨d_131_33, pf_209 rfl⟩, List.forall_mem_cons.mpr ⟨d_131_36, List.forall_mem_cons.mpr ⟨d_131_37, List.forall_mem_cons.mpr ⟨⟨d_131_39, ⟨wd_133, Or.inl ⟨rfl, rfl⟩⟩⟩, List.forall_mem_cons.mpr ⟨⟨d_131_41, pf_210 rfl⟩, List.forall_mem_cons.mpr ⟨d_131_44, List.forall_mem_cons.mpr ⟨d_131_45, List.forall_mem_cons.mpr ⟨⟨d_131_47, ⟨wd_133, Or.inl ⟨rfl, rfl⟩⟩⟩, List.forall_mem_cons.mpr ⟨⟨d_131_49, pf_211 rfl⟩, List.forall_mem_cons.mpr ⟨d_131_52, List.forall_mem_cons.mpr ⟨d_131_53, List.forall_mem_cons.mpr ⟨⟨d_131_55, ⟨wd_133, Or.inl ⟨rfl, rfl⟩⟩⟩, List.forall_mem_cons.mpr ⟨⟨d_131_57, pf_212 rfl⟩, List.forall_mem_cons.mpr ⟨d_131_60, List.forall_mem_cons.mpr ⟨d_131_61, List.forall_mem_cons.mpr ⟨⟨d_131_62, ⟨wd_133, Or.inl ⟨rfl, rfl⟩⟩⟩, List.forall_mem_cons.mpr ⟨⟨d_131_64, pf_213 rfl⟩, List.forall_mem_cons.mpr ⟨d_131_67, List.forall_mem_cons.mpr ⟨d_131_68, List.forall_mem_cons.mpr ⟨⟨d_131_69, ⟨wd_133, Or.inl ⟨rfl, rfl⟩⟩⟩, List.forall_mem_cons.mpr ⟨⟨d_131_71, pf_214 rfl⟩, List.forall_mem_cons.mpr ⟨d_131_74, List.forall_mem_cons.mpr ⟨d_131_75, List.forall_mem_cons.mpr ⟨⟨d_131_76, ⟨wd_133, Or.inl ⟨rfl, rfl⟩⟩⟩, List.forall_mem_cons.mpr ⟨⟨d_131_78, pf_215 rfl⟩, List.forall_mem_cons.mpr ⟨d_131_81, List.forall_mem_cons.mpr ⟨d_131_82, List.forall_mem_cons.mpr ⟨⟨d_131_84, ⟨wd_133, Or.inl ⟨rfl, rfl⟩⟩⟩, List.forall_mem_cons.mpr ⟨⟨d_131_86, pf_216 rfl⟩, List.forall_mem_cons.mpr ⟨d_131_89, List.forall_mem_cons.mpr ⟨d_131_90, List.forall_mem_cons.mpr ⟨⟨d_131_92, ⟨wd_133, Or.inl ⟨rfl, rfl⟩⟩⟩, List.forall_mem_cons.mpr ⟨⟨d_131_94, pf_217 rfl⟩, List.forall_mem_cons.mpr ⟨d_131_97, List.forall_mem_cons.mpr ⟨d_131_98, List.forall_mem_cons.mpr ⟨⟨d_131_100, ⟨wd_133, Or.inl ⟨rfl, rfl⟩⟩⟩, List.forall_mem_cons.mpr ⟨⟨d_131_102, pf_218 rfl⟩, List.forall_mem_cons.mpr ⟨d_131_105, List.forall_mem_cons.mpr ⟨d_131_106, List.forall_mem_cons.mpr ⟨⟨d_131_107, ⟨wd_133, Or.inl ⟨rfl, rfl⟩⟩⟩, List.forall_mem_cons.mpr ⟨⟨d_131_109, pf_219 rfl⟩, List.forall_mem_cons.mpr ⟨d_131_112, List.forall_mem_cons.mpr ⟨d_131_113, List.forall_mem_cons.mpr ⟨⟨d_131_114, ⟨wd_133, Or.inl ⟨rfl, rfl⟩⟩⟩, List.forall_mem_cons.mpr ⟨⟨d_131_116, pf_220 rfl⟩, List.forall_mem_cons.mpr ⟨d_131_119, List.forall_mem_cons.mpr ⟨d_131_120, List.forall_mem_cons.mpr ⟨⟨d_131_123, ⟨wd_60, Or.inr (Or.inl ⟨rfl, rfl⟩)⟩⟩, List.forall_mem_cons.mpr ⟨⟨d_131_125, pf_221 rfl⟩, List.forall_mem_cons.mpr ⟨d_131_128, List.forall_mem_cons.mpr ⟨d_131_129, List.forall_mem_cons.mpr ⟨⟨d_131_131, ⟨wd_120, Or.inr (Or.inr (Or.inr ⟨rfl, rfl⟩))⟩⟩, List.forall_mem_cons.mpr ⟨⟨d_131_133, pf_222 rfl⟩, List.forall_mem_cons.mpr ⟨d_131_136, List.forall_mem_cons.mpr ⟨d_131_137, List.forall_mem_cons.mpr ⟨⟨d_131_138, ⟨wd_133, Or.inl ⟨rfl, rfl⟩⟩⟩, List.forall_mem_cons.mpr ⟨⟨d_131_140, pf_223 rfl⟩, List.forall_mem_cons.mpr ⟨d_131_143, List.forall_mem_cons.mpr ⟨d_131_144, List.forall_mem_cons.mpr ⟨⟨d_131_146, ⟨wd_60, Or.inr (Or.inl ⟨rfl, rfl⟩)⟩⟩, List.forall_mem_cons.mpr ⟨⟨d_131_148, pf_224 rfl⟩, List.forall_mem_cons.mpr ⟨d_131_151, List.forall_mem_cons.mpr ⟨d_131_152, List.forall_mem_cons.mpr ⟨⟨d_131_154, ⟨wd_60, Or.inr (Or.inl ⟨rfl, rfl⟩)⟩⟩, List.forall_mem_cons.mpr ⟨⟨d_131_156, pf_225 rfl⟩, List.forall_mem_cons.mpr ⟨d_131_159, List.forall_mem_cons.mpr ⟨d_131_160, List.forall_mem_cons.mpr ⟨⟨d_131_162, ⟨wd_120, Or.inr (Or.inr (Or.inr ⟨rfl, rfl⟩))⟩⟩, List.forall_mem_cons.mpr ⟨⟨d_131_164, pf_226 rfl⟩, List.forall_mem_cons.mpr ⟨d_131_167, List.forall_mem_cons.mpr ⟨d_131_168, List.forall_mem_cons.mpr ⟨⟨d_131_170, ⟨wd_133, Or.inl ⟨rfl, rfl⟩⟩⟩, List.forall_mem_cons.mpr ⟨⟨d_131_172, pf_227 rfl⟩, List.forall_mem_cons.mpr ⟨d_131_175, List.forall_mem_cons.mpr ⟨d_131_176, List.forall_mem_cons.mpr ⟨⟨d_131_178, ⟨wd_133, Or.inl ⟨rfl, rfl⟩⟩⟩, List.forall_mem_cons.mpr ⟨⟨d_131_180, pf_228 rfl⟩, List.forall_mem_cons.mpr ⟨d_131_183, List.forall_mem_cons.mpr ⟨d_131_184, List.forall_mem_cons.mpr ⟨⟨d_131_186, ⟨wd_60, Or.inr (Or.inl ⟨rfl, rfl⟩)⟩⟩, List.forall_mem_cons.mpr ⟨⟨d_131_188, pf_229 rfl⟩, List.forall_mem_cons.mpr ⟨d_131_191, List.forall_mem_cons.mpr ⟨d_131_192, List.forall_mem_cons.mpr ⟨⟨d_131_194, ⟨wd_120, Or.inr (Or.inr (Or.inr ⟨rfl, rfl⟩))⟩⟩, List.forall_mem_cons.mpr ⟨⟨d_131_196, pf_230 rfl⟩, List.forall_mem_cons.mpr ⟨d_131_199, List.forall_mem_cons.mpr ⟨d_131_200, List.forall_mem_cons.mpr ⟨⟨d_131_203, ⟨wd_60, Or.inr (Or.inl ⟨rfl, rfl⟩)⟩⟩, List.forall_mem_cons.mpr ⟨⟨d_131_205, pf_231 rfl⟩, List.forall_mem_cons.mpr ⟨d_131_208, fun _ h => absurd h List.not_mem_nil⟩⟩⟩⟩⟩⟩⟩⟩⟩⟩⟩⟩⟩⟩⟩⟩⟩⟩⟩⟩⟩⟩⟩⟩⟩⟩⟩⟩⟩⟩⟩⟩⟩⟩⟩⟩⟩⟩⟩⟩⟩⟩⟩⟩⟩⟩⟩⟩⟩⟩⟩⟩⟩⟩⟩⟩⟩⟩⟩⟩⟩⟩⟩⟩⟩⟩⟩⟩⟩⟩⟩⟩⟩⟩⟩⟩⟩⟩⟩⟩⟩⟩⟩⟩⟩⟩⟩⟩⟩⟩⟩⟩⟩⟩⟩⟩⟩⟩⟩⟩⟩⟩⟩⟩⟩⟩⟩
theorem d_132_0 : decode prog_12_method_2_code 0 = .ok (.iload_n 1, 1) := by decide +kernel
theorem d_132_1 : decode prog_12_method_2_code 1 = .ok (.bipush 32, 2) := by decide +kernel
theorem d_132_3 : decode prog_12_method_2_code 3 = .ok (.if_icmp .lt 18, 3) := by decide +kernel
theorem d_132_6 : decode prog_12_method_2_code 6 = .ok (.iload_n 1, 1) := by decide +kernel
theorem d_132_7 : decode prog_12_method_2_code 7 = .ok (.bipush 126, 2) := by decide +kernel
theorem d_132_9 : decode prog_12_method_2_code 9 = .ok (.if_icmp .gt 12, 3) := by decide +kernel
theorem d_132_12 : decode prog_12_method_2_code 12 = .ok (.aload_n 0, 1) := by decide +kernel
theorem d_132_13 : decode prog_12_method_2_code 13 = .ok (.getfield 91, 3) := by decide +kernel
theorem d_132_16 : decode prog_12_method_2_code 16 = .ok (.bipush 80, 2) := by decide +kernel
theorem d_132_18 : decode prog_12_method_2_code 18 = .ok (.if_icmp .lt 5, 3) := by decide +kernel
theorem d_132_21 : decode prog_12_method_2_code 21 = .ok (.iconst 0, 1) := by decide +kernel
theorem d_132_22 : decode prog_12_method_2_code 22 = .ok (.ireturn, 1) := by decide +kernel
theorem d_132_23 : decode prog_12_method_2_code 23 = .ok (.aload_n 0, 1) := by decide +kernel
theorem d_132_24 : decode prog_12_method_2_code 24 = .ok (.getfield 7, 3) := by decide +kernel
theorem d_132_27 : decode prog_12_method_2_code 27 = .ok (.aload_n 0, 1) := by decide +kernel
theorem d_132_28 : decode prog_12_method_2_code 28 = .ok (.getfield 91, 3) := by decide +kernel
theorem d_132_31 : decode prog_12_method_2_code 31 = .ok (.iload_n 1, 1) := by decide +kernel
theorem d_132_32 : decode prog_12_method_2_code 32 = .ok (.castore, 1) := by decide +kernel
theorem d_132_33 : decode prog_12_method_2_code 33 = .ok (.aload_n 0, 1) := by decide +kernel
theorem d_132_34 : decode prog_12_method_2_code 34 = .ok (.dup, 1) := by decide +kernel
theorem d_132_35 : decode prog_12_method_2_code 35 = .ok (.getfield 91, 3) := by decide +kernel
theorem d_132_38 : decode prog_12_method_2_code 38 = .ok (.iconst 1, 1) := by decide +kernel
theorem d_132_39 : decode prog_12_method_2_code 39 = .ok (.iadd, 1) := by decide +kernel
theorem d_132_40 : decode prog_12_method_2_code 40 = .ok (.putfield 91, 3) := by decide +kernel
theorem d_132_43 : decode prog_12_method_2_code 43 = .ok (.iconst 1, 1) := by decide +kernel
theorem d_132_44 : decode prog_12_method_2_code 44 = .ok (.ireturn, 1) := by decide +kernel
set_option maxRecDepth 20000 in
theorem ok_132 : ∀ r ∈ tb_132, sm_ok 132 r := List.forall_mem_cons.mpr ⟨d_132_0, List.forall_mem_cons.mpr ⟨d_132_1, List.forall_mem_cons.mpr ⟨⟨d_132_3, (by decide)⟩, List.forall_mem_cons.mpr ⟨d_132_6, List.forall_mem_cons.mpr ⟨d_132_7, List.forall_mem_cons.mpr ⟨⟨d_132_9, (by decide)⟩, List.forall_mem_cons.mpr ⟨d_132_12, List.forall_mem_cons.mpr ⟨⟨d_132_13, Or.inl pf_232⟩, List.forall_mem_cons.mpr ⟨d_132_16, List.forall_mem_cons.mpr ⟨⟨d_132_18, (by decide)⟩, List.forall_mem_cons.mpr ⟨d_132_21, List.forall_mem_cons.mpr ⟨d_132_22, List.forall_mem_cons.mpr ⟨d_132_23, List.forall_mem_cons.mpr ⟨⟨d_132_24, Or.inl pf_233⟩, List.forall_mem_cons.mpr ⟨d_132_27, List.forall_mem_cons.mpr ⟨⟨d_132_28, Or.inl pf_232⟩, List.forall_mem_cons.mpr ⟨d_132_31, List.forall_mem_cons.mpr ⟨d_132_32, List.forall_mem_cons.mpr ⟨d_132_33, List.forall_mem_cons.mpr ⟨d_132_34, List.forall_mem_cons.mpr ⟨⟨d_132_35, Or.inl pf_232⟩, List.forall_mem_cons.mpr ⟨d_132_38, List.forall_mem_cons.mpr ⟨d_132_39, List.forall_mem_cons.mpr ⟨⟨d_132_40, pf_234⟩, List.forall_mem_cons.mpr ⟨d_132_43, List.forall_mem_cons.mpr ⟨d_132_44, fun _ h => absurd h List.not_mem_nil⟩⟩⟩⟩⟩⟩⟩⟩⟩⟩⟩⟩⟩⟩⟩⟩⟩⟩⟩⟩⟩⟩⟩⟩⟩⟩
theorem d_133_0 : decode prog_12_method_3_code 0 = .ok (.aload_n 0, 1) := by decide +kernel
theorem d_133_1 : decode prog_12_method_3_code 1 = .ok (.getfield 91, 3) := by decide +kernel
theorem d_133_4 : decode prog_12_method_3_code 4 = .ok (.ifCond .ne 5, 3) := by decide +kernel
theorem d_133_7 : decode prog_12_method_3_code 7 = .ok (.iconst 0, 1) := by decide +kernel
theorem d_133_8 : decode prog_12_method_3_code 8 = .ok (.ireturn, 1) := by decide +kernel
theorem d_133_9 : decode prog_12_method_3_code 9 = .ok (.aload_n 0, 1) := by decide +kernel
theorem d_133_10 : decode prog_12_method_3_code 10 = .ok (.dup, 1) := by decide +kernel
theorem d_133_11 : decode prog_12_method_3_code 11 = .ok (.getfield 91, 3) := by decide +kernel
theorem d_133_14 : decode prog_12_method_3_code 14 = .ok (.iconst 1, 1) := by decide +kernel
theorem d_133_15 : decode prog_12_method_3_code 15 = .ok (.isub, 1) := by decide +kernel
theorem d_133_16 : decode prog_12_method_3_code 16 = .ok (.putfield 91, 3) := by decide +kernel
theorem d_133_19 : decode prog_12_method_3_code 19 = .ok (.iconst 1, 1) := by decide +kernel
theorem d_133_20 : decode prog_12_method_3_code 20 = .ok (.ireturn, 1) := by decide +kernel
set_option maxRecDepth 20000 in
theorem ok_133 : ∀ r ∈ tb_133, sm_ok 133 r := List.forall_mem_cons.mpr ⟨d_133_0, List.forall_mem_cons.mpr ⟨⟨d_133_1, Or.inl pf_232⟩, List.forall_mem_cons.mpr ⟨⟨d_133_4, (by decide)⟩, List.forall_mem_cons.mpr ⟨d_133_7, List.forall_mem_cons.mpr ⟨d_133_8, List.forall_mem_cons.mpr ⟨d_133_9, List.forall_mem_cons.mpr ⟨d_133_10, List.forall_mem_cons.mpr ⟨⟨d_133_11, Or.inl pf_232⟩, List.forall_mem_cons.mpr ⟨d_133_14, List.forall_mem_cons.mpr ⟨d_133_15, List.forall_mem_cons.mpr ⟨⟨d_133_16, pf_234⟩, List.forall_mem_cons.mpr ⟨d_133_19, List.forall_mem_cons.mpr ⟨d_133_20, fun _ h => absurd h List.not_mem_nil⟩⟩⟩⟩⟩⟩⟩⟩⟩⟩⟩⟩⟩
theorem d_134_0 : decode prog_12_method_4_code 0 = .ok (.aload_n 0, 1) := by decide +kernel
theorem d_134_1 : decode prog_12_method_4_code 1 = .ok (.getfield 91, 3) := by decide +kernel
theorem d_134_4 : decode prog_12_method_4_code 4 = .ok (.ireturn, 1) := by decide +kernel
set_option maxRecDepth 20000 in
theorem ok_134 : ∀ r ∈ tb_134, sm_ok 134 r := List.forall_mem_cons.mpr ⟨d_134_0, List.forall_mem_cons.mpr ⟨⟨d_134_1, Or.inl pf_232⟩, List.forall_mem_cons.mpr ⟨d_134_4, fun _ h => absurd h List.not_mem_nil⟩⟩⟩
theorem d_135_0 : decode prog_12_method_5_code 0 = .ok (.iload_n 0, 1) := by decide +kernel
theorem d_135_1 : decode prog_12_method_5_code 1 = .ok (.bipush 97, 2) := by decide +kernel
theorem d_135_3 : decode prog_12_method_5_code 3 = .ok (.if_icmp .lt 13, 3) := by decide +kernel
theorem d_135_6 : decode prog_12_method_5_code 6 = .ok (.iload_n 0, 1) := by decide +kernel
theorem d_135_7 : decode prog_12_method_5_code 7 = .ok (.bipush 122, 2) := by decide +kernel
theorem d_135_9 : decode prog_12_method_5_code 9 = .ok (.if_icmp .gt 7, 3) := by decide +kernel
theorem d_135_12 : decode prog_12_method_5_code 12 = .ok (.iconst 1, 1) := by decide +kernel
theorem d_135_13 : decode prog_12_method_5_code 13 = .ok (.goto 4, 3) := by decide +kernel
theorem d_135_16 : decode prog_12_method_5_code 16 = .ok (.iconst 0, 1) := by decide +kernel
theorem d_135_17 : decode prog_12_method_5_code 17 = .ok (.ireturn, 1) := by decide +kernel
set_option maxRecDepth 20000 in
theorem ok_135 : ∀ r ∈ tb_135, sm_ok 135 r := List.forall_mem_cons.mpr ⟨d_135_0, List.forall_mem_cons.mpr ⟨d_135_1, List.forall_mem_cons.mpr ⟨⟨d_135_3, (by decide)⟩, List.forall_mem_cons.mpr ⟨d_135_6, List.forall_mem_cons.mpr ⟨d_135_7, List.forall_mem_cons.mpr ⟨⟨d_135_9, (by decide)⟩, List.forall_mem_cons.mpr ⟨d_135_12, List.forall_mem_cons.mpr ⟨⟨d_135_13, (by decide)⟩, List.forall_mem_cons.mpr ⟨d_135_16, List.forall_mem_cons.mpr ⟨d_135_17, fun _ h => absurd h List.not_mem_nil⟩⟩⟩⟩⟩⟩⟩⟩⟩⟩
theorem d_136_0 : decode prog_12_method_6_code 0 = .ok (.iload_n 0, 1) := by decide +kernel
theorem d_136_1 : decode prog_12_method_6_code 1 = .ok (.bipush 48, 2) := by decide +kernel
theorem d_136_3 : decode prog_12_method_6_code 3 = .ok (.if_icmp .lt 13, 3) := by decide +kernel
theorem d_136_6 : decode prog_12_method_6_code 6 = .ok (.iload_n 0, 1) := by decide +kernel
theorem d_136_7 : decode prog_12_method_6_code 7 = .ok (.bipush 57, 2) := by decide +kernel
theorem d_136_9 : decode prog_12_method_6_code 9 = .ok (.if_icmp .gt 7, 3) := by decide +kernel
theorem d_136_12 : decode prog_12_method_6_code 12 = .ok (.iconst 1, 1) := by decide +kernel
theorem d_136_13 : decode prog_12_method_6_code 13 = .ok (.goto 4, 3) := by decide +kernel
theorem d_136_16 : decode prog_12_method_6_code 16 = .ok (.iconst 0, 1) := by decide +kernel
theorem d_136_17 : decode prog_12_method_6_code 17 = .ok (.ireturn, 1) := by decide +kernel
set_option maxRecDepth 20000 in
theorem ok_136 : ∀ r ∈ tb_136, sm_ok 136 r := List.forall_mem_cons.mpr ⟨d_136_0, List.forall_mem_cons.mpr ⟨d_136_1, List.forall_mem_cons.mpr ⟨⟨d_136_3, (by decide)⟩, List.forall_mem_cons.mpr ⟨d_136_6, List.forall_mem_cons.mpr ⟨d_136_7, List.forall_mem_cons.mpr ⟨⟨d_136_9, (by decide)⟩, List.forall_mem_cons.mpr ⟨d_136_12, List.forall_mem_cons.mpr ⟨⟨d_136_13, (by decide)⟩, List.forall_mem_cons.mpr ⟨d_136_16, List.forall_mem_cons.mpr ⟨d_136_17, fun _ h => absurd h List.not_mem_nil⟩⟩⟩⟩⟩⟩⟩⟩⟩⟩
theorem d_137_0 : decode prog_12_method_7_code 0 = .ok (.iload_n 0, 1) := by decide +kernel
theorem d_137_1 : decode prog_12_method_7_code 1 = .ok (.bipush 40, 2) := by decide +kernel
theorem d_137_3 : decode prog_12_method_7_code 3 = .ok (.if_icmp .lt 9, 3) := by decide +kernel
theorem d_137_6 : decode prog_12_method_7_code 6 = .ok (.iload_n 0, 1) := by decide +kernel
theorem d_137_7 : decode prog_12_method_7_code 7 = .ok (.bipush 47, 2) := by decide +kernel
theorem d_137_9 : decode prog_12_method_7_code 9 = .ok (.if_icmp .le 33, 3) := by decide +kernel
theorem d_137_12 : decode prog_12_method_7_code 12 = .ok (.iload_n 0, 1) := by decide +kernel
theorem d_137_13 : decode prog_12_method_7_code 13 = .ok (.bipush 91, 2) := by decide +kernel
theorem d_137_15 : decode prog_12_method_7_code 15 = .ok (.if_icmp .eq 27, 3) := by decide +kernel
theorem d_137_18 : decode prog_12_method_7_code 18 = .ok (.iload_n 0, 1) := by decide +kernel
theorem d_137_19 : decode prog_12_method_7_code 19 = .ok (.bipush 93, 2) := by decide +kernel
theorem d_137_21 : decode prog_12_method_7_code 21 = .ok (.if_icmp .eq 21, 3) := by decide +kernel
theorem d_137_24 : decode prog_12_method_7_code 24 = .ok (.iload_n 0, 1) := by decide +kernel
theorem d_137_25 : decode prog_12_method_7_code 25 = .ok (.bipush 61, 2) := by decide +kernel
theorem d_137_27 : decode prog_12_method_7_code 27 = .ok (.if_icmp .eq 15, 3) := by decide +kernel
theorem d_137_30 : decode prog_12_method_7_code 30 = .ok (.iload_n 0, 1) := by decide +kernel
theorem d_137_31 : decode prog_12_method_7_code 31 = .ok (.bipush 60, 2) := by decide +kernel
theorem d_137_33 : decode prog_12_method_7_code 33 = .ok (.if_icmp .eq 9, 3) := by decide +kernel
theorem d_137_36 : decode prog_12_method_7_code 36 = .ok (.iload_n 0, 1) := by decide +kernel
theorem d_137_37 : decode prog_12_method_7_code 37 = .ok (.bipush 62, 2) := by decide +kernel
theorem d_137_39 : decode prog_12_method_7_code 39 = .ok (.if_icmp .ne 7, 3) := by decide +kernel
theorem d_137_42 : decode prog_12_method_7_code 42 = .ok (.iconst 1, 1) := by decide +kernel
theorem d_137_43 : decode prog_12_method_7_code 43 = .ok (.goto 4, 3) := by decide +kernel
theorem d_137_46 : decode prog_12_method_7_code 46 = .ok (.iconst 0, 1) := by decide +kernel
theorem d_137_47 : decode prog_12_method_7_code 47 = .ok (.ireturn, 1) := by decide +kernel
set_option maxRecDepth 20000 in
theorem ok_137 : ∀ r ∈ tb_137, sm_ok 137 r := List.forall_mem_cons.mpr ⟨d_137_0, List.forall_mem_cons.mpr ⟨d_137_1, List.forall_mem_cons.mpr ⟨⟨d_137_3, (by decide)⟩, List.forall_mem_cons.mpr ⟨d_137_6, List.forall_mem_cons.mpr ⟨d_137_7, List.forall_mem_cons.mpr ⟨⟨d_137_9, (by decide)⟩, List.forall_mem_cons.mpr ⟨d_137_12, List.forall_mem_cons.mpr ⟨d_137_13, List.forall_mem_cons.mpr ⟨⟨d_137_15, (by decide)⟩, List.forall_mem_cons.mpr ⟨d_137_18, List.forall_mem_cons.mpr ⟨d_137_19, List.forall_mem_cons.mpr ⟨⟨d_137_21, (by decide)⟩, List.forall_mem_cons.mpr ⟨d_137_24, List.forall_mem_cons.mpr ⟨d_137_25, List.forall_mem_cons.mpr ⟨⟨d_137_27, (by decide)⟩, List.forall_mem_cons.mpr ⟨d_137_30, List.forall_mem_cons.mpr ⟨d_137_31, List.forall_mem_cons.mpr ⟨⟨d_137_33, (by decide)⟩, List.forall_mem_cons.mpr ⟨d_137_36, List.forall_mem_cons.mpr ⟨d_137_37, List.forall_mem_cons.mpr ⟨⟨d_137_39, (by decide)⟩, List.forall_mem_cons.mpr ⟨d_137_42, List.forall_mem_cons.mpr ⟨⟨d_137_43, (by decide)⟩, List.forall_mem_cons.mpr ⟨d_137_46, List.forall_mem_cons.mpr ⟨d_137_47, fun _ h => absurd h List.not_mem_nil⟩⟩⟩⟩⟩⟩⟩⟩⟩⟩⟩⟩⟩⟩⟩⟩⟩⟩⟩⟩⟩⟩⟩⟩⟩
theorem d_138_0 : decode prog_12_method_8_code 0 = .ok (.aload_n 0, 1) := by decide +kernel
theorem d_138_1 : decode prog_12_method_8_code 1 = .ok (.iconst 0, 1) := by decide +kernel
theorem d_138_2 : decode prog_12_method_8_code 2 = .ok (.putfield 95, 3) := by decide +kernel
theorem d_138_5 : decode prog_12_method_8_code 5 = .ok (.iconst 0, 1) := by decide +kernel
theorem d_138_6 : decode prog_12_method_8_code 6 = .ok (.istore_n 1, 1) := by decide +kernel
theorem d_138_7 : decode prog_12_method_8_code 7 = .ok (.iload_n 1, 1) := by decide +kernel
theorem d_138_8 : decode prog_12_method_8_code 8 = .ok (.aload_n 0, 1) := by decide +kernel
theorem d_138_9 : decode prog_12_method_8_code 9 = .ok (.getfield 91, 3) := by decide +kernel
theorem d_138_12 : decode prog_12_method_8_code 12 = .ok (.if_icmp .ge 325, 3) := by decide +kernel
theorem d_138_15 : decode prog_12_method_8_code 15 = .ok (.aload_n 0, 1) := by decide +kernel
theorem d_138_16 : decode prog_12_method_8_code 16 = .ok (.getfield 7, 3) := by decide +kernel
theorem d_138_19 : decode prog_12_method_8_code 19 = .ok (.iload_n 1, 1) := by decide +kernel
theorem d_138_20 : decode prog_12_method_8_code 20 = .ok (.caload, 1) := by decide +kernel
theorem d_138_21 : decode prog_12_method_8_code 21 = .ok (.istore_n 2, 1) := by decide +kernel
theorem d_138_22 : decode prog_12_method_8_code 22 = .ok (.iconst 1, 1) := by decide +kernel
theorem d_138_23 : decode prog_12_method_8_code 23 = .ok (.istore_n 3, 1) := by decide +kernel
theorem d_138_24 : decode prog_12_method_8_code 24 = .ok (.iconst 0, 1) := by decide +kernel
theorem d_138_25 : decode prog_12_method_8_code 25 = .ok (.istore 4, 2) := by decide +kernel
theorem d_138_27 : decode prog_12_method_8_code 27 = .ok (.iconst 0, 1) := by decide +kernel
theorem d_138_28 : decode prog_12_method_8_code 28 = .ok (.istore 5, 2) := by decide +kernel
theorem d_138_30 : decode prog_12_method_8_code 30 = .ok (.iload_n 2, 1) := by decide +kernel
theorem d_138_31 : decode prog_12_method_8_code 31 = .ok (.invokestatic 98, 3) := by decide +kernel
theorem d_138_34 : decode prog_12_method_8_code 34 = .ok (.ifCond .ne 10, 3) := by decide +kernel
theorem d_138_37 : decode prog_12_method_8_code 37 = .ok (.iload_n 2, 1) := by decide +kernel
theorem d_138_38 : decode prog_12_method_8_code 38 = .ok (.invokestatic 102, 3) := by decide +kernel
theorem d_138_41 : decode prog_12_method_8_code 41 = .ok (.ifCond .eq 188, 3) := by decide +kernel
theorem d_138_44 : decode prog_12_method_8_code 44 = .ok (.iload_n 2, 1) := by decide +kernel
theorem d_138_45 : decode prog_12_method_8_code 45 = .ok (.invokestatic 98, 3) := by decide +kernel
theorem d_138_48 : decode prog_12_method_8_code 48 = .ok (.ifCond .eq 7, 3) := by decide +kernel
theorem d_138_51 : decode prog_12_method_8_code 51 = .ok (.iconst 1, 1) := by decide +kernel
theorem d_138_52 : decode prog_12_method_8_code 52 = .ok (.goto 4, 3) := by decide +kernel
theorem d_138_55 : decode prog_12_method_8_code 55 = .ok (.iconst 3, 1) := by decide +kernel
theorem d_138_56 : decode prog_12_method_8_code 56 = .ok (.istore 5, 2) := by decide +kernel
theorem d_138_58 : decode prog_12_method_8_code 58 = .ok (.iconst 0, 1) := by decide +kernel
theorem d_138_59 : decode prog_12_method_8_code 59 = .ok (.istore_n 3, 1) := by decide +kernel
theorem d_138_60 : decode prog_12_method_8_code 60 = .ok (.iload_n 1, 1) := by decide +kernel
theorem d_138_61 : decode prog_12_method_8_code 61 = .ok (.iload_n 3, 1) := by decide +kernel
theorem d_138_62 : decode prog_12_method_8_code 62 = .ok (.iadd, 1) := by decide +kernel
theorem d_138_63 : decode prog_12_method_8_code 63 = .ok (.aload_n 0, 1) := by decide +kernel
theorem d_138_64 : decode prog_12_method_8_code 64 = .ok (.getfield 91, 3) := by decide +kernel
theorem d_138_67 : decode prog_12_method_8_code 67 = .ok (.if_icmp .ge 111, 3) := by decide +kernel
theorem d_138_70 : decode prog_12_method_8_code 70 = .ok (.iload 5, 2) := by decide +kernel
theorem d_138_72 : decode prog_12_method_8_code 72 = .ok (.iconst 1, 1) := by decide +kernel
theorem d_138_73 : decode prog_12_method_8_code 73 = .ok (.if_icmp .ne 20, 3) := by decide +kernel
theorem d_138_76 : decode prog_12_method_8_code 76 = .ok (.aload_n 0, 1) := by decide +kernel
theorem d_138_77 : decode prog_12_method_8_code 77 = .ok (.getfield 7, 3) := by decide +kernel
theorem d_138_80 : decode prog_12_method_8_code 80 = .ok (.iload_n 1, 1) := by decide +kernel
theorem d_138_81 : decode prog_12_method_8_code 81 = .ok (.iload_n 3, 1) := by decide +kernel
theorem d_138_82 : decode prog_12_method_8_code 82 = .ok (.iadd, 1) := by decide +kernel
theorem d_138_83 : decode prog_12_method_8_code 83 = .ok (.caload, 1) := by decide +kernel
theorem d_138_84 : decode prog_12_method_8_code 84 = .ok (.invokestatic 98, 3) := by decide +kernel
theorem d_138_87 : decode prog_12_method_8_code 87 = .ok (.ifCond .eq 91, 3) := by decide +kernel
theorem d_138_90 : decode prog_12_method_8_code 90 = .ok (.goto 17, 3) := by decide +kernel
theorem d_138_93 : decode prog_12_method_8_code 93 = .ok (.aload_n 0, 1) := by decide +kernel
theorem d_138_94 : decode prog_12_method_8_code 94 = .ok (.getfield 7, 3) := by decide +kernel
theorem d_138_97 : decode prog_12_method_8_code 97 = .ok (.iload_n 1, 1) := by decide +kernel
theorem d_138_98 : decode prog_12_method_8_code 98 = .ok (.iload_n 3, 1) := by decide +kernel
theorem d_138_99 : decode prog_12_method_8_code 99 = .ok (.iadd, 1) := by decide +kernel
theorem d_138_100 : decode prog_12_method_8_code 100 = .ok (.caload, 1) := by decide +kernel
theorem d_138_101 : decode prog_12_method_8_code 101 = .ok (.invokestatic 102, 3) := by decide +kernel
theorem d_138_104 : decode prog_12_method_8_code 104 = .ok (.ifCond .eq 74, 3) := by decide +kernel
theorem d_138_107 : decode prog_12_method_8_code 107 = .ok (.iload 5, 2) := by decide +kernel
theorem d_138_109 : decode prog_12_method_8_code 109 = .ok (.iconst 3, 1) := by decide +kernel
theorem d_138_110 : decode prog_12_method_8_code 110 = .ok (.if_icmp .ne 33, 3) := by decide +kernel
theorem d_138_113 : decode prog_12_method_8_code 113 = .ok (.iload_n 3, 1) := by decide +kernel
theorem d_138_114 : decode prog_12_method_8_code 114 = .ok (.bipush 9, 2) := by decide +kernel
theorem d_138_116 : decode prog_12_method_8_code 116 = .ok (.if_icmp .ge 23, 3) := by decide +kernel
theorem d_138_119 : decode prog_12_method_8_code 119 = .ok (.bipush 10, 2) := by decide +kernel
theorem d_138_121 : decode prog_12_method_8_code 121 = .ok (.iload 4, 2) := by decide +kernel
theorem d_138_123 : decode prog_12_method_8_code 123 = .ok (.imul, 1) := by decide +kernel
theorem d_138_124 : decode prog_12_method_8_code 124 = .ok (.aload_n 0, 1) := by decide +kernel
theorem d_138_125 : decode prog_12_method_8_code 125 = .ok (.getfield 7, 3) := by decide +kernel
theorem d_138_128 : decode prog_12_method_8_code 128 = .ok (.iload_n 1, 1) := by decide +kernel
theorem d_138_129 : decode prog_12_method_8_code 129 = .ok (.iload_n 3, 1) := by decide +kernel
theorem d_138_130 : decode prog_12_method_8_code 130 = .ok (.iadd, 1) := by decide +kernel
theorem d_138_131 : decode prog_12_method_8_code 131 = .ok (.caload, 1) := by decide +kernel
theorem d_138_132 : decode prog_12_method_8_code 132 = .ok (.iadd, 1) := by decide +kernel
theorem d_138_133 : decode prog_12_method_8_code 133 = .ok (.bipush 48, 2) := by decide +kernel
theorem d_138_135 : decode prog_12_method_8_code 135 = .ok (.isub, 1) := by decide +kernel
theorem d_138_136 : decode prog_12_method_8_code 136 = .ok (.goto 34, 3) := by decide +kernel
theorem d_138_139 : decode prog_12_method_8_code 139 = .ok (.iconst 0, 1) := by decide +kernel
theorem d_138_140 : decode prog_12_method_8_code 140 = .ok (.goto 30, 3) := by decide +kernel
theorem d_138_143 : decode prog_12_method_8_code 143 = .ok (.iload_n 3, 1) := by decide +kernel
theorem d_138_144 : decode prog_12_method_8_code 144 = .ok (.bipush 6, 2) := by decide +kernel
theorem d_138_146 : decode prog_12_method_8_code 146 = .ok (.if_icmp .ge 23, 3) := by decide +kernel
theorem d_138_149 : decode prog_12_method_8_code 149 = .ok (.bipush 32, 2) := by decide +kernel
theorem d_138_151 : decode prog_12_method_8_code 151 = .ok (.iload 4, 2) := by decide +kernel
theorem d_138_153 : decode prog_12_method_8_code 153 = .ok (.imul, 1) := by decide +kernel
theorem d_138_154 : decode prog_12_method_8_code 154 = .ok (.aload_n 0, 1) := by decide +kernel
theorem d_138_155 : decode prog_12_method_8_code 155 = .ok (.getfield 7, 3) := by decide +kernel
theorem d_138_158 : decode prog_12_method_8_code 158 = .ok (.iload_n 1, 1) := by decide +kernel
theorem d_138_159 : decode prog_12_method_8_code 159 = .ok (.iload_n 3, 1) := by decide +kernel
theorem d_138_160 : decode prog_12_method_8_code 160 = .ok (.iadd, 1) := by decide +kernel
theorem d_138_161 : decode prog_12_method_8_code 161 = .ok (.caload, 1) := by decide +kernel
theorem d_138_162 : decode prog_12_method_8_code 162 = .ok (.iadd, 1) := by decide +kernel
theorem d_138_163 : decode prog_12_method_8_code 163 = .ok (.bipush 96, 2) := by decide +kernel
theorem d_138_165 : decode prog_12_method_8_code 165 = .ok (.isub, 1) := by decide +kernel
theorem d_138_166 : decode prog_12_method_8_code 166 = .ok (.goto 4, 3) := by decide +kernel
theorem d_138_169 : decode prog_12_method_8_code 169 = .ok (.iconst (-1), 1) := by decide +kernel
theorem d_138_170 : decode prog_12_method_8_code 170 = .ok (.istore 4, 2) := by decide +kernel
theorem d_138_172 : decode prog_12_method_8_code 172 = .ok (.iinc 3 1, 3) := by decide +kernel
theorem d_138_175 : decode prog_12_method_8_code 175 = .ok (.goto (-115), 3) := by decide +kernel
theorem d_138_178 : decode prog_12_method_8_code 178 = .ok (.iload 5, 2) := by decide +kernel
theorem d_138_180 : decode prog_12_method_8_code 180 = .ok (.iconst 1, 1) := by decide +kernel
theorem d_138_181 : decode prog_12_method_8_code 181 = .ok (.if_icmp .ne 13, 3) := by decide +kernel
theorem d_138_184 : decode prog_12_method_8_code 184 = .ok (.iload_n 3, 1) := by decide +kernel
theorem d_138_185 : decode prog_12_method_8_code 185 = .ok (.bipush 6, 2) := by decide +kernel
theorem d_138_187 : decode prog_12_method_8_code 187 = .ok (.if_icmp .le 7, 3) := by decide +kernel
theorem d_138_190 : decode prog_12_method_8_code 190 = .ok (.iconst (-1), 1) := by decide +kernel
theorem d_138_191 : decode prog_12_method_8_code 191 = .ok (.goto 5, 3) := by decide +kernel
theorem d_138_194 : decode prog_12_method_8_code 194 = .ok (.iload 4, 2) := by decide +kernel
theorem d_138_196 : decode prog_12_method_8_code 196 = .ok (.istore 4, 2) := by decide +kernel
theorem d_138_198 : decode prog_12_method_8_code 198 = .ok (.aload_n 0, 1) := by decide +kernel
theorem d_138_199 : decode prog_12_method_8_code 199 = .ok (.aload_n 0, 1) := by decide +kernel
theorem d_138_200 : decode prog_12_method_8_code 200 = .ok (.getfield 105, 3) := by decide +kernel
theorem d_138_203 : decode prog_12_method_8_code 203 = .ok (.ifCond .ne 15, 3) := by decide +kernel
theorem d_138_206 : decode prog_12_method_8_code 206 = .ok (.iload 5, 2) := by decide +kernel
theorem d_138_208 : decode prog_12_method_8_code 208 = .ok (.iconst 3, 1) := by decide +kernel
theorem d_138_209 : decode prog_12_method_8_code 209 = .ok (.if_icmp .ne 13, 3) := by decide +kernel
theorem d_138_212 : decode prog_12_method_8_code 212 = .ok (.iload_n 3, 1) := by decide +kernel
theorem d_138_213 : decode prog_12_method_8_code 213 = .ok (.bipush 9, 2) := by decide +kernel
theorem d_138_215 : decode prog_12_method_8_code 215 = .ok (.if_icmp .le 7, 3) := by decide +kernel
theorem d_138_218 : decode prog_12_method_8_code 218 = .ok (.iconst 1, 1) := by decide +kernel
theorem d_138_219 : decode prog_12_method_8_code 219 = .ok (.goto 4, 3) := by decide +kernel
theorem d_138_222 : decode prog_12_method_8_code 222 = .ok (.iconst 0, 1) := by decide +kernel
theorem d_138_223 : decode prog_12_method_8_code 223 = .ok (.putfield 105, 3) := by decide +kernel
theorem d_138_226 : decode prog_12_method_8_code 226 = .ok (.goto 40, 3) := by decide +kernel
theorem d_138_229 : decode prog_12_method_8_code 229 = .ok (.iload_n 2, 1) := by decide +kernel
theorem d_138_230 : decode prog_12_method_8_code 230 = .ok (.bipush 65, 2) := by decide +kernel
theorem d_138_232 : decode prog_12_method_8_code 232 = .ok (.if_icmp .lt 21, 3) := by decide +kernel
theorem d_138_235 : decode prog_12_method_8_code 235 = .ok (.iload_n 2, 1) := by decide +kernel
theorem d_138_236 : decode prog_12_method_8_code 236 = .ok (.bipush 67, 2) := by decide +kernel
theorem d_138_238 : decode prog_12_method_8_code 238 = .ok (.if_icmp .gt 15, 3) := by decide +kernel
theorem d_138_241 : decode prog_12_method_8_code 241 = .ok (.iconst 2, 1) := by decide +kernel
theorem d_138_242 : decode prog_12_method_8_code 242 = .ok (.istore 5, 2) := by decide +kernel
theorem d_138_244 : decode prog_12_method_8_code 244 = .ok (.iload_n 2, 1) := by decide +kernel
theorem d_138_245 : decode prog_12_method_8_code 245 = .ok (.bipush 65, 2) := by decide +kernel
theorem d_138_247 : decode prog_12_method_8_code 247 = .ok (.isub, 1) := by decide +kernel
theorem d_138_248 : decode prog_12_method_8_code 248 = .ok (.istore 4, 2) := by decide +kernel
theorem d_138_250 : decode prog_12_method_8_code 250 = .ok (.goto 16, 3) := by decide +kernel
theorem d_138_253 : decode prog_12_method_8_code 253 = .ok (.iload_n 2, 1) := by decide +kernel
theorem d_138_254 : decode prog_12_method_8_code 254 = .ok (.invokestatic 109, 3) := by decide +kernel
theorem d_138_257 : decode prog_12_method_8_code 257 = .ok (.ifCond .eq 9, 3) := by decide +kernel
theorem d_138_260 : decode prog_12_method_8_code 260 = .ok (.iconst 4, 1) := by decide +kernel
theorem d_138_261 : decode prog_12_method_8_code 261 = .ok (.istore 5, 2) := by decide +kernel
theorem d_138_263 : decode prog_12_method_8_code 263 = .ok (.iload_n 2, 1) := by decide +kernel
theorem d_138_264 : decode prog_12_method_8_code 264 = .ok (.istore 4, 2) := by decide +kernel
theorem d_138_266 : decode prog_12_method_8_code 266 = .ok (.aload_n 0, 1) := by decide +kernel
theorem d_138_267 : decode prog_12_method_8_code 267 = .ok (.aload_n 0, 1) := by decide +kernel
theorem d_138_268 : decode prog_12_method_8_code 268 = .ok (.getfield 105, 3) := by decide +kernel
theorem d_138_271 : decode prog_12_method_8_code 271 = .ok (.ifCond .ne 14, 3) := by decide +kernel
theorem d_138_274 : decode prog_12_method_8_code 274 = .ok (.iload 5, 2) := by decide +kernel
theorem d_138_276 : decode prog_12_method_8_code 276 = .ok (.ifCond .ne 13, 3) := by decide +kernel
theorem d_138_279 : decode prog_12_method_8_code 279 = .ok (.iload_n 2, 1) := by decide +kernel
theorem d_138_280 : decode prog_12_method_8_code 280 = .ok (.bipush 32, 2) := by decide +kernel
theorem d_138_282 : decode prog_12_method_8_code 282 = .ok (.if_icmp .eq 7, 3) := by decide +kernel
theorem d_138_285 : decode prog_12_method_8_code 285 = .ok (.iconst 1, 1) := by decide +kernel
theorem d_138_286 : decode prog_12_method_8_code 286 = .ok (.goto 4, 3) := by decide +kernel
theorem d_138_289 : decode prog_12_method_8_code 289 = .ok (.iconst 0, 1) := by decide +kernel
theorem d_138_290 : decode prog_12_method_8_code 290 = .ok (.putfield 105, 3) := by decide +kernel
theorem d_138_293 : decode prog_12_method_8_code 293 = .ok (.iload 5, 2) := by decide +kernel
theorem d_138_295 : decode prog_12_method_8_code 295 = .ok (.ifCond .le 35, 3) := by decide +kernel
theorem d_138_298 : decode prog_12_method_8_code 298 = .ok (.aload_n 0, 1) := by decide +kernel
theorem d_138_299 : decode prog_12_method_8_code 299 = .ok (.getfield 13, 3) := by decide +kernel
theorem d_138_302 : decode prog_12_method_8_code 302 = .ok (.aload_n 0, 1) := by decide +kernel
theorem d_138_303 : decode prog_12_method_8_code 303 = .ok (.getfield 95, 3) := by decide +kernel
theorem d_138_306 : decode prog_12_method_8_code 306 = .ok (.iload 5, 2) := by decide +kernel
theorem d_138_308 : decode prog_12_method_8_code 308 = .ok (.iastore, 1) := by decide +kernel
theorem d_138_309 : decode prog_12_method_8_code 309 = .ok (.aload_n 0, 1) := by decide +kernel
theorem d_138_310 : decode prog_12_method_8_code 310 = .ok (.getfield 17, 3) := by decide +kernel
theorem d_138_313 : decode prog_12_method_8_code 313 = .ok (.aload_n 0, 1) := by decide +kernel
theorem d_138_314 : decode prog_12_method_8_code 314 = .ok (.getfield 95, 3) := by decide +kernel
theorem d_138_317 : decode prog_12_method_8_code 317 = .ok (.iload 4, 2) := by decide +kernel
theorem d_138_319 : decode prog_12_method_8_code 319 = .ok (.iastore, 1) := by decide +kernel
theorem d_138_320 : decode prog_12_method_8_code 320 = .ok (.aload_n 0, 1) := by decide +kernel
theorem d_138_321 : decode prog_12_method_8_code 321 = .ok (.dup, 1) := by decide +kernel
theorem d_138_322 : decode prog_12_method_8_code 322 = .ok (.getfield 95, 3) := by decide +kernel
theorem d_138_325 : decode prog_12_method_8_code 325 = .ok (.iconst 1, 1) := by decide +kernel
theorem d_138_326 : decode prog_12_method_8_code 326 = .ok (.iadd, 1) := by decide +kernel
theorem d_138_327 : decode prog_12_method_8_code 327 = .ok (.putfield 95, 3) := by decide +kernel
theorem d_138_330 : decode prog_12_method_8_code 330 = .ok (.iload_n 1, 1) := by decide +kernel
theorem d_138_331 : decode prog_12_method_8_code 331 = .ok (.iload_n 3, 1) := by decide +kernel
theorem d_138_332 : decode prog_12_method_8_code 332 = .ok (.iadd, 1) := by decide +kernel
theorem d_138_333 : decode prog_12_method_8_code 333 = .ok (.istore_n 1, 1) := by decide +kernel
theorem d_138_334 : decode prog_12_method_8_code 334 = .ok (.goto (-327), 3) := by decide +kernel
theorem d_138_337 : decode prog_12_method_8_code 337 = .ok (.aload_n 0, 1) := by decide +kernel
theorem d_138_338 : decode prog_12_method_8_code 338 = .ok (.getfield 13, 3) := by decide +kernel
theorem d_138_341 : decode prog_12_method_8_code 341 = .ok (.aload_n 0, 1) := by decide +kernel
theorem d_138_342 : decode prog_12_method_8_code 342 = .ok (.getfield 95, 3) := by decide +kernel
theorem d_138_345 : decode prog_12_method_8_code 345 = .ok (.iconst 0, 1) := by decide +kernel
theorem d_138_346 : decode prog_12_method_8_code 346 = .ok (.iastore, 1) := by decide +kernel
theorem d_138_347 : decode prog_12_method_8_code 347 = .ok (.return_, 1) := by decide +kernel
set_option maxRecDepth 20000 in
theorem ok_138 : ∀ r ∈ tb_138, sm_ok 138 r := List.forall_mem_cons.mpr ⟨d_138_0, List.forall_mem_cons.mpr ⟨d_138_1, List.forall_mem_cons.mpr ⟨⟨d_138_2, pf_235⟩, List.forall_mem_cons.mpr ⟨d_138_5, List.forall_mem_cons.mpr ⟨d_138_6, List.forall_mem_cons.mpr ⟨d_138_7, List.forall_mem_cons.mpr ⟨d_138_8, List.forall_mem_cons.mpr ⟨⟨d_138_9, Or.inl pf_232⟩, List.forall_mem_cons.mpr ⟨⟨d_138_12, (by decide)⟩, List.forall_mem_cons.mpr ⟨d_138_15, List.forall_mem_cons.mpr ⟨⟨d_138_16, Or.inl pf_233⟩, List.forall_mem_cons.mpr ⟨d_138_19, List.forall_mem_cons.mpr ⟨d_138_20, List.forall_mem_cons.mpr ⟨d_138_21, List.forall_mem_cons.mpr ⟨d_138_22, List.forall_mem_cons.mpr ⟨d_138_23, List.forall_mem_cons.mpr ⟨d_138_24, List.forall_mem_cons.mpr ⟨d_138_25, List.forall_mem_cons.mpr ⟨d_138_27, List.forall_mem_cons.mpr ⟨d_138_28, List.forall_mem_cons.mpr ⟨d_138_30, List.forall_mem_cons.mpr ⟨⟨d_138_31, (Or.inl ⟨Nat.le_of_ble_eq_true rfl, mo_135, ms_135, pm_162⟩)⟩, List.forall_mem_cons.mpr ⟨⟨d_138_34, (by decide)⟩, List.forall_mem_cons.mpr ⟨d_138_37, List.forall_mem_cons.mpr ⟨⟨d_138_38, (Or.inl ⟨Nat.le_of_ble_eq_true rfl, mo_136, ms_136, pm_163⟩)⟩, List.forall_mem_cons.mpr ⟨⟨d_138_41, (by decide)⟩, List.forall_mem_cons.mpr ⟨d_138_44, List.forall_mem_cons.mpr ⟨⟨d_138_45, (Or.inl ⟨Nat.le_of_ble_eq_true rfl, mo_135, ms_135, pm_162⟩)⟩, List.forall_mem_cons.mpr ⟨⟨d_138_48, (by decide)⟩, List.forall_mem_cons.mpr ⟨d_138_51, List.forall_mem_cons.mpr ⟨⟨d_138_52, (by decide)⟩, List.forall_mem_cons.mpr ⟨d_138_55, List.forall_mem_cons.mpr ⟨d_138_56, List.forall_mem_cons.mpr ⟨d_138_58, List.forall_mem_cons.mpr ⟨d_138_59, List.forall_mem_cons.mpr ⟨d_138_60, List.forall_mem_cons.mpr ⟨d_138_61, List.forall_mem_cons.mpr ⟨d_138_62, List.forall_mem_cons.mpr ⟨d_138_63, List.forall_mem_cons.mpr ⟨⟨d_138_64, Or.inl pf_232⟩, List.forall_mem_cons.mpr ⟨⟨d_138_67, (by decide)⟩, List.forall_mem_cons.mpr ⟨d_138_70, List.forall_mem_cons.mpr ⟨d_138_72, List.forall_mem_cons.mpr ⟨⟨d_138_73, (by decide)⟩, List.forall_mem_cons.mpr ⟨d_138_76, List.forall_mem_cons.mpr ⟨⟨d_138_77, Or.inl pf_233⟩, List.forall_mem_cons.mpr ⟨d_138_80, List.forall_mem_cons.mpr ⟨d_138_81, List.forall_mem_cons.mpr ⟨d_138_82, List.forall_mem_cons.mpr ⟨d_138_83, List.forall_mem_cons.mpr ⟨⟨d_138_84, (Or.inl ⟨Nat.le_of_ble_eq_true rfl, mo_135, ms_135, pm_162⟩)⟩, List.forall_mem_cons.mpr ⟨⟨d_138_87, (by decide)⟩, List.forall_mem_cons.mpr ⟨⟨d_138_90, (by decide)⟩, List.forall_mem_cons.mpr ⟨d_138_93, List.forall_mem_cons.mpr ⟨⟨d_138_94, Or.inl pf_233⟩, List.forall_mem_cons.mpr ⟨d_138_97, List.forall_mem_cons.mpr ⟨d_138_98, List.forall_mem_cons.mpr ⟨d_138_99, List.forall_mem_cons.mpr ⟨d_138_100, List.forall_mem_cons.mpr ⟨⟨d_138_101, (Or.inl ⟨Nat.le_of_ble_eq_true rfl, mo_136, ms_136, pm_163⟩)⟩, List.forall_mem_cons.mpr ⟨⟨d_138_104, (by decide)⟩, List.forall_mem_cons.mpr ⟨d_138_107, List.forall_mem_cons.mpr ⟨d_138_109, List.forall_mem_cons.mpr ⟨⟨d_138_110, (by decide)⟩, List.forall_mem_cons.mpr ⟨d_138_113, List.forall_mem_cons.mpr ⟨d_138_114, List.forall_mem_cons.mpr ⟨⟨d_138_116, (by decide)⟩, List.forall_mem_cons.mpr ⟨d_138_119, List.forall_mem_cons.mpr ⟨d_138_121, List.forall_mem_cons.mpr ⟨d_138_123, List.forall_mem_cons.mpr ⟨d_138_124, List.forall_mem_cons.mpr ⟨⟨d_138_125, Or.inl pf_233⟩, List.forall_mem_cons.mpr ⟨d_138_128, List.forall_mem_cons.mpr ⟨d_138_129, List.forall_mem_cons.mpr ⟨d_138_130, List.forall_mem_cons.mpr ⟨d_138_131, List.forall_mem_cons.mpr ⟨d_138_132, List.forall_mem_cons.mpr ⟨d_138_133, List.forall_mem_cons.mpr ⟨d_138_135, List.forall_mem_cons.mpr ⟨⟨d_138_136, (by decide)⟩, List.forall_mem_cons.mpr ⟨d_138_139, List.forall_mem_cons.mpr ⟨⟨d_138_140, (by decide)⟩, List.forall_mem_cons.mpr ⟨d_138_143, List.forall_mem_cons.mpr ⟨d_138_144, List.forall_mem_cons.mpr ⟨⟨d_138_146, (by decide)⟩, List.forall_mem_cons.mpr ⟨d_138_149, List.forall_mem_cons.mpr ⟨d_138_151, List.forall_mem_cons.mpr ⟨d_138_153, List.forall_mem_cons.mpr ⟨d_138_154, List.forall_mem_cons.mpr ⟨⟨d_138_155, Or.inl pf_233⟩, List.forall_mem_cons.mpr ⟨d_138_158, List.forall_mem_cons.mpr ⟨d_138_159, List.forall_mem_cons.mpr ⟨d_138_160, List.forall_mem_cons.mpr ⟨d_138_161, List.forall_mem_cons.mpr ⟨d_138_162, List.forall_mem_cons.mpr ⟨d_138_163, List.forall_mem_cons.mpr ⟨d_138_165, List.forall_mem_cons.mpr ⟨⟨d_138_166, (by decide)⟩, List.forall_mem_cons.mpr ⟨d_138_169, List.forall_mem_cons.mpr ⟨d_138_170, List.forall_mem_cons.mpr ⟨d_138_172, List.forall_mem_cons.mpr ⟨⟨d_138_175, (by decide)⟩, List.forall_mem_cons.mpr ⟨d_138_178, List.forall_mem_cons.mpr ⟨d_138_180, List.forall_mem_cons.mpr ⟨⟨d_138_181, (by decide)⟩, List.forall_mem_cons.mpr ⟨d_138_184, List.forall_mem_cons.mpr ⟨d_138_185, List.forall_mem_cons.mpr ⟨⟨d_138_187, (by decide)⟩, List.forall_mem_cons.mpr ⟨d_138_190, List.forall_mem_cons.mpr ⟨⟨d_138_191, (by decide)⟩, List.forall_mem_cons.mpr ⟨d_138_194, List.forall_mem_cons.mpr ⟨d_138_196, List.forall_mem_cons.mpr ⟨d_138_198, List.forall_mem_cons.mpr ⟨d_138_199, List.forall_mem_cons.mpr ⟨⟨d_138_200, Or.inl pf_236⟩, List.forall_mem_cons.mpr ⟨⟨d_138_203, (by decide)⟩, List.forall_mem_cons.mpr ⟨d_138_206, List.forall_mem_cons.mpr ⟨d_138_208, List.forall_mem_cons.mpr ⟨⟨d_138_209, (by decide)⟩, List.forall_mem_cons.mpr ⟨d_138_212, List.forall_mem_cons.mpr ⟨d_138_213, List.forall_mem_cons.mpr ⟨⟨d_138_215, (by decide)⟩, List.forall_mem_cons.mpr ⟨d_138_218, List.forall_mem_cons.mpr ⟨⟨d_138_219, (by decide)⟩, List.forall_mem_cons.mpr ⟨d_138_222, List.forall_mem_cons.mpr ⟨⟨d_138_223, pf_237⟩, List.forall_mem_cons.mpr ⟨⟨d_138_226, (by decide)⟩, List.forall_mem_cons.mpr ⟨d_138_229, List.forall_mem_cons.mpr ⟨d_138_230, List.forall_mem_cons.mpr ⟨⟨d_138_232, (by decide)⟩, List.forall_mem_cons.mpr ⟨d_138_235, List.forall_mem_cons.mpr ⟨d_138_236, List.forall_mem_cons.mpr ⟨⟨d_138_238, (by decide)⟩, List.forall_mem_cons.mpr ⟨d_138_241, List.forall_mem_cons.mpr ⟨d_138_242, List.forall_mem_cons.mpr ⟨d_138_244, List.forall_mem_cons.mpr ⟨d_138_245, List.forall_mem_cons.mpr ⟨d_138_247, List.forall_mem_cons.mpr ⟨d_138_248, List.forall_mem_cons.mpr ⟨⟨d_138_250, (by decide)⟩, List.forall_mem_cons.mpr ⟨d_138_253, List.forall_mem_cons.mpr ⟨⟨d_138_254, (Or.inl ⟨Nat.le_of_ble_eq_true rfl, mo_137, ms_137, pm_164⟩)⟩, List.forall_mem_cons.mpr ⟨⟨d_138_257, (by decide)⟩, List.forall_mem_cons.mpr ⟨d_138_260, List.forall_mem_cons.mpr ⟨d_138_261, List.forall_mem_cons.mpr ⟨d_138_263, List.forall_mem_cons.mpr ⟨d_138_264, List.forall_mem_cons.mpr ⟨d_138_266, List.forall_mem_cons.mpr ⟨d_138_267, List.forall_mem_cons.mpr ⟨⟨d_138_268, Or.inl pf_236⟩, List.forall_mem_cons.mpr ⟨⟨d_138_271, (by decide)⟩, List.forall_mem_cons.mpr ⟨d_138_274, List.forall_mem_cons.mpr ⟨⟨d_138_276, (by decide)⟩, List.forall_mem_cons.mpr ⟨d_138_279, List.forall_mem_cons.mpr ⟨d_138_280, List.forall_mem_cons.mpr ⟨⟨d_138_282, (by decide)⟩, List.forall_mem_cons.mpr ⟨d_138_285, List.forall_mem_cons.mpr ⟨⟨d_138_286, (by decide)⟩, List.forall_mem_cons.mpr ⟨d_138_289, List.forall_mem_cons.mpr ⟨⟨d_138_290, pf_237⟩, List.forall_mem_cons.mpr ⟨d_138_293, List.forall_mem_cons.mpr ⟨⟨d_138_295, (by decide)⟩, List.forall_mem_cons.mpr ⟨d_138_298, List.forall_mem_cons.mpr ⟨⟨d_138_299, Or.inl pf_238⟩, List.forall_mem_cons.mpr ⟨d_138_302, List.forall_mem_cons.mpr ⟨⟨d_138_303, Or.inl pf_239⟩, List.forall_mem_cons.mpr ⟨d_138_306, List.forall_mem_cons.mpr ⟨d_138_308, List.forall_mem_cons.mpr ⟨d_138_309, List.forall_mem_cons.mpr ⟨⟨d_138_310, Or.inl pf_240⟩, List.forall_mem_cons.mpr ⟨d_138_313, List.forall_mem_cons.mpr ⟨⟨d_138_314, Or.inl pf_239⟩, List.forall_mem_cons.mpr ⟨d_138_317, List.forall_mem_cons.mpr ⟨d_138_319, List.forall_mem_cons.mpr ⟨d_138_320, List.forall_mem_cons.mpr ⟨d_138_321, List.forall_mem_cons.mpr ⟨⟨d_138_322, Or.inl pf_239⟩, List.forall_mem_cons.mpr ⟨d_138_325, List.forall_mem_cons.mpr ⟨d_138_326, List.forall_mem_cons.mpr ⟨⟨d_138_327, pf_235⟩, List.forall_mem_cons.mpr ⟨d_138_330, List.forall_mem_cons.mpr ⟨d_138_331, List.forall_mem_cons.mpr ⟨d_138_332, List.forall_mem_cons.mpr ⟨d_138_333, List.forall_mem_cons.mpr ⟨⟨d_138_334, (by decide)⟩, List.forall_mem_cons.mpr ⟨d_138_337, List.forall_mem_cons.mpr ⟨⟨d_138_338, Or.inl pf_238⟩, List.forall_mem_cons.mpr ⟨d_138_341, List.forall_mem_cons.mpr ⟨⟨d_138_342, Or.inl pf_239⟩, List.forall_mem_cons.mpr ⟨d_138_345, List.forall_mem_cons.mpr ⟨d_138_346, List.forall_mem_cons.mpr ⟨d_138_347, fun _ h => absurd h List.not_mem_nil⟩⟩⟩⟩⟩⟩⟩⟩⟩⟩⟩⟩⟩⟩⟩⟩⟩⟩⟩⟩⟩⟩⟩⟩⟩⟩⟩⟩⟩⟩⟩⟩⟩⟩⟩⟩⟩⟩⟩⟩⟩⟩⟩⟩⟩⟩⟩⟩⟩⟩⟩⟩⟩⟩⟩⟩⟩⟩⟩⟩⟩⟩⟩⟩⟩⟩⟩⟩⟩⟩⟩⟩⟩⟩⟩⟩⟩⟩⟩⟩⟩⟩⟩⟩⟩⟩⟩⟩⟩⟩⟩⟩⟩⟩⟩⟩⟩⟩⟩⟩⟩⟩⟩⟩⟩⟩⟩⟩⟩⟩⟩⟩⟩⟩⟩⟩⟩⟩⟩⟩⟩⟩⟩⟩⟩⟩⟩⟩⟩⟩⟩⟩⟩⟩⟩⟩⟩⟩⟩⟩⟩⟩⟩⟩⟩⟩⟩⟩⟩⟩⟩⟩⟩⟩⟩⟩⟩⟩⟩⟩⟩⟩⟩⟩⟩⟩⟩⟩⟩⟩⟩⟩⟩⟩⟩⟩⟩⟩⟩⟩⟩⟩⟩⟩⟩⟩⟩⟩⟩⟩⟩⟩
