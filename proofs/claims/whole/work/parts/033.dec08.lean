/-! DECODE ROWS, by program -/
theorem d_182_0 : decode prog_12_method_52_code 0 = .ok (.iconst 0, 1) := by decide +kernel
theorem d_182_1 : decode prog_12_method_52_code 1 = .ok (.istore_n 2, 1) := by decide +kernel
theorem d_182_2 : decode prog_12_method_52_code 2 = .ok (.iconst 0, 1) := by decide +kernel
theorem d_182_3 : decode prog_12_method_52_code 3 = .ok (.istore_n 3, 1) := by decide +kernel
theorem d_182_4 : decode prog_12_method_52_code 4 = .ok (.iconst 0, 1) := by decide +kernel
theorem d_182_5 : decode prog_12_method_52_code 5 = .ok (.istore 4, 2) := by decide +kernel
theorem d_182_7 : decode prog_12_method_52_code 7 = .ok (.iload 4, 2) := by decide +kernel
theorem d_182_9 : decode prog_12_method_52_code 9 = .ok (.aload_n 0, 1) := by decide +kernel
theorem d_182_10 : decode prog_12_method_52_code 10 = .ok (.getfield 53, 3) := by decide +kernel
theorem d_182_13 : decode prog_12_method_52_code 13 = .ok (.iload_n 1, 1) := by decide +kernel
theorem d_182_14 : decode prog_12_method_52_code 14 = .ok (.iaload, 1) := by decide +kernel
theorem d_182_15 : decode prog_12_method_52_code 15 = .ok (.if_icmp .ge 95, 3) := by decide +kernel
theorem d_182_18 : decode prog_12_method_52_code 18 = .ok (.aload_n 0, 1) := by decide +kernel
theorem d_182_19 : decode prog_12_method_52_code 19 = .ok (.getfield 73, 3) := by decide +kernel
theorem d_182_22 : decode prog_12_method_52_code 22 = .ok (.iload 4, 2) := by decide +kernel
theorem d_182_24 : decode prog_12_method_52_code 24 = .ok (.baload, 1) := by decide +kernel
theorem d_182_25 : decode prog_12_method_52_code 25 = .ok (.ifCond .eq 9, 3) := by decide +kernel
theorem d_182_28 : decode prog_12_method_52_code 28 = .ok (.iload_n 2, 1) := by decide +kernel
theorem d_182_29 : decode prog_12_method_52_code 29 = .ok (.iconst 1, 1) := by decide +kernel
theorem d_182_30 : decode prog_12_method_52_code 30 = .ok (.iadd, 1) := by decide +kernel
theorem d_182_31 : decode prog_12_method_52_code 31 = .ok (.goto 4, 3) := by decide +kernel
theorem d_182_34 : decode prog_12_method_52_code 34 = .ok (.iload_n 2, 1) := by decide +kernel
theorem d_182_35 : decode prog_12_method_52_code 35 = .ok (.istore_n 2, 1) := by decide +kernel
theorem d_182_36 : decode prog_12_method_52_code 36 = .ok (.iload_n 3, 1) := by decide +kernel
theorem d_182_37 : decode prog_12_method_52_code 37 = .ok (.ifCond .ne 17, 3) := by decide +kernel
theorem d_182_40 : decode prog_12_method_52_code 40 = .ok (.aload_n 0, 1) := by decide +kernel
theorem d_182_41 : decode prog_12_method_52_code 41 = .ok (.getfield 70, 3) := by decide +kernel
theorem d_182_44 : decode prog_12_method_52_code 44 = .ok (.iload 4, 2) := by decide +kernel
theorem d_182_46 : decode prog_12_method_52_code 46 = .ok (.laload, 1) := by decide +kernel
theorem d_182_47 : decode prog_12_method_52_code 47 = .ok (.ldc2_w 305, 3) := by decide +kernel
theorem d_182_50 : decode prog_12_method_52_code 50 = .ok (.lcmp, 1) := by decide +kernel
theorem d_182_51 : decode prog_12_method_52_code 51 = .ok (.ifCond .ne 7, 3) := by decide +kernel
theorem d_182_54 : decode prog_12_method_52_code 54 = .ok (.iconst 1, 1) := by decide +kernel
theorem d_182_55 : decode prog_12_method_52_code 55 = .ok (.goto 4, 3) := by decide +kernel
theorem d_182_58 : decode prog_12_method_52_code 58 = .ok (.iconst 0, 1) := by decide +kernel
theorem d_182_59 : decode prog_12_method_52_code 59 = .ok (.istore_n 3, 1) := by decide +kernel
theorem d_182_60 : decode prog_12_method_52_code 60 = .ok (.iconst 0, 1) := by decide +kernel
theorem d_182_61 : decode prog_12_method_52_code 61 = .ok (.istore 5, 2) := by decide +kernel
theorem d_182_63 : decode prog_12_method_52_code 63 = .ok (.iload 5, 2) := by decide +kernel
theorem d_182_65 : decode prog_12_method_52_code 65 = .ok (.iload 4, 2) := by decide +kernel
theorem d_182_67 : decode prog_12_method_52_code 67 = .ok (.if_icmp .ge 37, 3) := by decide +kernel
theorem d_182_70 : decode prog_12_method_52_code 70 = .ok (.iload_n 3, 1) := by decide +kernel
theorem d_182_71 : decode prog_12_method_52_code 71 = .ok (.ifCond .ne 21, 3) := by decide +kernel
theorem d_182_74 : decode prog_12_method_52_code 74 = .ok (.aload_n 0, 1) := by decide +kernel
theorem d_182_75 : decode prog_12_method_52_code 75 = .ok (.getfield 70, 3) := by decide +kernel
theorem d_182_78 : decode prog_12_method_52_code 78 = .ok (.iload 5, 2) := by decide +kernel
theorem d_182_80 : decode prog_12_method_52_code 80 = .ok (.laload, 1) := by decide +kernel
theorem d_182_81 : decode prog_12_method_52_code 81 = .ok (.aload_n 0, 1) := by decide +kernel
theorem d_182_82 : decode prog_12_method_52_code 82 = .ok (.getfield 70, 3) := by decide +kernel
theorem d_182_85 : decode prog_12_method_52_code 85 = .ok (.iload 4, 2) := by decide +kernel
theorem d_182_87 : decode prog_12_method_52_code 87 = .ok (.laload, 1) := by decide +kernel
theorem d_182_88 : decode prog_12_method_52_code 88 = .ok (.lcmp, 1) := by decide +kernel
theorem d_182_89 : decode prog_12_method_52_code 89 = .ok (.ifCond .ne 7, 3) := by decide +kernel
theorem d_182_92 : decode prog_12_method_52_code 92 = .ok (.iconst 1, 1) := by decide +kernel
theorem d_182_93 : decode prog_12_method_52_code 93 = .ok (.goto 4, 3) := by decide +kernel
theorem d_182_96 : decode prog_12_method_52_code 96 = .ok (.iconst 0, 1) := by decide +kernel
theorem d_182_97 : decode prog_12_method_52_code 97 = .ok (.istore_n 3, 1) := by decide +kernel
theorem d_182_98 : decode prog_12_method_52_code 98 = .ok (.iinc 5 1, 3) := by decide +kernel
theorem d_182_101 : decode prog_12_method_52_code 101 = .ok (.goto (-38), 3) := by decide +kernel
theorem d_182_104 : decode prog_12_method_52_code 104 = .ok (.iinc 4 1, 3) := by decide +kernel
theorem d_182_107 : decode prog_12_method_52_code 107 = .ok (.goto (-100), 3) := by decide +kernel
theorem d_182_110 : decode prog_12_method_52_code 110 = .ok (.aload_n 0, 1) := by decide +kernel
theorem d_182_111 : decode prog_12_method_52_code 111 = .ok (.getfield 230, 3) := by decide +kernel
theorem d_182_114 : decode prog_12_method_52_code 114 = .ok (.ifCond .ne 9, 3) := by decide +kernel
theorem d_182_117 : decode prog_12_method_52_code 117 = .ok (.iload_n 3, 1) := by decide +kernel
theorem d_182_118 : decode prog_12_method_52_code 118 = .ok (.ifCond .eq 5, 3) := by decide +kernel
theorem d_182_121 : decode prog_12_method_52_code 121 = .ok (.iconst 4, 1) := by decide +kernel
theorem d_182_122 : decode prog_12_method_52_code 122 = .ok (.ireturn, 1) := by decide +kernel
theorem d_182_123 : decode prog_12_method_52_code 123 = .ok (.aload_n 0, 1) := by decide +kernel
theorem d_182_124 : decode prog_12_method_52_code 124 = .ok (.iload_n 1, 1) := by decide +kernel
theorem d_182_125 : decode prog_12_method_52_code 125 = .ok (.invokevirtual 299, 3) := by decide +kernel
theorem d_182_128 : decode prog_12_method_52_code 128 = .ok (.iconst 0, 1) := by decide +kernel
theorem d_182_129 : decode prog_12_method_52_code 129 = .ok (.istore 4, 2) := by decide +kernel
theorem d_182_131 : decode prog_12_method_52_code 131 = .ok (.iload 4, 2) := by decide +kernel
theorem d_182_133 : decode prog_12_method_52_code 133 = .ok (.aload_n 0, 1) := by decide +kernel
theorem d_182_134 : decode prog_12_method_52_code 134 = .ok (.getfield 53, 3) := by decide +kernel
theorem d_182_137 : decode prog_12_method_52_code 137 = .ok (.iload_n 1, 1) := by decide +kernel
theorem d_182_138 : decode prog_12_method_52_code 138 = .ok (.iaload, 1) := by decide +kernel
theorem d_182_139 : decode prog_12_method_52_code 139 = .ok (.if_icmp .ge 35, 3) := by decide +kernel
theorem d_182_142 : decode prog_12_method_52_code 142 = .ok (.aload_n 0, 1) := by decide +kernel
theorem d_182_143 : decode prog_12_method_52_code 143 = .ok (.getfield 56, 3) := by decide +kernel
theorem d_182_146 : decode prog_12_method_52_code 146 = .ok (.bipush 80, 2) := by decide +kernel
theorem d_182_148 : decode prog_12_method_52_code 148 = .ok (.iload_n 1, 1) := by decide +kernel
theorem d_182_149 : decode prog_12_method_52_code 149 = .ok (.imul, 1) := by decide +kernel
theorem d_182_150 : decode prog_12_method_52_code 150 = .ok (.iconst 4, 1) := by decide +kernel
theorem d_182_151 : decode prog_12_method_52_code 151 = .ok (.iload 4, 2) := by decide +kernel
theorem d_182_153 : decode prog_12_method_52_code 153 = .ok (.imul, 1) := by decide +kernel
theorem d_182_154 : decode prog_12_method_52_code 154 = .ok (.iadd, 1) := by decide +kernel
theorem d_182_155 : decode prog_12_method_52_code 155 = .ok (.aload_n 0, 1) := by decide +kernel
theorem d_182_156 : decode prog_12_method_52_code 156 = .ok (.getfield 230, 3) := by decide +kernel
theorem d_182_159 : decode prog_12_method_52_code 159 = .ok (.iadd, 1) := by decide +kernel
theorem d_182_160 : decode prog_12_method_52_code 160 = .ok (.aload_n 0, 1) := by decide +kernel
theorem d_182_161 : decode prog_12_method_52_code 161 = .ok (.getfield 70, 3) := by decide +kernel
theorem d_182_164 : decode prog_12_method_52_code 164 = .ok (.iload 4, 2) := by decide +kernel
theorem d_182_166 : decode prog_12_method_52_code 166 = .ok (.laload, 1) := by decide +kernel
theorem d_182_167 : decode prog_12_method_52_code 167 = .ok (.lastore, 1) := by decide +kernel
theorem d_182_168 : decode prog_12_method_52_code 168 = .ok (.iinc 4 1, 3) := by decide +kernel
theorem d_182_171 : decode prog_12_method_52_code 171 = .ok (.goto (-40), 3) := by decide +kernel
theorem d_182_174 : decode prog_12_method_52_code 174 = .ok (.aload_n 0, 1) := by decide +kernel
theorem d_182_175 : decode prog_12_method_52_code 175 = .ok (.iload_n 2, 1) := by decide +kernel
theorem d_182_176 : decode prog_12_method_52_code 176 = .ok (.putfield 236, 3) := by decide +kernel
theorem d_182_179 : decode prog_12_method_52_code 179 = .ok (.iconst 0, 1) := by decide +kernel
theorem d_182_180 : decode prog_12_method_52_code 180 = .ok (.ireturn, 1) := by decide +kernel
set_option maxRecDepth 20000 in
theorem ok_182 : ∀ r ∈ tb_182, sm_ok 182 r := List.forall_mem_cons.mpr ⟨d_182_0, List.forall_mem_cons.mpr ⟨d_182_1, List.forall_mem_cons.mpr ⟨d_182_2, List.forall_mem_cons.mpr ⟨d_182_3, List.forall_mem_cons.mpr ⟨d_182_4, List.forall_mem_cons.mpr ⟨d_182_5, List.forall_mem_cons.mpr ⟨d_182_7, List.forall_mem_cons.mpr ⟨d_182_9, List.forall_mem_cons.mpr ⟨⟨d_182_10, Or.inl pf_305⟩, List.forall_mem_cons.mpr ⟨d_182_13, List.forall_mem_cons.mpr ⟨d_182_14, List.forall_mem_cons.mpr ⟨⟨d_182_15, (by decide)⟩, List.forall_mem_cons.mpr ⟨d_182_18, List.forall_mem_cons.mpr ⟨⟨d_182_19, Or.inl pf_309⟩, List.forall_mem_cons.mpr ⟨d_182_22, List.forall_mem_cons.mpr ⟨d_182_24, List.forall_mem_cons.mpr ⟨⟨d_182_25, (by decide)⟩, List.forall_mem_cons.mpr ⟨d_182_28, List.forall_mem_cons.mpr ⟨d_182_29, List.forall_mem_cons.mpr ⟨d_182_30, List.forall_mem_cons.mpr ⟨⟨d_182_31, (by decide)⟩, List.forall_mem_cons.mpr ⟨d_182_34, List.forall_mem_cons.mpr ⟨d_182_35, List.forall_mem_cons.mpr ⟨d_182_36, List.forall_mem_cons.mpr ⟨⟨d_182_37, (by decide)⟩, List.forall_mem_cons.mpr ⟨d_182_40, List.forall_mem_cons.mpr ⟨⟨d_182_41, Or.inl pf_308⟩, List.forall_mem_cons.mpr ⟨d_182_44, List.forall_mem_cons.mpr ⟨d_182_46, List.forall_mem_cons.mpr ⟨⟨d_182_47, (fun _ h => Option.some.inj h ▸ wd_447)⟩, List.forall_mem_cons.mpr ⟨d_182_50, List.forall_mem_cons.mpr ⟨⟨d_182_51, (by decide)⟩, List.forall_mem_cons.mpr ⟨d_182_54, List.forall_mem_cons.mpr ⟨⟨d_182_55, (by decide)⟩, List.forall_mem_cons.mpr ⟨d_182_58, List.forall_mem_cons.mpr ⟨d_182_59, List.forall_mem_cons.mpr ⟨d_182_60, List.forall_mem_cons.mpr ⟨d_182_61, List.forall_mem_cons.mpr ⟨d_182_63, List.forall_mem_cons.mpr ⟨d_182_65, List.forall_mem_cons.mpr ⟨⟨d_182_67, (by decide)⟩, List.forall_mem_cons.mpr ⟨d_182_70, List.forall_mem_cons.mpr ⟨⟨d_182_71, (by decide)⟩, List.forall_mem_cons.mpr ⟨d_182_74, List.forall_mem_cons.mpr ⟨⟨d_182_75, Or.inl pf_308⟩, List.forall_mem_cons.mpr ⟨d_182_78, List.forall_mem_cons.mpr ⟨d_182_80, List.forall_mem_cons.mpr ⟨d_182_81, List.forall_mem_cons.mpr ⟨⟨d_182_82, Or.inl pf_308⟩, List.forall_mem_cons.mpr ⟨d_182_85, List.forall_mem_cons.mpr ⟨d_182_87, List.forall_mem_cons.mpr ⟨d_182_88, List.forall_mem_cons.mpr ⟨⟨d_182_89, (by decide)⟩, List.forall_mem_cons.mpr ⟨d_182_92, List.forall_mem_cons.mpr ⟨⟨d_182_93, (by decide)⟩, List.forall_mem_cons.mpr ⟨d_182_96, List.forall_mem_cons.mpr ⟨d_182_97, List.forall_mem_cons.mpr ⟨d_182_98, List.forall_mem_cons.mpr ⟨⟨d_182_101, (by decide)⟩, List.forall_mem_cons.mpr ⟨d_182_104, List.forall_mem_cons.mpr ⟨⟨d_182_107, (by decide)⟩, List.forall_mem_cons.mpr ⟨d_182_110, List.forall_mem_cons.mpr ⟨⟨d_182_111, Or.inl pf_296⟩, List.forall_mem_cons.mpr ⟨⟨d_182_114, (by decide)⟩, List.forall_mem_cons.mpr ⟨d_182_117, List.forall_mem_cons.mpr ⟨⟨d_182_118, (by decide)⟩, List.forall_mem_cons.mpr ⟨d_182_121, List.forall_mem_cons.mpr ⟨d_182_122, List.forall_mem_cons.mpr ⟨d_182_123, List.forall_mem_cons.mpr ⟨d_182_124, List.forall_mem_cons.mpr ⟨⟨d_182_125, ⟨mo_177, mi_177, se_177, pm_197⟩⟩, List.forall_mem_cons.mpr ⟨d_182_128, List.forall_mem_cons.mpr ⟨d_182_129, List.forall_mem_cons.mpr ⟨d_182_131, List.forall_mem_cons.mpr ⟨d_182_133, List.forall_mem_cons.mpr ⟨⟨d_182_134, Or.inl pf_305⟩, List.forall_mem_cons.mpr ⟨d_182_137, List.forall_mem_cons.mpr ⟨d_182_138, List.forall_mem_cons.mpr ⟨⟨d_182_139, (by decide)⟩, List.forall_mem_cons.mpr ⟨d_182_142, List.forall_mem_cons.mpr ⟨⟨d_182_143, Or.inl pf_300⟩, List.forall_mem_cons.mpr ⟨d_182_146, List.forall_mem_cons.mpr ⟨d_182_148, List.forall_mem_cons.mpr ⟨d_182_149, List.forall_mem_cons.mpr ⟨d_182_150, List.forall_mem_cons.mpr ⟨d_182_151, List.forall_mem_cons.mpr ⟨d_182_153, List.forall_mem_cons.mpr ⟨d_182_154, List.forall_mem_cons.mpr ⟨d_182_155, List.forall_mem_cons.mpr ⟨⟨d_182_156, Or.inl pf_296⟩, List.forall_mem_cons.mpr ⟨d_182_159, List.forall_mem_cons.mpr ⟨d_182_160, List.forall_mem_cons.mpr ⟨⟨d_182_161, Or.inl pf_308⟩, List.forall_mem_cons.mpr ⟨d_182_164, List.forall_mem_cons.mpr ⟨d_182_166, List.forall_mem_cons.mpr ⟨d_182_167, List.forall_mem_cons.mpr ⟨d_182_168, List.forall_mem_cons.mpr ⟨⟨d_182_171, (by decide)⟩, List.forall_mem_cons.mpr ⟨d_182_174, List.forall_mem_cons.mpr ⟨d_182_175, List.forall_mem_cons.mpr ⟨⟨d_182_176, pf_287⟩, List.forall_mem_cons.mpr ⟨d_182_179, List.forall_mem_cons.mpr ⟨d_182_180, fun _ h => absurd h List.not_mem_nil⟩⟩⟩⟩⟩⟩⟩⟩⟩⟩⟩⟩⟩⟩⟩⟩⟩⟩⟩⟩⟩⟩⟩⟩⟩⟩⟩⟩⟩⟩⟩⟩⟩⟩⟩⟩⟩⟩⟩⟩⟩⟩⟩⟩⟩⟩⟩⟩⟩⟩⟩⟩⟩⟩⟩⟩⟩⟩⟩⟩⟩⟩⟩⟩⟩⟩⟩⟩⟩⟩⟩⟩⟩⟩⟩⟩⟩⟩⟩⟩⟩⟩⟩⟩⟩⟩⟩⟩⟩⟩⟩⟩⟩⟩⟩⟩⟩⟩⟩⟩⟩⟩⟩
theorem d_183_0 : decode prog_12_method_53_code 0 = .ok (.iconst 0, 1) := by decide +kernel
theorem d_183_1 : decode prog_12_method_53_code 1 = .ok (.istore_n 2, 1) := by decide +kernel
theorem d_183_2 : decode prog_12_method_53_code 2 = .ok (.iconst 0, 1) := by decide +kernel
theorem d_183_3 : decode prog_12_method_53_code 3 = .ok (.istore_n 3, 1) := by decide +kernel
theorem d_183_4 : decode prog_12_method_53_code 4 = .ok (.iload_n 3, 1) := by decide +kernel
theorem d_183_5 : decode prog_12_method_53_code 5 = .ok (.aload_n 0, 1) := by decide +kernel
theorem d_183_6 : decode prog_12_method_53_code 6 = .ok (.getfield 53, 3) := by decide +kernel
theorem d_183_9 : decode prog_12_method_53_code 9 = .ok (.iload_n 1, 1) := by decide +kernel
theorem d_183_10 : decode prog_12_method_53_code 10 = .ok (.iaload, 1) := by decide +kernel
theorem d_183_11 : decode prog_12_method_53_code 11 = .ok (.if_icmp .ge 81, 3) := by decide +kernel
theorem d_183_14 : decode prog_12_method_53_code 14 = .ok (.aload_n 0, 1) := by decide +kernel
theorem d_183_15 : decode prog_12_method_53_code 15 = .ok (.getfield 73, 3) := by decide +kernel
theorem d_183_18 : decode prog_12_method_53_code 18 = .ok (.iload_n 3, 1) := by decide +kernel
theorem d_183_19 : decode prog_12_method_53_code 19 = .ok (.baload, 1) := by decide +kernel
theorem d_183_20 : decode prog_12_method_53_code 20 = .ok (.ifCond .eq 16, 3) := by decide +kernel
theorem d_183_23 : decode prog_12_method_53_code 23 = .ok (.aload_n 0, 1) := by decide +kernel
theorem d_183_24 : decode prog_12_method_53_code 24 = .ok (.dup, 1) := by decide +kernel
theorem d_183_25 : decode prog_12_method_53_code 25 = .ok (.getfield 236, 3) := by decide +kernel
theorem d_183_28 : decode prog_12_method_53_code 28 = .ok (.iconst 1, 1) := by decide +kernel
theorem d_183_29 : decode prog_12_method_53_code 29 = .ok (.iadd, 1) := by decide +kernel
theorem d_183_30 : decode prog_12_method_53_code 30 = .ok (.putfield 236, 3) := by decide +kernel
theorem d_183_33 : decode prog_12_method_53_code 33 = .ok (.goto 53, 3) := by decide +kernel
theorem d_183_36 : decode prog_12_method_53_code 36 = .ok (.iconst 0, 1) := by decide +kernel
theorem d_183_37 : decode prog_12_method_53_code 37 = .ok (.istore 4, 2) := by decide +kernel
theorem d_183_39 : decode prog_12_method_53_code 39 = .ok (.iload 4, 2) := by decide +kernel
theorem d_183_41 : decode prog_12_method_53_code 41 = .ok (.iconst 4, 1) := by decide +kernel
theorem d_183_42 : decode prog_12_method_53_code 42 = .ok (.if_icmp .ge 41, 3) := by decide +kernel
theorem d_183_45 : decode prog_12_method_53_code 45 = .ok (.aload_n 0, 1) := by decide +kernel
theorem d_183_46 : decode prog_12_method_53_code 46 = .ok (.getfield 56, 3) := by decide +kernel
theorem d_183_49 : decode prog_12_method_53_code 49 = .ok (.bipush 80, 2) := by decide +kernel
theorem d_183_51 : decode prog_12_method_53_code 51 = .ok (.iload_n 1, 1) := by decide +kernel
theorem d_183_52 : decode prog_12_method_53_code 52 = .ok (.imul, 1) := by decide +kernel
theorem d_183_53 : decode prog_12_method_53_code 53 = .ok (.iconst 4, 1) := by decide +kernel
theorem d_183_54 : decode prog_12_method_53_code 54 = .ok (.iload_n 2, 1) := by decide +kernel
theorem d_183_55 : decode prog_12_method_53_code 55 = .ok (.imul, 1) := by decide +kernel
theorem d_183_56 : decode prog_12_method_53_code 56 = .ok (.iadd, 1) := by decide +kernel
theorem d_183_57 : decode prog_12_method_53_code 57 = .ok (.iload 4, 2) := by decide +kernel
theorem d_183_59 : decode prog_12_method_53_code 59 = .ok (.iadd, 1) := by decide +kernel
theorem d_183_60 : decode prog_12_method_53_code 60 = .ok (.aload_n 0, 1) := by decide +kernel
theorem d_183_61 : decode prog_12_method_53_code 61 = .ok (.getfield 56, 3) := by decide +kernel
theorem d_183_64 : decode prog_12_method_53_code 64 = .ok (.bipush 80, 2) := by decide +kernel
theorem d_183_66 : decode prog_12_method_53_code 66 = .ok (.iload_n 1, 1) := by decide +kernel
theorem d_183_67 : decode prog_12_method_53_code 67 = .ok (.imul, 1) := by decide +kernel
theorem d_183_68 : decode prog_12_method_53_code 68 = .ok (.iconst 4, 1) := by decide +kernel
theorem d_183_69 : decode prog_12_method_53_code 69 = .ok (.iload_n 3, 1) := by decide +kernel
theorem d_183_70 : decode prog_12_method_53_code 70 = .ok (.imul, 1) := by decide +kernel
theorem d_183_71 : decode prog_12_method_53_code 71 = .ok (.iadd, 1) := by decide +kernel
theorem d_183_72 : decode prog_12_method_53_code 72 = .ok (.iload 4, 2) := by decide +kernel
theorem d_183_74 : decode prog_12_method_53_code 74 = .ok (.iadd, 1) := by decide +kernel
theorem d_183_75 : decode prog_12_method_53_code 75 = .ok (.laload, 1) := by decide +kernel
theorem d_183_76 : decode prog_12_method_53_code 76 = .ok (.lastore, 1) := by decide +kernel
theorem d_183_77 : decode prog_12_method_53_code 77 = .ok (.iinc 4 1, 3) := by decide +kernel
theorem d_183_80 : decode prog_12_method_53_code 80 = .ok (.goto (-41), 3) := by decide +kernel
theorem d_183_83 : decode prog_12_method_53_code 83 = .ok (.iinc 2 1, 3) := by decide +kernel
theorem d_183_86 : decode prog_12_method_53_code 86 = .ok (.iinc 3 1, 3) := by decide +kernel
theorem d_183_89 : decode prog_12_method_53_code 89 = .ok (.goto (-85), 3) := by decide +kernel
theorem d_183_92 : decode prog_12_method_53_code 92 = .ok (.aload_n 0, 1) := by decide +kernel
theorem d_183_93 : decode prog_12_method_53_code 93 = .ok (.getfield 53, 3) := by decide +kernel
theorem d_183_96 : decode prog_12_method_53_code 96 = .ok (.iload_n 1, 1) := by decide +kernel
theorem d_183_97 : decode prog_12_method_53_code 97 = .ok (.iload_n 2, 1) := by decide +kernel
theorem d_183_98 : decode prog_12_method_53_code 98 = .ok (.iastore, 1) := by decide +kernel
theorem d_183_99 : decode prog_12_method_53_code 99 = .ok (.return_, 1) := by decide +kernel
set_option maxRecDepth 20000 in
theorem ok_183 : ∀ r ∈ tb_183, sm_ok 183 r := List.forall_mem_cons.mpr ⟨d_183_0, List.forall_mem_cons.mpr ⟨d_183_1, List.forall_mem_cons.mpr ⟨d_183_2, List.forall_mem_cons.mpr ⟨d_183_3, List.forall_mem_cons.mpr ⟨d_183_4, List.forall_mem_cons.mpr ⟨d_183_5, List.forall_mem_cons.mpr ⟨⟨d_183_6, Or.inl pf_305⟩, List.forall_mem_cons.mpr ⟨d_183_9, List.forall_mem_cons.mpr ⟨d_183_10, List.forall_mem_cons.mpr ⟨⟨d_183_11, (by decide)⟩, List.forall_mem_cons.mpr ⟨d_183_14, List.forall_mem_cons.mpr ⟨⟨d_183_15, Or.inl pf_309⟩, List.forall_mem_cons.mpr ⟨d_183_18, List.forall_mem_cons.mpr ⟨d_183_19, List.forall_mem_cons.mpr ⟨⟨d_183_20, (by decide)⟩, List.forall_mem_cons.mpr ⟨d_183_23, List.forall_mem_cons.mpr ⟨d_183_24, List.forall_mem_cons.mpr ⟨⟨d_183_25, Or.inl pf_310⟩, List.forall_mem_cons.mpr ⟨d_183_28, List.forall_mem_cons.mpr ⟨d_183_29, List.forall_mem_cons.mpr ⟨⟨d_183_30, pf_287⟩, List.forall_mem_cons.mpr ⟨⟨d_183_33, (by decide)⟩, List.forall_mem_cons.mpr ⟨d_183_36, List.forall_mem_cons.mpr ⟨d_183_37, List.forall_mem_cons.mpr ⟨d_183_39, List.forall_mem_cons.mpr ⟨d_183_41, List.forall_mem_cons.mpr ⟨⟨d_183_42, (by decide)⟩, List.forall_mem_cons.mpr ⟨d_183_45, List.forall_mem_cons.mpr ⟨⟨d_183_46, Or.inl pf_300⟩, List.forall_mem_cons.mpr ⟨d_183_49, List.forall_mem_cons.mpr ⟨d_183_51, List.forall_mem_cons.mpr ⟨d_183_52, List.forall_mem_cons.mpr ⟨d_183_53, List.forall_mem_cons.mpr ⟨d_183_54, List.forall_mem_cons.mpr ⟨d_183_55, List.forall_mem_cons.mpr ⟨d_183_56, List.forall_mem_cons.mpr ⟨d_183_57, List.forall_mem_cons.mpr ⟨d_183_59, List.forall_mem_cons.mpr ⟨d_183_60, List.forall_mem_cons.mpr ⟨⟨d_183_61, Or.inl pf_300⟩, List.forall_mem_cons.mpr ⟨d_183_64, List.forall_mem_cons.mpr ⟨d_183_66, List.forall_mem_cons.mpr ⟨d_183_67, List.forall_mem_cons.mpr ⟨d_183_68, List.forall_mem_cons.mpr ⟨d_183_69, List.forall_mem_cons.mpr ⟨d_183_70, List.forall_mem_cons.mpr ⟨d_183_71, List.forall_mem_cons.mpr ⟨d_183_72, List.forall_mem_cons.mpr ⟨d_183_74, List.forall_mem_cons.mpr ⟨d_183_75, List.forall_mem_cons.mpr ⟨d_183_76, List.forall_mem_cons.mpr ⟨d_183_77, List.forall_mem_cons.mpr ⟨⟨d_183_80, (by decide)⟩, List.forall_mem_cons.mpr ⟨d_183_83, List.forall_mem_cons.mpr ⟨d_183_86, List.forall_mem_cons.mpr ⟨⟨d_183_89, (by decide)⟩, List.forall_mem_cons.mpr ⟨d_183_92, List.forall_mem_cons.mpr ⟨⟨d_183_93, Or.inl pf_305⟩, List.forall_mem_cons.mpr ⟨d_183_96, List.forall_mem_cons.mpr ⟨d_183_97, List.forall_mem_cons.mpr ⟨d_183_98, List.forall_mem_cons.mpr ⟨d_183_99, fun _ h => absurd h List.not_mem_nil⟩⟩⟩⟩⟩⟩⟩⟩⟩⟩⟩⟩⟩⟩⟩⟩⟩⟩⟩⟩⟩⟩⟩⟩⟩⟩⟩⟩⟩⟩⟩⟩⟩⟩⟩⟩⟩⟩⟩⟩⟩⟩⟩⟩⟩⟩⟩⟩⟩⟩⟩⟩⟩⟩⟩⟩⟩⟩⟩⟩⟩⟩
theorem d_184_0 : decode prog_12_method_54_code 0 = .ok (.aload_n 0, 1) := by decide +kernel
theorem d_184_1 : decode prog_12_method_54_code 1 = .ok (.getfield 32, 3) := by decide +kernel
theorem d_184_4 : decode prog_12_method_54_code 4 = .ok (.iconst 0, 1) := by decide +kernel
theorem d_184_5 : decode prog_12_method_54_code 5 = .ok (.iaload, 1) := by decide +kernel
theorem d_184_6 : decode prog_12_method_54_code 6 = .ok (.istore_n 1, 1) := by decide +kernel
theorem d_184_7 : decode prog_12_method_54_code 7 = .ok (.aload_n 0, 1) := by decide +kernel
theorem d_184_8 : decode prog_12_method_54_code 8 = .ok (.getfield 218, 3) := by decide +kernel
theorem d_184_11 : decode prog_12_method_54_code 11 = .ok (.iconst 2, 1) := by decide +kernel
theorem d_184_12 : decode prog_12_method_54_code 12 = .ok (.if_icmp .ne 12, 3) := by decide +kernel
theorem d_184_15 : decode prog_12_method_54_code 15 = .ok (.aload_n 0, 1) := by decide +kernel
theorem d_184_16 : decode prog_12_method_54_code 16 = .ok (.getfield 32, 3) := by decide +kernel
theorem d_184_19 : decode prog_12_method_54_code 19 = .ok (.iconst 1, 1) := by decide +kernel
theorem d_184_20 : decode prog_12_method_54_code 20 = .ok (.iaload, 1) := by decide +kernel
theorem d_184_21 : decode prog_12_method_54_code 21 = .ok (.goto 4, 3) := by decide +kernel
theorem d_184_24 : decode prog_12_method_54_code 24 = .ok (.iconst (-1), 1) := by decide +kernel
theorem d_184_25 : decode prog_12_method_54_code 25 = .ok (.istore_n 2, 1) := by decide +kernel
theorem d_184_26 : decode prog_12_method_54_code 26 = .ok (.aload_n 0, 1) := by decide +kernel
theorem d_184_27 : decode prog_12_method_54_code 27 = .ok (.iconst 0, 1) := by decide +kernel
theorem d_184_28 : decode prog_12_method_54_code 28 = .ok (.putfield 350, 3) := by decide +kernel
theorem d_184_31 : decode prog_12_method_54_code 31 = .ok (.iconst 0, 1) := by decide +kernel
theorem d_184_32 : decode prog_12_method_54_code 32 = .ok (.istore_n 3, 1) := by decide +kernel
theorem d_184_33 : decode prog_12_method_54_code 33 = .ok (.iload_n 3, 1) := by decide +kernel
theorem d_184_34 : decode prog_12_method_54_code 34 = .ok (.aload_n 0, 1) := by decide +kernel
theorem d_184_35 : decode prog_12_method_54_code 35 = .ok (.getfield 53, 3) := by decide +kernel
theorem d_184_38 : decode prog_12_method_54_code 38 = .ok (.iload_n 1, 1) := by decide +kernel
theorem d_184_39 : decode prog_12_method_54_code 39 = .ok (.iaload, 1) := by decide +kernel
theorem d_184_40 : decode prog_12_method_54_code 40 = .ok (.if_icmp .ge 151, 3) := by decide +kernel
theorem d_184_43 : decode prog_12_method_54_code 43 = .ok (.iload_n 2, 1) := by decide +kernel
theorem d_184_44 : decode prog_12_method_54_code 44 = .ok (.ifCond .ge 7, 3) := by decide +kernel
theorem d_184_47 : decode prog_12_method_54_code 47 = .ok (.iconst 1, 1) := by decide +kernel
theorem d_184_48 : decode prog_12_method_54_code 48 = .ok (.goto 9, 3) := by decide +kernel
theorem d_184_51 : decode prog_12_method_54_code 51 = .ok (.aload_n 0, 1) := by decide +kernel
theorem d_184_52 : decode prog_12_method_54_code 52 = .ok (.getfield 53, 3) := by decide +kernel
theorem d_184_55 : decode prog_12_method_54_code 55 = .ok (.iload_n 2, 1) := by decide +kernel
theorem d_184_56 : decode prog_12_method_54_code 56 = .ok (.iaload, 1) := by decide +kernel
theorem d_184_57 : decode prog_12_method_54_code 57 = .ok (.istore 4, 2) := by decide +kernel
theorem d_184_59 : decode prog_12_method_54_code 59 = .ok (.iconst 0, 1) := by decide +kernel
theorem d_184_60 : decode prog_12_method_54_code 60 = .ok (.istore 5, 2) := by decide +kernel
theorem d_184_62 : decode prog_12_method_54_code 62 = .ok (.iload 5, 2) := by decide +kernel
theorem d_184_64 : decode prog_12_method_54_code 64 = .ok (.iload 4, 2) := by decide +kernel
theorem d_184_66 : decode prog_12_method_54_code 66 = .ok (.if_icmp .ge 119, 3) := by decide +kernel
theorem d_184_69 : decode prog_12_method_54_code 69 = .ok (.aload_n 0, 1) := by decide +kernel
theorem d_184_70 : decode prog_12_method_54_code 70 = .ok (.getfield 64, 3) := by decide +kernel
theorem d_184_73 : decode prog_12_method_54_code 73 = .ok (.iload_n 1, 1) := by decide +kernel
theorem d_184_74 : decode prog_12_method_54_code 74 = .ok (.iload_n 3, 1) := by decide +kernel
theorem d_184_75 : decode prog_12_method_54_code 75 = .ok (.iastore, 1) := by decide +kernel
theorem d_184_76 : decode prog_12_method_54_code 76 = .ok (.iload_n 2, 1) := by decide +kernel
theorem d_184_77 : decode prog_12_method_54_code 77 = .ok (.ifCond .lt 11, 3) := by decide +kernel
theorem d_184_80 : decode prog_12_method_54_code 80 = .ok (.aload_n 0, 1) := by decide +kernel
theorem d_184_81 : decode prog_12_method_54_code 81 = .ok (.getfield 64, 3) := by decide +kernel
theorem d_184_84 : decode prog_12_method_54_code 84 = .ok (.iload_n 2, 1) := by decide +kernel
theorem d_184_85 : decode prog_12_method_54_code 85 = .ok (.iload 5, 2) := by decide +kernel
theorem d_184_87 : decode prog_12_method_54_code 87 = .ok (.iastore, 1) := by decide +kernel
theorem d_184_88 : decode prog_12_method_54_code 88 = .ok (.aload_n 0, 1) := by decide +kernel
theorem d_184_89 : decode prog_12_method_54_code 89 = .ok (.invokevirtual 347, 3) := by decide +kernel
theorem d_184_92 : decode prog_12_method_54_code 92 = .ok (.ifCond .eq 87, 3) := by decide +kernel
theorem d_184_95 : decode prog_12_method_54_code 95 = .ok (.aload_n 0, 1) := by decide +kernel
theorem d_184_96 : decode prog_12_method_54_code 96 = .ok (.getfield 350, 3) := by decide +kernel
theorem d_184_99 : decode prog_12_method_54_code 99 = .ok (.bipush 60, 2) := by decide +kernel
theorem d_184_101 : decode prog_12_method_54_code 101 = .ok (.if_icmp .ne 5, 3) := by decide +kernel
theorem d_184_104 : decode prog_12_method_54_code 104 = .ok (.iconst 5, 1) := by decide +kernel
theorem d_184_105 : decode prog_12_method_54_code 105 = .ok (.ireturn, 1) := by decide +kernel
theorem d_184_106 : decode prog_12_method_54_code 106 = .ok (.aload_n 0, 1) := by decide +kernel
theorem d_184_107 : decode prog_12_method_54_code 107 = .ok (.getfield 76, 3) := by decide +kernel
theorem d_184_110 : decode prog_12_method_54_code 110 = .ok (.aload_n 0, 1) := by decide +kernel
theorem d_184_111 : decode prog_12_method_54_code 111 = .ok (.getfield 350, 3) := by decide +kernel
theorem d_184_114 : decode prog_12_method_54_code 114 = .ok (.iload_n 3, 1) := by decide +kernel
theorem d_184_115 : decode prog_12_method_54_code 115 = .ok (.iastore, 1) := by decide +kernel
theorem d_184_116 : decode prog_12_method_54_code 116 = .ok (.aload_n 0, 1) := by decide +kernel
theorem d_184_117 : decode prog_12_method_54_code 117 = .ok (.getfield 79, 3) := by decide +kernel
theorem d_184_120 : decode prog_12_method_54_code 120 = .ok (.aload_n 0, 1) := by decide +kernel
theorem d_184_121 : decode prog_12_method_54_code 121 = .ok (.getfield 350, 3) := by decide +kernel
theorem d_184_124 : decode prog_12_method_54_code 124 = .ok (.iload 5, 2) := by decide +kernel
theorem d_184_126 : decode prog_12_method_54_code 126 = .ok (.iastore, 1) := by decide +kernel
theorem d_184_127 : decode prog_12_method_54_code 127 = .ok (.aload_n 0, 1) := by decide +kernel
theorem d_184_128 : decode prog_12_method_54_code 128 = .ok (.getfield 82, 3) := by decide +kernel
theorem d_184_131 : decode prog_12_method_54_code 131 = .ok (.aload_n 0, 1) := by decide +kernel
theorem d_184_132 : decode prog_12_method_54_code 132 = .ok (.getfield 350, 3) := by decide +kernel
theorem d_184_135 : decode prog_12_method_54_code 135 = .ok (.aload_n 0, 1) := by decide +kernel
theorem d_184_136 : decode prog_12_method_54_code 136 = .ok (.getfield 221, 3) := by decide +kernel
theorem d_184_139 : decode prog_12_method_54_code 139 = .ok (.ifCond .eq 18, 3) := by decide +kernel
theorem d_184_142 : decode prog_12_method_54_code 142 = .ok (.aload_n 0, 1) := by decide +kernel
theorem d_184_143 : decode prog_12_method_54_code 143 = .ok (.aload_n 0, 1) := by decide +kernel
theorem d_184_144 : decode prog_12_method_54_code 144 = .ok (.getfield 266, 3) := by decide +kernel
theorem d_184_147 : decode prog_12_method_54_code 147 = .ok (.aload_n 0, 1) := by decide +kernel
theorem d_184_148 : decode prog_12_method_54_code 148 = .ok (.getfield 269, 3) := by decide +kernel
theorem d_184_151 : decode prog_12_method_54_code 151 = .ok (.invokevirtual 311, 3) := by decide +kernel
theorem d_184_154 : decode prog_12_method_54_code 154 = .ok (.goto 4, 3) := by decide +kernel
theorem d_184_157 : decode prog_12_method_54_code 157 = .ok (.lconst 0, 1) := by decide +kernel
theorem d_184_158 : decode prog_12_method_54_code 158 = .ok (.lastore, 1) := by decide +kernel
theorem d_184_159 : decode prog_12_method_54_code 159 = .ok (.aload_n 0, 1) := by decide +kernel
theorem d_184_160 : decode prog_12_method_54_code 160 = .ok (.getfield 85, 3) := by decide +kernel
theorem d_184_163 : decode prog_12_method_54_code 163 = .ok (.aload_n 0, 1) := by decide +kernel
theorem d_184_164 : decode prog_12_method_54_code 164 = .ok (.getfield 350, 3) := by decide +kernel
theorem d_184_167 : decode prog_12_method_54_code 167 = .ok (.iconst 0, 1) := by decide +kernel
theorem d_184_168 : decode prog_12_method_54_code 168 = .ok (.bastore, 1) := by decide +kernel
theorem d_184_169 : decode prog_12_method_54_code 169 = .ok (.aload_n 0, 1) := by decide +kernel
theorem d_184_170 : decode prog_12_method_54_code 170 = .ok (.dup, 1) := by decide +kernel
theorem d_184_171 : decode prog_12_method_54_code 171 = .ok (.getfield 350, 3) := by decide +kernel
theorem d_184_174 : decode prog_12_method_54_code 174 = .ok (.iconst 1, 1) := by decide +kernel
theorem d_184_175 : decode prog_12_method_54_code 175 = .ok (.iadd, 1) := by decide +kernel
theorem d_184_176 : decode prog_12_method_54_code 176 = .ok (.putfield 350, 3) := by decide +kernel
theorem d_184_179 : decode prog_12_method_54_code 179 = .ok (.iinc 5 1, 3) := by decide +kernel
theorem d_184_182 : decode prog_12_method_54_code 182 = .ok (.goto (-120), 3) := by decide +kernel
theorem d_184_185 : decode prog_12_method_54_code 185 = .ok (.iinc 3 1, 3) := by decide +kernel
theorem d_184_188 : decode prog_12_method_54_code 188 = .ok (.goto (-155), 3) := by decide +kernel
theorem d_184_191 : decode prog_12_method_54_code 191 = .ok (.aload_n 0, 1) := by decide +kernel
theorem d_184_192 : decode prog_12_method_54_code 192 = .ok (.aload_n 0, 1) := by decide +kernel
theorem d_184_193 : decode prog_12_method_54_code 193 = .ok (.getfield 215, 3) := by decide +kernel
theorem d_184_196 : decode prog_12_method_54_code 196 = .ok (.putfield 239, 3) := by decide +kernel
theorem d_184_199 : decode prog_12_method_54_code 199 = .ok (.aload_n 0, 1) := by decide +kernel
theorem d_184_200 : decode prog_12_method_54_code 200 = .ok (.getfield 236, 3) := by decide +kernel
theorem d_184_203 : decode prog_12_method_54_code 203 = .ok (.aload_n 0, 1) := by decide +kernel
theorem d_184_204 : decode prog_12_method_54_code 204 = .ok (.getfield 350, 3) := by decide +kernel
theorem d_184_207 : decode prog_12_method_54_code 207 = .ok (.if_icmp .ge 119, 3) := by decide +kernel
theorem d_184_210 : decode prog_12_method_54_code 210 = .ok (.aload_n 0, 1) := by decide +kernel
theorem d_184_211 : decode prog_12_method_54_code 211 = .ok (.getfield 236, 3) := by decide +kernel
theorem d_184_214 : decode prog_12_method_54_code 214 = .ok (.aload_n 0, 1) := by decide +kernel
theorem d_184_215 : decode prog_12_method_54_code 215 = .ok (.getfield 227, 3) := by decide +kernel
theorem d_184_218 : decode prog_12_method_54_code 218 = .ok (.if_icmp .ge 108, 3) := by decide +kernel
theorem d_184_221 : decode prog_12_method_54_code 221 = .ok (.aload_n 0, 1) := by decide +kernel
theorem d_184_222 : decode prog_12_method_54_code 222 = .ok (.iload_n 1, 1) := by decide +kernel
theorem d_184_223 : decode prog_12_method_54_code 223 = .ok (.iload_n 2, 1) := by decide +kernel
theorem d_184_224 : decode prog_12_method_54_code 224 = .ok (.invokevirtual 353, 3) := by decide +kernel
theorem d_184_227 : decode prog_12_method_54_code 227 = .ok (.istore_n 3, 1) := by decide +kernel
theorem d_184_228 : decode prog_12_method_54_code 228 = .ok (.aload_n 0, 1) := by decide +kernel
theorem d_184_229 : decode prog_12_method_54_code 229 = .ok (.getfield 85, 3) := by decide +kernel
theorem d_184_232 : decode prog_12_method_54_code 232 = .ok (.iload_n 3, 1) := by decide +kernel
theorem d_184_233 : decode prog_12_method_54_code 233 = .ok (.iconst 1, 1) := by decide +kernel
theorem d_184_234 : decode prog_12_method_54_code 234 = .ok (.bastore, 1) := by decide +kernel
theorem d_184_235 : decode prog_12_method_54_code 235 = .ok (.aload_n 0, 1) := by decide +kernel
theorem d_184_236 : decode prog_12_method_54_code 236 = .ok (.getfield 64, 3) := by decide +kernel
theorem d_184_239 : decode prog_12_method_54_code 239 = .ok (.iload_n 1, 1) := by decide +kernel
theorem d_184_240 : decode prog_12_method_54_code 240 = .ok (.aload_n 0, 1) := by decide +kernel
theorem d_184_241 : decode prog_12_method_54_code 241 = .ok (.getfield 76, 3) := by decide +kernel
theorem d_184_244 : decode prog_12_method_54_code 244 = .ok (.iload_n 3, 1) := by decide +kernel
theorem d_184_245 : decode prog_12_method_54_code 245 = .ok (.iaload, 1) := by decide +kernel
theorem d_184_246 : decode prog_12_method_54_code 246 = .ok (.iastore, 1) := by decide +kernel
theorem d_184_247 : decode prog_12_method_54_code 247 = .ok (.iload_n 2, 1) := by decide +kernel
theorem d_184_248 : decode prog_12_method_54_code 248 = .ok (.ifCond .lt 15, 3) := by decide +kernel
theorem d_184_251 : decode prog_12_method_54_code 251 = .ok (.aload_n 0, 1) := by decide +kernel
theorem d_184_252 : decode prog_12_method_54_code 252 = .ok (.getfield 64, 3) := by decide +kernel
theorem d_184_255 : decode prog_12_method_54_code 255 = .ok (.iload_n 2, 1) := by decide +kernel
theorem d_184_256 : decode prog_12_method_54_code 256 = .ok (.aload_n 0, 1) := by decide +kernel
theorem d_184_257 : decode prog_12_method_54_code 257 = .ok (.getfield 79, 3) := by decide +kernel
theorem d_184_260 : decode prog_12_method_54_code 260 = .ok (.iload_n 3, 1) := by decide +kernel
theorem d_184_261 : decode prog_12_method_54_code 261 = .ok (.iaload, 1) := by decide +kernel
theorem d_184_262 : decode prog_12_method_54_code 262 = .ok (.iastore, 1) := by decide +kernel
theorem d_184_263 : decode prog_12_method_54_code 263 = .ok (.iconst 0, 1) := by decide +kernel
theorem d_184_264 : decode prog_12_method_54_code 264 = .ok (.istore 4, 2) := by decide +kernel
theorem d_184_266 : decode prog_12_method_54_code 266 = .ok (.iload 4, 2) := by decide +kernel
theorem d_184_268 : decode prog_12_method_54_code 268 = .ok (.aload_n 0, 1) := by decide +kernel
theorem d_184_269 : decode prog_12_method_54_code 269 = .ok (.getfield 215, 3) := by decide +kernel
theorem d_184_272 : decode prog_12_method_54_code 272 = .ok (.if_icmp .ge 41, 3) := by decide +kernel
theorem d_184_275 : decode prog_12_method_54_code 275 = .ok (.aload_n 0, 1) := by decide +kernel
theorem d_184_276 : decode prog_12_method_54_code 276 = .ok (.getfield 88, 3) := by decide +kernel
theorem d_184_279 : decode prog_12_method_54_code 279 = .ok (.iconst 3, 1) := by decide +kernel
theorem d_184_280 : decode prog_12_method_54_code 280 = .ok (.aload_n 0, 1) := by decide +kernel
theorem d_184_281 : decode prog_12_method_54_code 281 = .ok (.getfield 236, 3) := by decide +kernel
theorem d_184_284 : decode prog_12_method_54_code 284 = .ok (.imul, 1) := by decide +kernel
theorem d_184_285 : decode prog_12_method_54_code 285 = .ok (.iload 4, 2) := by decide +kernel
theorem d_184_287 : decode prog_12_method_54_code 287 = .ok (.iadd, 1) := by decide +kernel
theorem d_184_288 : decode prog_12_method_54_code 288 = .ok (.aload_n 0, 1) := by decide +kernel
theorem d_184_289 : decode prog_12_method_54_code 289 = .ok (.aload_n 0, 1) := by decide +kernel
theorem d_184_290 : decode prog_12_method_54_code 290 = .ok (.getfield 35, 3) := by decide +kernel
theorem d_184_293 : decode prog_12_method_54_code 293 = .ok (.iload 4, 2) := by decide +kernel
theorem d_184_295 : decode prog_12_method_54_code 295 = .ok (.iaload, 1) := by decide +kernel
theorem d_184_296 : decode prog_12_method_54_code 296 = .ok (.aload_n 0, 1) := by decide +kernel
theorem d_184_297 : decode prog_12_method_54_code 297 = .ok (.getfield 38, 3) := by decide +kernel
theorem d_184_300 : decode prog_12_method_54_code 300 = .ok (.iload 4, 2) := by decide +kernel
theorem d_184_302 : decode prog_12_method_54_code 302 = .ok (.iaload, 1) := by decide +kernel
theorem d_184_303 : decode prog_12_method_54_code 303 = .ok (.invokevirtual 311, 3) := by decide +kernel
theorem d_184_306 : decode prog_12_method_54_code 306 = .ok (.lastore, 1) := by decide +kernel
theorem d_184_307 : decode prog_12_method_54_code 307 = .ok (.iinc 4 1, 3) := by decide +kernel
theorem d_184_310 : decode prog_12_method_54_code 310 = .ok (.goto (-44), 3) := by decide +kernel
theorem d_184_313 : decode prog_12_method_54_code 313 = .ok (.aload_n 0, 1) := by decide +kernel
theorem d_184_314 : decode prog_12_method_54_code 314 = .ok (.dup, 1) := by decide +kernel
theorem d_184_315 : decode prog_12_method_54_code 315 = .ok (.getfield 236, 3) := by decide +kernel
theorem d_184_318 : decode prog_12_method_54_code 318 = .ok (.iconst 1, 1) := by decide +kernel
theorem d_184_319 : decode prog_12_method_54_code 319 = .ok (.iadd, 1) := by decide +kernel
theorem d_184_320 : decode prog_12_method_54_code 320 = .ok (.putfield 236, 3) := by decide +kernel
theorem d_184_323 : decode prog_12_method_54_code 323 = .ok (.goto (-124), 3) := by decide +kernel
theorem d_184_326 : decode prog_12_method_54_code 326 = .ok (.iload_n 2, 1) := by decide +kernel
theorem d_184_327 : decode prog_12_method_54_code 327 = .ok (.ifCond .ge 11, 3) := by decide +kernel
theorem d_184_330 : decode prog_12_method_54_code 330 = .ok (.aload_n 0, 1) := by decide +kernel
theorem d_184_331 : decode prog_12_method_54_code 331 = .ok (.iload_n 1, 1) := by decide +kernel
theorem d_184_332 : decode prog_12_method_54_code 332 = .ok (.invokevirtual 299, 3) := by decide +kernel
theorem d_184_335 : decode prog_12_method_54_code 335 = .ok (.goto 7, 3) := by decide +kernel
theorem d_184_338 : decode prog_12_method_54_code 338 = .ok (.aload_n 0, 1) := by decide +kernel
theorem d_184_339 : decode prog_12_method_54_code 339 = .ok (.invokevirtual 356, 3) := by decide +kernel
theorem d_184_342 : decode prog_12_method_54_code 342 = .ok (.iconst 0, 1) := by decide +kernel
theorem d_184_343 : decode prog_12_method_54_code 343 = .ok (.ireturn, 1) := by decide +kernel
set_option maxRecDepth 20000 in
theorem ok_184 : ∀ r ∈ tb_184, sm_ok 184 r := List.forall_mem_cons.mpr ⟨d_184_0, List.forall_mem_cons.mpr ⟨⟨d_184_1, Or.inl pf_279⟩, List.forall_mem_cons.mpr ⟨d_184_4, List.forall_mem_cons.mpr ⟨d_184_5, List.forall_mem_cons.mpr ⟨d_184_6, List.forall_mem_cons.mpr ⟨d_184_7, List.forall_mem_cons.mpr ⟨⟨d_184_8, Or.inl pf_280⟩, List.forall_mem_cons.mpr ⟨d_184_11, List.forall_mem_cons.mpr ⟨⟨d_184_12, (by decide)⟩, List.forall_mem_cons.mpr ⟨d_184_15, List.forall_mem_cons.mpr ⟨⟨d_184_16, Or.inl pf_279⟩, List.forall_mem_cons.mpr ⟨d_184_19, List.forall_mem_cons.mpr ⟨d_184_20, List.forall_mem_cons.mpr ⟨⟨d_184_21, (by decide)⟩, List.forall_mem_cons.mpr ⟨d_184_24, List.forall_mem_cons.mpr ⟨d_184_25, List.forall_mem_cons.mpr ⟨d_184_26, List.forall_mem_cons.mpr ⟨d_184_27, List.forall_mem_cons.mpr ⟨⟨d_184_28, pf_311⟩, List.forall_mem_cons.mpr ⟨d_184_31, List.forall_mem_cons.mpr ⟨d_184_32, List.forall_mem_cons.mpr ⟨d_184_33, List.forall_mem_cons.mpr ⟨d_184_34, List.forall_mem_cons.mpr ⟨⟨d_184_35, Or.inl pf_305⟩, List.forall_mem_cons.mpr ⟨d_184_38, List.forall_mem_cons.mpr ⟨d_184_39, List.forall_mem_cons.mpr ⟨⟨d_184_40, (by decide)⟩, List.forall_mem_cons.mpr ⟨d_184_43, List.forall_mem_cons.mpr ⟨⟨d_184_44, (by decide)⟩, List.forall_mem_cons.mpr ⟨d_184_47, List.forall_mem_cons.mpr ⟨⟨d_184_48, (by decide)⟩, List.forall_mem_cons.mpr ⟨d_184_51, List.forall_mem_cons.mpr ⟨⟨d_184_52, Or.inl pf_305⟩, List.forall_mem_cons.mpr ⟨d_184_55, List.forall_mem_cons.mpr ⟨d_184_56, List.forall_mem_cons.mpr ⟨d_184_57, List.forall_mem_cons.mpr ⟨d_184_59, List.forall_mem_cons.mpr ⟨d_184_60, List.forall_mem_cons.mpr ⟨d_184_62, List.forall_mem_cons.mpr ⟨d_184_64, List.forall_mem_cons.mpr ⟨⟨d_184_66, (by decide)⟩, List.forall_mem_cons.mpr ⟨d_184_69, List.forall_mem_cons.mpr ⟨⟨d_184_70, Or.inl pf_301⟩, List.forall_mem_cons.mpr ⟨d_184_73, List.forall_mem_cons.mpr ⟨d_184_74, List.forall_mem_cons.mpr ⟨d_184_75, List.forall_mem_cons.mpr ⟨d_184_76, List.forall_mem_cons.mpr ⟨⟨d_184_77, (by decide)⟩, List.forall_mem_cons.mpr ⟨d_184_80, List.forall_mem_cons.mpr ⟨⟨d_184_81, Or.inl pf_301⟩, List.forall_mem_cons.mpr ⟨d_184_84, List.forall_mem_cons.mpr ⟨d_184_85, List.forall_mem_cons.mpr ⟨d_184_87, List.forall_mem_cons.mpr ⟨d_184_88, List.forall_mem_cons.mpr ⟨⟨d_184_89, ⟨mo_169, mi_169, se_169, pm_209⟩⟩, List.forall_mem_cons.mpr ⟨⟨d_184_92, (by decide)⟩, List.forall_mem_cons.mpr ⟨d_184_95, List.forall_mem_cons.mpr ⟨⟨d_184_96, Or.inl pf_312⟩, List.forall_mem_cons.mpr ⟨d_184_99, List.forall_mem_cons.mpr ⟨⟨d_184_101, (by decide)⟩, List.forall_mem_cons.mpr ⟨d_184_104, List.forall_mem_cons.mpr ⟨d_184_105, List.forall_mem_cons.mpr ⟨d_184_106, List.forall_mem_cons.mpr ⟨⟨d_184_107, Or.inl pf_313⟩, List.forall_mem_cons.mpr ⟨d_184_110, List.forall_mem_cons.mpr ⟨⟨d_184_111, Or.inl pf_312⟩, List.forall_mem_cons.mpr ⟨d_184_114, List.forall_mem_cons.mpr ⟨d_184_115, List.forall_mem_cons.mpr ⟨d_184_116, List.forall_mem_cons.mpr ⟨⟨d_184_117, Or.inl pf_314⟩, List.forall_mem_cons.mpr ⟨d_184_120, List.forall_mem_cons.mpr ⟨⟨d_184_121, Or.inl pf_312⟩, List.forall_mem_cons.mpr ⟨d_184_124, List.forall_mem_cons.mpr ⟨d_184_126, List.forall_mem_cons.mpr ⟨d_184_127, List.forall_mem_cons.mpr ⟨⟨d_184_128, Or.inl pf_315⟩, List.forall_mem_cons.mpr ⟨d_184_131, List.forall_mem_cons.mpr ⟨⟨d_184_132, Or.inl pf_312⟩, List.forall_mem_cons.mpr ⟨d_184_135, List.forall_mem_cons.mpr ⟨⟨d_184_136, Or.inl pf_316⟩, List.forall_mem_cons.mpr ⟨⟨d_184_139, (by decide)⟩, List.forall_mem_cons.mpr ⟨d_184_142, List.forall_mem_cons.mpr ⟨d_184_143, List.forall_mem_cons.mpr ⟨⟨d_184_144, Or.inl pf_317⟩, List.forall_mem_cons.mpr ⟨d_184_147, List.forall_mem_cons.mpr ⟨⟨d_184_148, Or.inl pf_318⟩, List.forall_mem_cons.mpr ⟨⟨d_184_151, ⟨mo_167, mi_167, se_167, pm_200⟩⟩, List.forall_mem_cons.mpr ⟨⟨d_184_154, (by decide)⟩, List.forall_mem_cons.mpr ⟨d_184_157, List.forall_mem_cons.mpr ⟨d_184_158, List.forall_mem_cons.mpr ⟨d_184_159, List.forall_mem_cons.mpr ⟨⟨d_184_160, Or.inl pf_319⟩, List.forall_mem_cons.mpr ⟨d_184_163, List.forall_mem_cons.mpr ⟨⟨d_184_164, Or.inl pf_312⟩, List.forall_mem_cons.mpr ⟨d_184_167, List.forall_mem_cons.mpr ⟨d_184_168, List.forall_mem_cons.mpr ⟨d_184_169, List.forall_mem_cons.mpr ⟨d_184_170, List.forall_mem_cons.mpr ⟨⟨d_184_171, Or.inl pf_312⟩, List.forall_mem_cons.mpr ⟨d_184_174, List.forall_mem_cons.mpr ⟨d_184_175, List.forall_mem_cons.mpr ⟨⟨d_184_176, pf_311⟩, List.forall_mem_cons.mpr ⟨d_184_179, List.forall_mem_cons.mpr ⟨⟨d_184_182, (by decide)⟩, List.forall_mem_cons.mpr ⟨d_184_185, List.forall_mem_cons.mpr ⟨⟨d_184_188, (by decide)⟩, List.forall_mem_cons.mpr ⟨d_184_191, List.forall_mem_cons.mpr ⟨d_184_192, List.forall_mem_cons.mpr ⟨⟨d_184_193, Or.inl pf_275⟩, List.forall_mem_cons.mpr ⟨⟨d_184_196, pf_288⟩, List.forall_mem_cons.mpr ⟨d_184_199, List.forall_mem_cons.mpr ⟨⟨d_184_200, Or.inl pf_310⟩, List.forall_mem_cons.mpr ⟨d_184_203, List.forall_mem_cons.mpr ⟨⟨d_184_204, Or.inl pf_312⟩, List.forall_mem_cons.mpr ⟨⟨d_184_207, (by decide)⟩, List.forall_mem_cons.mpr ⟨d_184_210, List.forall_mem_cons.mpr ⟨⟨d_184_211, Or.inl pf_310⟩, List.forall_mem_cons.mpr ⟨d_184_214, List.forall_mem_cons.mpr ⟨⟨d_184_215, Or.inl pf_320⟩, List.forall_mem_cons.mpr ⟨⟨d_184_218, (by decide)⟩, List.forall_mem_cons.mpr ⟨d_184_221, List.forall_mem_cons.mpr ⟨d_184_222, List.forall_mem_cons.mpr ⟨d_184_223, List.forall_mem_cons.mpr ⟨⟨d_184_224, ⟨mo_185, mi_185, se_185, pm_210⟩⟩, List.forall_mem_cons.mpr ⟨d_184_227, List.forall_mem_cons.mpr ⟨d_184_228, List.forall_mem_cons.mpr ⟨⟨d_184_229, Or.inl pf_319⟩, List.forall_mem_cons.mpr ⟨d_184_232, List.forall_mem_cons.mpr ⟨d_184_233, List.forall_mem_cons.mpr ⟨d_184_234, List.forall_mem_cons.mpr ⟨d_184_235, List.forall_mem_cons.mpr ⟨⟨d_184_236, Or.inl pf_301⟩, List.forall_mem_cons.mpr ⟨d_184_239, List.forall_mem_cons.mpr ⟨d_184_240, List.forall_mem_cons.mpr ⟨⟨d_184_241, Or.inl pf_313⟩, List.forall_mem_cons.mpr ⟨d_184_244, List.forall_mem_cons.mpr ⟨d_184_245, List.forall_mem_cons.mpr ⟨d_184_246, List.forall_mem_cons.mpr ⟨d_184_247, List.forall_mem_cons.mpr ⟨⟨d_184_248, (by decide)⟩, List.forall_mem_cons.mpr ⟨d_184_251, List.forall_mem_cons.mpr ⟨⟨d_184_252, Or.inl pf_301⟩, List.forall_mem_cons.mpr ⟨d_184_255, List.forall_mem_cons.mpr ⟨d_184_256, List.forall_mem_cons.mpr ⟨⟨d_184_257, Or.inl pf_314⟩, List.forall_mem_cons.mpr ⟨d_184_260, List.forall_mem_cons.mpr ⟨d_184_261, List.forall_mem_cons.mpr ⟨d_184_262, List.forall_mem_cons.mpr ⟨d_184_263, List.forall_mem_cons.mpr ⟨d_184_264, List.forall_mem_cons.mpr ⟨d_184_266, List.forall_mem_cons.mpr ⟨d_184_268, List.forall_mem_cons.mpr ⟨⟨d_184_269, Or.inl pf_275⟩, List.forall_mem_cons.mpr ⟨⟨d_184_272, (by decide)⟩, List.forall_mem_cons.mpr ⟨d_184_275, List.forall_mem_cons.mpr ⟨⟨d_184_276, Or.inl pf_321⟩, List.forall_mem_cons.mpr ⟨d_184_279, List.forall_mem_cons.mpr ⟨d_184_280, List.forall_mem_cons.mpr ⟨⟨d_184_281, Or.inl pf_310⟩, List.forall_mem_cons.mpr ⟨d_184_284, List.forall_mem_cons.mpr ⟨d_184_285, List.forall_mem_cons.mpr ⟨d_184_287, List.forall_mem_cons.mpr ⟨d_184_288, List.forall_mem_cons.mpr ⟨d_184_289, List.forall_mem_cons.mpr ⟨⟨d_184_290, Or.inl pf_276⟩, List.forall_mem_cons.mpr ⟨d_184_293, List.forall_mem_cons.mpr ⟨d_184_295, List.forall_mem_cons.mpr ⟨d_184_296, List.forall_mem_cons.mpr ⟨⟨d_184_297, Or.inl pf_277⟩, List.forall_mem_cons.mpr ⟨d_184_300, List.forall_mem_cons.mpr ⟨d_184_302, List.forall_mem_cons.mpr ⟨⟨d_184_303, ⟨mo_167, mi_167, se_167, pm_200⟩⟩, List.forall_mem_cons.mpr ⟨d_184_306, List.forall_mem_cons.mpr ⟨d_184_307, List.forall_mem_cons.mpr ⟨⟨d_184_310, (by decide)⟩, List.forall_mem_cons.mpr ⟨d_184_313, List.forall_mem_cons.mpr ⟨d_184_314, List.forall_mem_cons.mpr ⟨⟨d_184_315, Or.inl pf_310⟩, List.forall_mem_cons.mpr ⟨d_184_318, List.forall_mem_cons.mpr ⟨d_184_319, List.forall_mem_cons.mpr ⟨⟨d_184_320, pf_287⟩, List.forall_mem_cons.mpr ⟨⟨d_184_323, (by decide)⟩, List.forall_mem_cons.mpr ⟨d_184_326, List.forall_mem_cons.mpr ⟨⟨d_184_327, (by decide)⟩, List.forall_mem_cons.mpr ⟨d_184_330, List.forall_mem_cons.mpr ⟨d_184_331, List.forall_mem_cons.mpr ⟨⟨d_184_332, ⟨mo_177, mi_177, se_177, pm_197⟩⟩, List.forall_mem_cons.mpr ⟨⟨d_184_335, (by decide)⟩, List.forall_mem_cons.mpr ⟨d_184_338, List.forall_mem_cons.mpr ⟨⟨d_184_339, ⟨mo_178, mi_178, se_178, pm_211⟩⟩, List.forall_mem_cons.mpr ⟨d_184_342, List.forall_mem_cons.mpr ⟨d_184_343, fun _ h => absurd h List.not_mem_nil⟩⟩⟩⟩⟩⟩⟩⟩⟩⟩⟩⟩⟩⟩⟩⟩⟩⟩⟩⟩⟩⟩⟩⟩⟩⟩⟩⟩⟩⟩⟩⟩⟩⟩⟩⟩⟩⟩⟩⟩⟩⟩⟩⟩⟩⟩⟩⟩⟩⟩⟩⟩⟩⟩⟩⟩⟩⟩⟩⟩⟩⟩⟩⟩⟩⟩⟩⟩⟩⟩⟩⟩⟩⟩⟩⟩⟩⟩⟩⟩⟩⟩⟩⟩⟩⟩⟩⟩⟩⟩⟩⟩⟩⟩⟩⟩⟩⟩⟩⟩⟩⟩⟩⟩⟩⟩⟩⟩⟩⟩⟩⟩⟩⟩⟩⟩⟩⟩⟩⟩⟩⟩⟩⟩⟩⟩⟩⟩⟩⟩⟩⟩⟩⟩⟩⟩⟩⟩⟩⟩⟩⟩⟩⟩⟩⟩⟩⟩⟩⟩⟩⟩⟩⟩⟩⟩⟩⟩⟩⟩⟩⟩⟩⟩⟩⟩⟩⟩⟩⟩⟩⟩⟩⟩⟩⟩⟩⟩⟩⟩⟩⟩⟩⟩⟩⟩⟩⟩⟩⟩⟩⟩
theorem d_185_0 : decode prog_12_method_55_code 0 = .ok (.iconst (-1), 1) := by decide +kernel
theorem d_185_1 : decode prog_12_method_55_code 1 = .ok (.istore_n 3, 1) := by decide +kernel
theorem d_185_2 : decode prog_12_method_55_code 2 = .ok (.iconst 0, 1) := by decide +kernel
theorem d_185_3 : decode prog_12_method_55_code 3 = .ok (.istore 4, 2) := by decide +kernel
theorem d_185_5 : decode prog_12_method_55_code 5 = .ok (.iload 4, 2) := by decide +kernel
theorem d_185_7 : decode prog_12_method_55_code 7 = .ok (.aload_n 0, 1) := by decide +kernel
theorem d_185_8 : decode prog_12_method_55_code 8 = .ok (.getfield 350, 3) := by decide +kernel
theorem d_185_11 : decode prog_12_method_55_code 11 = .ok (.if_icmp .ge 38, 3) := by decide +kernel
theorem d_185_14 : decode prog_12_method_55_code 14 = .ok (.aload_n 0, 1) := by decide +kernel
theorem d_185_15 : decode prog_12_method_55_code 15 = .ok (.getfield 85, 3) := by decide +kernel
theorem d_185_18 : decode prog_12_method_55_code 18 = .ok (.iload 4, 2) := by decide +kernel
theorem d_185_20 : decode prog_12_method_55_code 20 = .ok (.baload, 1) := by decide +kernel
theorem d_185_21 : decode prog_12_method_55_code 21 = .ok (.ifCond .ne 22, 3) := by decide +kernel
theorem d_185_24 : decode prog_12_method_55_code 24 = .ok (.iload_n 3, 1) := by decide +kernel
theorem d_185_25 : decode prog_12_method_55_code 25 = .ok (.ifCond .lt 15, 3) := by decide +kernel
theorem d_185_28 : decode prog_12_method_55_code 28 = .ok (.aload_n 0, 1) := by decide +kernel
theorem d_185_29 : decode prog_12_method_55_code 29 = .ok (.iload 4, 2) := by decide +kernel
theorem d_185_31 : decode prog_12_method_55_code 31 = .ok (.iload_n 3, 1) := by decide +kernel
theorem d_185_32 : decode prog_12_method_55_code 32 = .ok (.iload_n 1, 1) := by decide +kernel
theorem d_185_33 : decode prog_12_method_55_code 33 = .ok (.iload_n 2, 1) := by decide +kernel
theorem d_185_34 : decode prog_12_method_55_code 34 = .ok (.invokevirtual 359, 3) := by decide +kernel
theorem d_185_37 : decode prog_12_method_55_code 37 = .ok (.ifCond .eq 6, 3) := by decide +kernel
theorem d_185_40 : decode prog_12_method_55_code 40 = .ok (.iload 4, 2) := by decide +kernel
theorem d_185_42 : decode prog_12_method_55_code 42 = .ok (.istore_n 3, 1) := by decide +kernel
theorem d_185_43 : decode prog_12_method_55_code 43 = .ok (.iinc 4 1, 3) := by decide +kernel
theorem d_185_46 : decode prog_12_method_55_code 46 = .ok (.goto (-41), 3) := by decide +kernel
theorem d_185_49 : decode prog_12_method_55_code 49 = .ok (.iload_n 3, 1) := by decide +kernel
theorem d_185_50 : decode prog_12_method_55_code 50 = .ok (.ireturn, 1) := by decide +kernel
set_option maxRecDepth 20000 in
theorem ok_185 : ∀ r ∈ tb_185, sm_ok 185 r := List.forall_mem_cons.mpr ⟨d_185_0, List.forall_mem_cons.mpr ⟨d_185_1, List.forall_mem_cons.mpr ⟨d_185_2, List.forall_mem_cons.mpr ⟨d_185_3, List.forall_mem_cons.mpr ⟨d_185_5, List.forall_mem_cons.mpr ⟨d_185_7, List.forall_mem_cons.mpr ⟨⟨d_185_8, Or.inl pf_312⟩, List.forall_mem_cons.mpr ⟨⟨d_185_11, (by decide)⟩, List.forall_mem_cons.mpr ⟨d_185_14, List.forall_mem_cons.mpr ⟨⟨d_185_15, Or.inl pf_319⟩, List.forall_mem_cons.mpr ⟨d_185_18, List.forall_mem_cons.mpr ⟨d_185_20, List.forall_mem_cons.mpr ⟨⟨d_185_21, (by decide)⟩, List.forall_mem_cons.mpr ⟨d_185_24, List.forall_mem_cons.mpr ⟨⟨d_185_25, (by decide)⟩, List.forall_mem_cons.mpr ⟨d_185_28, List.forall_mem_cons.mpr ⟨d_185_29, List.forall_mem_cons.mpr ⟨d_185_31, List.forall_mem_cons.mpr ⟨d_185_32, List.forall_mem_cons.mpr ⟨d_185_33, List.forall_mem_cons.mpr ⟨⟨d_185_34, ⟨mo_186, mi_186, se_186, pm_212⟩⟩, List.forall_mem_cons.mpr ⟨⟨d_185_37, (by decide)⟩, List.forall_mem_cons.mpr ⟨d_185_40, List.forall_mem_cons.mpr ⟨d_185_42, List.forall_mem_cons.mpr ⟨d_185_43, List.forall_mem_cons.mpr ⟨⟨d_185_46, (by decide)⟩, List.forall_mem_cons.mpr ⟨d_185_49, List.forall_mem_cons.mpr ⟨d_185_50, fun _ h => absurd h List.not_mem_nil⟩⟩⟩⟩⟩⟩⟩⟩⟩⟩⟩⟩⟩⟩⟩⟩⟩⟩⟩⟩⟩⟩⟩⟩⟩⟩⟩⟩
theorem d_186_0 : decode prog_12_method_56_code 0 = .ok (.aload_n 0, 1) := by decide +kernel
theorem d_186_1 : decode prog_12_method_56_code 1 = .ok (.getfield 82, 3) := by decide +kernel
theorem d_186_4 : decode prog_12_method_56_code 4 = .ok (.iload_n 1, 1) := by decide +kernel
theorem d_186_5 : decode prog_12_method_56_code 5 = .ok (.laload, 1) := by decide +kernel
theorem d_186_6 : decode prog_12_method_56_code 6 = .ok (.ldc2_w 305, 3) := by decide +kernel
theorem d_186_9 : decode prog_12_method_56_code 9 = .ok (.lcmp, 1) := by decide +kernel
theorem d_186_10 : decode prog_12_method_56_code 10 = .ok (.ifCond .ne 9, 3) := by decide +kernel
theorem d_186_13 : decode prog_12_method_56_code 13 = .ok (.ldc2_w 363, 3) := by decide +kernel
theorem d_186_16 : decode prog_12_method_56_code 16 = .ok (.goto 9, 3) := by decide +kernel
theorem d_186_19 : decode prog_12_method_56_code 19 = .ok (.aload_n 0, 1) := by decide +kernel
theorem d_186_20 : decode prog_12_method_56_code 20 = .ok (.getfield 82, 3) := by decide +kernel
theorem d_186_23 : decode prog_12_method_56_code 23 = .ok (.iload_n 1, 1) := by decide +kernel
theorem d_186_24 : decode prog_12_method_56_code 24 = .ok (.laload, 1) := by decide +kernel
theorem d_186_25 : decode prog_12_method_56_code 25 = .ok (.lstore 5, 2) := by decide +kernel
theorem d_186_27 : decode prog_12_method_56_code 27 = .ok (.aload_n 0, 1) := by decide +kernel
theorem d_186_28 : decode prog_12_method_56_code 28 = .ok (.getfield 82, 3) := by decide +kernel
theorem d_186_31 : decode prog_12_method_56_code 31 = .ok (.iload_n 2, 1) := by decide +kernel
theorem d_186_32 : decode prog_12_method_56_code 32 = .ok (.laload, 1) := by decide +kernel
theorem d_186_33 : decode prog_12_method_56_code 33 = .ok (.ldc2_w 305, 3) := by decide +kernel
theorem d_186_36 : decode prog_12_method_56_code 36 = .ok (.lcmp, 1) := by decide +kernel
theorem d_186_37 : decode prog_12_method_56_code 37 = .ok (.ifCond .ne 9, 3) := by decide +kernel
theorem d_186_40 : decode prog_12_method_56_code 40 = .ok (.ldc2_w 363, 3) := by decide +kernel
theorem d_186_43 : decode prog_12_method_56_code 43 = .ok (.goto 9, 3) := by decide +kernel
theorem d_186_46 : decode prog_12_method_56_code 46 = .ok (.aload_n 0, 1) := by decide +kernel
theorem d_186_47 : decode prog_12_method_56_code 47 = .ok (.getfield 82, 3) := by decide +kernel
theorem d_186_50 : decode prog_12_method_56_code 50 = .ok (.iload_n 2, 1) := by decide +kernel
theorem d_186_51 : decode prog_12_method_56_code 51 = .ok (.laload, 1) := by decide +kernel
theorem d_186_52 : decode prog_12_method_56_code 52 = .ok (.lstore 7, 2) := by decide +kernel
theorem d_186_54 : decode prog_12_method_56_code 54 = .ok (.lload 5, 2) := by decide +kernel
theorem d_186_56 : decode prog_12_method_56_code 56 = .ok (.lload 7, 2) := by decide +kernel
theorem d_186_58 : decode prog_12_method_56_code 58 = .ok (.lcmp, 1) := by decide +kernel
theorem d_186_59 : decode prog_12_method_56_code 59 = .ok (.ifCond .eq 40, 3) := by decide +kernel
theorem d_186_62 : decode prog_12_method_56_code 62 = .ok (.aload_n 0, 1) := by decide +kernel
theorem d_186_63 : decode prog_12_method_56_code 63 = .ok (.getfield 224, 3) := by decide +kernel
theorem d_186_66 : decode prog_12_method_56_code 66 = .ok (.ifCond .eq 19, 3) := by decide +kernel
theorem d_186_69 : decode prog_12_method_56_code 69 = .ok (.lload 5, 2) := by decide +kernel
theorem d_186_71 : decode prog_12_method_56_code 71 = .ok (.lload 7, 2) := by decide +kernel
theorem d_186_73 : decode prog_12_method_56_code 73 = .ok (.lcmp, 1) := by decide +kernel
theorem d_186_74 : decode prog_12_method_56_code 74 = .ok (.ifCond .le 7, 3) := by decide +kernel
theorem d_186_77 : decode prog_12_method_56_code 77 = .ok (.iconst 1, 1) := by decide +kernel
theorem d_186_78 : decode prog_12_method_56_code 78 = .ok (.goto 20, 3) := by decide +kernel
theorem d_186_81 : decode prog_12_method_56_code 81 = .ok (.iconst 0, 1) := by decide +kernel
theorem d_186_82 : decode prog_12_method_56_code 82 = .ok (.goto 16, 3) := by decide +kernel
theorem d_186_85 : decode prog_12_method_56_code 85 = .ok (.lload 5, 2) := by decide +kernel
theorem d_186_87 : decode prog_12_method_56_code 87 = .ok (.lload 7, 2) := by decide +kernel
theorem d_186_89 : decode prog_12_method_56_code 89 = .ok (.lcmp, 1) := by decide +kernel
theorem d_186_90 : decode prog_12_method_56_code 90 = .ok (.ifCond .ge 7, 3) := by decide +kernel
theorem d_186_93 : decode prog_12_method_56_code 93 = .ok (.iconst 1, 1) := by decide +kernel
theorem d_186_94 : decode prog_12_method_56_code 94 = .ok (.goto 4, 3) := by decide +kernel
theorem d_186_97 : decode prog_12_method_56_code 97 = .ok (.iconst 0, 1) := by decide +kernel
theorem d_186_98 : decode prog_12_method_56_code 98 = .ok (.ireturn, 1) := by decide +kernel
theorem d_186_99 : decode prog_12_method_56_code 99 = .ok (.aload_n 0, 1) := by decide +kernel
theorem d_186_100 : decode prog_12_method_56_code 100 = .ok (.getfield 56, 3) := by decide +kernel
theorem d_186_103 : decode prog_12_method_56_code 103 = .ok (.bipush 80, 2) := by decide +kernel
theorem d_186_105 : decode prog_12_method_56_code 105 = .ok (.iload_n 3, 1) := by decide +kernel
theorem d_186_106 : decode prog_12_method_56_code 106 = .ok (.imul, 1) := by decide +kernel
theorem d_186_107 : decode prog_12_method_56_code 107 = .ok (.iconst 4, 1) := by decide +kernel
theorem d_186_108 : decode prog_12_method_56_code 108 = .ok (.aload_n 0, 1) := by decide +kernel
theorem d_186_109 : decode prog_12_method_56_code 109 = .ok (.getfield 76, 3) := by decide +kernel
theorem d_186_112 : decode prog_12_method_56_code 112 = .ok (.iload_n 1, 1) := by decide +kernel
theorem d_186_113 : decode prog_12_method_56_code 113 = .ok (.iaload, 1) := by decide +kernel
theorem d_186_114 : decode prog_12_method_56_code 114 = .ok (.imul, 1) := by decide +kernel
theorem d_186_115 : decode prog_12_method_56_code 115 = .ok (.iadd, 1) := by decide +kernel
theorem d_186_116 : decode prog_12_method_56_code 116 = .ok (.laload, 1) := by decide +kernel
theorem d_186_117 : decode prog_12_method_56_code 117 = .ok (.lstore 9, 2) := by decide +kernel
theorem d_186_119 : decode prog_12_method_56_code 119 = .ok (.aload_n 0, 1) := by decide +kernel
theorem d_186_120 : decode prog_12_method_56_code 120 = .ok (.getfield 56, 3) := by decide +kernel
theorem d_186_123 : decode prog_12_method_56_code 123 = .ok (.bipush 80, 2) := by decide +kernel
theorem d_186_125 : decode prog_12_method_56_code 125 = .ok (.iload_n 3, 1) := by decide +kernel
theorem d_186_126 : decode prog_12_method_56_code 126 = .ok (.imul, 1) := by decide +kernel
theorem d_186_127 : decode prog_12_method_56_code 127 = .ok (.iconst 4, 1) := by decide +kernel
theorem d_186_128 : decode prog_12_method_56_code 128 = .ok (.aload_n 0, 1) := by decide +kernel
theorem d_186_129 : decode prog_12_method_56_code 129 = .ok (.getfield 76, 3) := by decide +kernel
theorem d_186_132 : decode prog_12_method_56_code 132 = .ok (.iload_n 2, 1) := by decide +kernel
theorem d_186_133 : decode prog_12_method_56_code 133 = .ok (.iaload, 1) := by decide +kernel
theorem d_186_134 : decode prog_12_method_56_code 134 = .ok (.imul, 1) := by decide +kernel
theorem d_186_135 : decode prog_12_method_56_code 135 = .ok (.iadd, 1) := by decide +kernel
theorem d_186_136 : decode prog_12_method_56_code 136 = .ok (.laload, 1) := by decide +kernel
theorem d_186_137 : decode prog_12_method_56_code 137 = .ok (.lstore 11, 2) := by decide +kernel
theorem d_186_139 : decode prog_12_method_56_code 139 = .ok (.lload 9, 2) := by decide +kernel
theorem d_186_141 : decode prog_12_method_56_code 141 = .ok (.lload 11, 2) := by decide +kernel
theorem d_186_143 : decode prog_12_method_56_code 143 = .ok (.lcmp, 1) := by decide +kernel
theorem d_186_144 : decode prog_12_method_56_code 144 = .ok (.ifCond .ne 8, 3) := by decide +kernel
theorem d_186_147 : decode prog_12_method_56_code 147 = .ok (.iload 4, 2) := by decide +kernel
theorem d_186_149 : decode prog_12_method_56_code 149 = .ok (.ifCond .ge 17, 3) := by decide +kernel
theorem d_186_152 : decode prog_12_method_56_code 152 = .ok (.lload 9, 2) := by decide +kernel
theorem d_186_154 : decode prog_12_method_56_code 154 = .ok (.lload 11, 2) := by decide +kernel
theorem d_186_156 : decode prog_12_method_56_code 156 = .ok (.lcmp, 1) := by decide +kernel
theorem d_186_157 : decode prog_12_method_56_code 157 = .ok (.ifCond .ge 7, 3) := by decide +kernel
theorem d_186_160 : decode prog_12_method_56_code 160 = .ok (.iconst 1, 1) := by decide +kernel
theorem d_186_161 : decode prog_12_method_56_code 161 = .ok (.goto 4, 3) := by decide +kernel
theorem d_186_164 : decode prog_12_method_56_code 164 = .ok (.iconst 0, 1) := by decide +kernel
theorem d_186_165 : decode prog_12_method_56_code 165 = .ok (.ireturn, 1) := by decide +kernel
theorem d_186_166 : decode prog_12_method_56_code 166 = .ok (.aload_n 0, 1) := by decide +kernel
theorem d_186_167 : decode prog_12_method_56_code 167 = .ok (.getfield 56, 3) := by decide +kernel
theorem d_186_170 : decode prog_12_method_56_code 170 = .ok (.bipush 80, 2) := by decide +kernel
theorem d_186_172 : decode prog_12_method_56_code 172 = .ok (.iload 4, 2) := by decide +kernel
theorem d_186_174 : decode prog_12_method_56_code 174 = .ok (.imul, 1) := by decide +kernel
theorem d_186_175 : decode prog_12_method_56_code 175 = .ok (.iconst 4, 1) := by decide +kernel
theorem d_186_176 : decode prog_12_method_56_code 176 = .ok (.aload_n 0, 1) := by decide +kernel
theorem d_186_177 : decode prog_12_method_56_code 177 = .ok (.getfield 79, 3) := by decide +kernel
theorem d_186_180 : decode prog_12_method_56_code 180 = .ok (.iload_n 1, 1) := by decide +kernel
theorem d_186_181 : decode prog_12_method_56_code 181 = .ok (.iaload, 1) := by decide +kernel
theorem d_186_182 : decode prog_12_method_56_code 182 = .ok (.imul, 1) := by decide +kernel
theorem d_186_183 : decode prog_12_method_56_code 183 = .ok (.iadd, 1) := by decide +kernel
theorem d_186_184 : decode prog_12_method_56_code 184 = .ok (.laload, 1) := by decide +kernel
theorem d_186_185 : decode prog_12_method_56_code 185 = .ok (.aload_n 0, 1) := by decide +kernel
theorem d_186_186 : decode prog_12_method_56_code 186 = .ok (.getfield 56, 3) := by decide +kernel
theorem d_186_189 : decode prog_12_method_56_code 189 = .ok (.bipush 80, 2) := by decide +kernel
theorem d_186_191 : decode prog_12_method_56_code 191 = .ok (.iload 4, 2) := by decide +kernel
theorem d_186_193 : decode prog_12_method_56_code 193 = .ok (.imul, 1) := by decide +kernel
theorem d_186_194 : decode prog_12_method_56_code 194 = .ok (.iconst 4, 1) := by decide +kernel
theorem d_186_195 : decode prog_12_method_56_code 195 = .ok (.aload_n 0, 1) := by decide +kernel
theorem d_186_196 : decode prog_12_method_56_code 196 = .ok (.getfield 79, 3) := by decide +kernel
theorem d_186_199 : decode prog_12_method_56_code 199 = .ok (.iload_n 2, 1) := by decide +kernel
theorem d_186_200 : decode prog_12_method_56_code 200 = .ok (.iaload, 1) := by decide +kernel
theorem d_186_201 : decode prog_12_method_56_code 201 = .ok (.imul, 1) := by decide +kernel
theorem d_186_202 : decode prog_12_method_56_code 202 = .ok (.iadd, 1) := by decide +kernel
theorem d_186_203 : decode prog_12_method_56_code 203 = .ok (.laload, 1) := by decide +kernel
theorem d_186_204 : decode prog_12_method_56_code 204 = .ok (.lcmp, 1) := by decide +kernel
theorem d_186_205 : decode prog_12_method_56_code 205 = .ok (.ifCond .ge 7, 3) := by decide +kernel
theorem d_186_208 : decode prog_12_method_56_code 208 = .ok (.iconst 1, 1) := by decide +kernel
theorem d_186_209 : decode prog_12_method_56_code 209 = .ok (.goto 4, 3) := by decide +kernel
theorem d_186_212 : decode prog_12_method_56_code 212 = .ok (.iconst 0, 1) := by decide +kernel
theorem d_186_213 : decode prog_12_method_56_code 213 = .ok (.ireturn, 1) := by decide +kernel
set_option maxRecDepth 20000 in
theorem ok_186 : ∀ r ∈ tb_186, sm_ok 186 r := List.forall_mem_cons.mpr ⟨d_186_0, List.forall_mem_cons.mpr ⟨⟨d_186_1, Or.inl pf_315⟩, List.forall_mem_cons.mpr ⟨d_186_4, List.forall_mem_cons.mpr ⟨d_186_5, List.forall_mem_cons.mpr ⟨⟨d_186_6, (fun _ h => Option.some.inj h ▸ wd_447)⟩, List.forall_mem_cons.mpr ⟨d_186_9, List.forall_mem_cons.mpr ⟨⟨d_186_10, (by decide)⟩, List.forall_mem_cons.mpr ⟨⟨d_186_13, (fun _ h => Option.some.inj h ▸ wd_464)⟩, List.forall_mem_cons.mpr ⟨⟨d_186_16, (by decide)⟩, List.forall_mem_cons.mpr ⟨d_186_19, List.forall_mem_cons.mpr ⟨⟨d_186_20, Or.inl pf_315⟩, List.forall_mem_cons.mpr ⟨d_186_23, List.forall_mem_cons.mpr ⟨d_186_24, List.forall_mem_cons.mpr ⟨d_186_25, List.forall_mem_cons.mpr ⟨d_186_27, List.forall_mem_cons.mpr ⟨⟨d_186_28, Or.inl pf_315⟩, List.forall_mem_cons.mpr ⟨d_186_31, List.forall_mem_cons.mpr ⟨d_186_32, List.forall_mem_cons.mpr ⟨⟨d_186_33, (fun _ h => Option.some.inj h ▸ wd_447)⟩, List.forall_mem_cons.mpr ⟨d_186_36, List.forall_mem_cons.mpr ⟨⟨d_186_37, (by decide)⟩, List.forall_mem_cons.mpr ⟨⟨d_186_40, (fun _ h => Option.some.inj h ▸ wd_464)⟩, List.forall_mem_cons.mpr ⟨⟨d_186_43, (by decide)⟩, List.forall_mem_cons.mpr ⟨d_186_46, List.forall_mem_cons.mpr ⟨⟨d_186_47, Or.inl pf_315⟩, List.forall_mem_cons.mpr ⟨d_186_50, List.forall_mem_cons.mpr ⟨d_186_51, List.forall_mem_cons.mpr ⟨d_186_52, List.forall_mem_cons.mpr ⟨d_186_54, List.forall_mem_cons.mpr ⟨d_186_56, List.forall_mem_cons.mpr ⟨d_186_58, List.forall_mem_cons.mpr ⟨⟨d_186_59, (by decide)⟩, List.forall_mem_cons.mpr ⟨d_186_62, List.forall_mem_cons.mpr ⟨⟨d_186_63, Or.inl pf_322⟩, List.forall_mem_cons.mpr ⟨⟨d_186_66, (by decide)⟩, List.forall_mem_cons.mpr ⟨d_186_69, List.forall_mem_cons.mpr ⟨d_186_71, List.forall_mem_cons.mpr ⟨d_186_73, List.forall_mem_cons.mpr ⟨⟨d_186_74, (by decide)⟩, List.forall_mem_cons.mpr ⟨d_186_77, List.forall_mem_cons.mpr ⟨⟨d_186_78, (by decide)⟩, List.forall_mem_cons.mpr ⟨d_186_81, List.forall_mem_cons.mpr ⟨⟨d_186_82, (by decide)⟩, List.forall_mem_cons.mpr ⟨d_186_85, List.forall_mem_cons.mpr ⟨d_186_87, List.forall_mem_cons.mpr ⟨d_186_89, List.forall_mem_cons.mpr ⟨⟨d_186_90, (by decide)⟩, List.forall_mem_cons.mpr ⟨d_186_93, List.forall_mem_cons.mpr ⟨⟨d_186_94, (by decide)⟩, List.forall_mem_cons.mpr ⟨d_186_97, List.forall_mem_cons.mpr ⟨d_186_98, List.forall_mem_cons.mpr ⟨d_186_99, List.forall_mem_cons.mpr ⟨⟨d_186_100, Or.inl pf_300⟩, List.forall_mem_cons.mpr ⟨d_186_103, List.forall_mem_cons.mpr ⟨d_186_105, List.forall_mem_cons.mpr ⟨d_186_106, List.forall_mem_cons.mpr ⟨d_186_107, List.forall_mem_cons.mpr ⟨d_186_108, List.forall_mem_cons.mpr ⟨⟨d_186_109, Or.inl pf_313⟩, List.forall_mem_cons.mpr ⟨d_186_112, List.forall_mem_cons.mpr ⟨d_186_113, List.forall_mem_cons.mpr ⟨d_186_114, List.forall_mem_cons.mpr ⟨d_186_115, List.forall_mem_cons.mpr ⟨d_186_116, List.forall_mem_cons.mpr ⟨d_186_117, List.forall_mem_cons.mpr ⟨d_186_119, List.forall_mem_cons.mpr ⟨⟨d_186_120, Or.inl pf_300⟩, List.forall_mem_cons.mpr ⟨d_186_123, List.forall_mem_cons.mpr ⟨d_186_125, List.forall_mem_cons.mpr ⟨d_186_126, List.forall_mem_cons.mpr ⟨d_186_127, List.forall_mem_cons.mpr ⟨d_186_128, List.forall_mem_cons.mpr ⟨⟨d_186_129, Or.inl pf_313⟩, List.forall_mem_cons.mpr ⟨d_186_132, List.forall_mem_cons.mpr ⟨d_186_133, List.forall_mem_cons.mpr ⟨d_186_134, List.forall_mem_cons.mpr ⟨d_186_135, List.forall_mem_cons.mpr ⟨d_186_136, List.forall_mem_cons.mpr ⟨d_186_137, List.forall_mem_cons.mpr ⟨d_186_139, List.forall_mem_cons.mpr ⟨d_186_141, List.forall_mem_cons.mpr ⟨d_186_143, List.forall_mem_cons.mpr ⟨⟨d_186_144, (by decide)⟩, List.forall_mem_cons.mpr ⟨d_186_147, List.forall_mem_cons.mpr ⟨⟨d_186_149, (by decide)⟩, List.forall_mem_cons.mpr ⟨d_186_152, List.forall_mem_cons.mpr ⟨d_186_154, List.forall_mem_cons.mpr ⟨d_186_156, List.forall_mem_cons.mpr ⟨⟨d_186_157, (by decide)⟩, List.forall_mem_cons.mpr ⟨d_186_160, List.forall_mem_cons.mpr ⟨⟨d_186_161, (by decide)⟩, List.forall_mem_cons.mpr ⟨d_186_164, List.forall_mem_cons.mpr ⟨d_186_165, List.forall_mem_cons.mpr ⟨d_186_166, List.forall_mem_cons.mpr ⟨⟨d_186_167, Or.inl pf_300⟩, List.forall_mem_cons.mpr ⟨d_186_170, List.forall_mem_cons.mpr ⟨d_186_172, List.forall_mem_cons.mpr ⟨d_186_174, List.forall_mem_cons.mpr ⟨d_186_175, List.forall_mem_cons.mpr ⟨d_186_176, List.forall_mem_cons.mpr ⟨⟨d_186_177, Or.inl pf_314⟩, List.forall_mem_cons.mpr ⟨d_186_180, List.forall_mem_cons.mpr ⟨d_186_181, List.forall_mem_cons.mpr ⟨d_186_182, List.forall_mem_cons.mpr ⟨d_186_183, List.forall_mem_cons.mpr ⟨d_186_184, List.forall_mem_cons.mpr ⟨d_186_185, List.forall_mem_cons.mpr ⟨⟨d_186_186, Or.inl pf_300⟩, List.forall_mem_cons.mpr ⟨d_186_189, List.forall_mem_cons.mpr ⟨d_186_191, List.forall_mem_cons.mpr ⟨d_186_193, List.forall_mem_cons.mpr ⟨d_186_194, List.forall_mem_cons.mpr ⟨d_186_195, List.forall_mem_cons.mpr ⟨⟨d_186_196, Or.inl pf_314⟩, List.forall_mem_cons.mpr ⟨d_186_199, List.forall_mem_cons.mpr ⟨d_186_200, List.forall_mem_cons.mpr ⟨d_186_201, List.forall_mem_cons.mpr ⟨d_186_202, List.forall_mem_cons.mpr ⟨d_186_203, List.forall_mem_cons.mpr ⟨d_186_204, List.forall_mem_cons.mpr ⟨⟨d_186_205, (by decide)⟩, List.forall_mem_cons.mpr ⟨d_186_208, List.forall_mem_cons.mpr ⟨⟨d_186_209, (by decide)⟩, List.forall_mem_cons.mpr ⟨d_186_212, List.forall_mem_cons.mpr ⟨d_186_213, fun _ h => absurd h List.not_mem_nil⟩⟩⟩⟩⟩⟩⟩⟩⟩⟩⟩⟩⟩⟩⟩⟩⟩⟩⟩⟩⟩⟩⟩⟩⟩⟩⟩⟩⟩⟩⟩⟩⟩⟩⟩⟩⟩⟩⟩⟩⟩⟩⟩⟩⟩⟩⟩⟩⟩⟩⟩⟩⟩⟩⟩⟩⟩⟩⟩⟩⟩⟩⟩⟩⟩⟩⟩⟩⟩⟩⟩⟩⟩⟩⟩⟩⟩⟩⟩⟩⟩⟩⟩⟩⟩⟩⟩⟩⟩⟩⟩⟩⟩⟩⟩⟩⟩⟩⟩⟩⟩⟩⟩⟩⟩⟩⟩⟩⟩⟩⟩⟩⟩⟩⟩⟩⟩⟩⟩⟩⟩⟩⟩⟩⟩
theorem d_187_0 : decode prog_12_method_57_code 0 = .ok (.aload_n 0, 1) := by decide +kernel
theorem d_187_1 : decode prog_12_method_57_code 1 = .ok (.getfield 236, 3) := by decide +kernel
theorem d_187_4 : decode prog_12_method_57_code 4 = .ok (.ireturn, 1) := by decide +kernel
set_option maxRecDepth 20000 in
theorem ok_187 : ∀ r ∈ tb_187, sm_ok 187 r := List.forall_mem_cons.mpr ⟨d_187_0, List.forall_mem_cons.mpr ⟨⟨d_187_1, Or.inl pf_310⟩, List.forall_mem_cons.mpr ⟨d_187_4, fun _ h => absurd h List.not_mem_nil⟩⟩⟩
theorem d_188_0 : decode prog_12_method_58_code 0 = .ok (.aload_n 0, 1) := by decide +kernel
theorem d_188_1 : decode prog_12_method_58_code 1 = .ok (.getfield 239, 3) := by decide +kernel
theorem d_188_4 : decode prog_12_method_58_code 4 = .ok (.ireturn, 1) := by decide +kernel
set_option maxRecDepth 20000 in
theorem ok_188 : ∀ r ∈ tb_188, sm_ok 188 r := List.forall_mem_cons.mpr ⟨d_188_0, List.forall_mem_cons.mpr ⟨⟨d_188_1, Or.inl pf_323⟩, List.forall_mem_cons.mpr ⟨d_188_4, fun _ h => absurd h List.not_mem_nil⟩⟩⟩
theorem d_189_0 : decode prog_12_method_59_code 0 = .ok (.aload_n 0, 1) := by decide +kernel
theorem d_189_1 : decode prog_12_method_59_code 1 = .ok (.getfield 239, 3) := by decide +kernel
theorem d_189_4 : decode prog_12_method_59_code 4 = .ok (.ifCond .le 40, 3) := by decide +kernel
theorem d_189_7 : decode prog_12_method_59_code 7 = .ok (.iload_n 1, 1) := by decide +kernel
theorem d_189_8 : decode prog_12_method_59_code 8 = .ok (.ifCond .lt 36, 3) := by decide +kernel
theorem d_189_11 : decode prog_12_method_59_code 11 = .ok (.iload_n 1, 1) := by decide +kernel
theorem d_189_12 : decode prog_12_method_59_code 12 = .ok (.aload_n 0, 1) := by decide +kernel
theorem d_189_13 : decode prog_12_method_59_code 13 = .ok (.getfield 236, 3) := by decide +kernel
theorem d_189_16 : decode prog_12_method_59_code 16 = .ok (.if_icmp .ge 28, 3) := by decide +kernel
theorem d_189_19 : decode prog_12_method_59_code 19 = .ok (.iload_n 2, 1) := by decide +kernel
theorem d_189_20 : decode prog_12_method_59_code 20 = .ok (.ifCond .lt 24, 3) := by decide +kernel
theorem d_189_23 : decode prog_12_method_59_code 23 = .ok (.iload_n 2, 1) := by decide +kernel
theorem d_189_24 : decode prog_12_method_59_code 24 = .ok (.aload_n 0, 1) := by decide +kernel
theorem d_189_25 : decode prog_12_method_59_code 25 = .ok (.getfield 239, 3) := by decide +kernel
theorem d_189_28 : decode prog_12_method_59_code 28 = .ok (.if_icmp .ge 16, 3) := by decide +kernel
theorem d_189_31 : decode prog_12_method_59_code 31 = .ok (.aload_n 0, 1) := by decide +kernel
theorem d_189_32 : decode prog_12_method_59_code 32 = .ok (.getfield 88, 3) := by decide +kernel
theorem d_189_35 : decode prog_12_method_59_code 35 = .ok (.iconst 3, 1) := by decide +kernel
theorem d_189_36 : decode prog_12_method_59_code 36 = .ok (.iload_n 1, 1) := by decide +kernel
theorem d_189_37 : decode prog_12_method_59_code 37 = .ok (.imul, 1) := by decide +kernel
theorem d_189_38 : decode prog_12_method_59_code 38 = .ok (.iload_n 2, 1) := by decide +kernel
theorem d_189_39 : decode prog_12_method_59_code 39 = .ok (.iadd, 1) := by decide +kernel
theorem d_189_40 : decode prog_12_method_59_code 40 = .ok (.laload, 1) := by decide +kernel
theorem d_189_41 : decode prog_12_method_59_code 41 = .ok (.goto 6, 3) := by decide +kernel
theorem d_189_44 : decode prog_12_method_59_code 44 = .ok (.ldc2_w 365, 3) := by decide +kernel
theorem d_189_47 : decode prog_12_method_59_code 47 = .ok (.lreturn, 1) := by decide +kernel
set_option maxRecDepth 20000 in
theorem ok_189 : ∀ r ∈ tb_189, sm_ok 189 r := List.forall_mem_cons.mpr ⟨d_189_0, List.forall_mem_cons.mpr ⟨⟨d_189_1, Or.inl pf_323⟩, List.forall_mem_cons.mpr ⟨⟨d_189_4, (by decide)⟩, List.forall_mem_cons.mpr ⟨d_189_7, List.forall_mem_cons.mpr ⟨⟨d_189_8, (by decide)⟩, List.forall_mem_cons.mpr ⟨d_189_11, List.forall_mem_cons.mpr ⟨d_189_12, List.forall_mem_cons.mpr ⟨⟨d_189_13, Or.inl pf_310⟩, List.forall_mem_cons.mpr ⟨⟨d_189_16, (by decide)⟩, List.forall_mem_cons.mpr ⟨d_189_19, List.forall_mem_cons.mpr ⟨⟨d_189_20, (by decide)⟩, List.forall_mem_cons.mpr ⟨d_189_23, List.forall_mem_cons.mpr ⟨d_189_24, List.forall_mem_cons.mpr ⟨⟨d_189_25, Or.inl pf_323⟩, List.forall_mem_cons.mpr ⟨⟨d_189_28, (by decide)⟩, List.forall_mem_cons.mpr ⟨d_189_31, List.forall_mem_cons.mpr ⟨⟨d_189_32, Or.inl pf_321⟩, List.forall_mem_cons.mpr ⟨d_189_35, List.forall_mem_cons.mpr ⟨d_189_36, List.forall_mem_cons.mpr ⟨d_189_37, List.forall_mem_cons.mpr ⟨d_189_38, List.forall_mem_cons.mpr ⟨d_189_39, List.forall_mem_cons.mpr ⟨d_189_40, List.forall_mem_cons.mpr ⟨⟨d_189_41, (by decide)⟩, List.forall_mem_cons.mpr ⟨⟨d_189_44, (fun _ h => Option.some.inj h ▸ wd_465)⟩, List.forall_mem_cons.mpr ⟨d_189_47, fun _ h => absurd h List.not_mem_nil⟩⟩⟩⟩⟩⟩⟩⟩⟩⟩⟩⟩⟩⟩⟩⟩⟩⟩⟩⟩⟩⟩⟩⟩⟩⟩
theorem d_190_0 : decode prog_12_method_60_code 0 = .ok (.aload_n 0, 1) := by decide +kernel
theorem d_190_1 : decode prog_12_method_60_code 1 = .ok (.getfield 242, 3) := by decide +kernel
theorem d_190_4 : decode prog_12_method_60_code 4 = .ok (.ireturn, 1) := by decide +kernel
set_option maxRecDepth 20000 in
theorem ok_190 : ∀ r ∈ tb_190, sm_ok 190 r := List.forall_mem_cons.mpr ⟨d_190_0, List.forall_mem_cons.mpr ⟨⟨d_190_1, Or.inl pf_307⟩, List.forall_mem_cons.mpr ⟨d_190_4, fun _ h => absurd h List.not_mem_nil⟩⟩⟩
theorem d_191_0 : decode prog_12_method_61_code 0 = .ok (.aload_n 0, 1) := by decide +kernel
theorem d_191_1 : decode prog_12_method_61_code 1 = .ok (.getfield 245, 3) := by decide +kernel
theorem d_191_4 : decode prog_12_method_61_code 4 = .ok (.ireturn, 1) := by decide +kernel
set_option maxRecDepth 20000 in
theorem ok_191 : ∀ r ∈ tb_191, sm_ok 191 r := List.forall_mem_cons.mpr ⟨d_191_0, List.forall_mem_cons.mpr ⟨⟨d_191_1, Or.inl pf_306⟩, List.forall_mem_cons.mpr ⟨d_191_4, fun _ h => absurd h List.not_mem_nil⟩⟩⟩
theorem d_192_0 : decode prog_12_method_62_code 0 = .ok (.iload_n 0, 1) := by decide +kernel
theorem d_192_1 : decode prog_12_method_62_code 1 = .ok (.ifCond .lt 12, 3) := by decide +kernel
theorem d_192_4 : decode prog_12_method_62_code 4 = .ok (.iload_n 0, 1) := by decide +kernel
theorem d_192_5 : decode prog_12_method_62_code 5 = .ok (.iconst 2, 1) := by decide +kernel
theorem d_192_6 : decode prog_12_method_62_code 6 = .ok (.if_icmp .gt 7, 3) := by decide +kernel
theorem d_192_9 : decode prog_12_method_62_code 9 = .ok (.iconst 1, 1) := by decide +kernel
theorem d_192_10 : decode prog_12_method_62_code 10 = .ok (.goto 4, 3) := by decide +kernel
theorem d_192_13 : decode prog_12_method_62_code 13 = .ok (.iconst 0, 1) := by decide +kernel
theorem d_192_14 : decode prog_12_method_62_code 14 = .ok (.ireturn, 1) := by decide +kernel
set_option maxRecDepth 20000 in
theorem ok_192 : ∀ r ∈ tb_192, sm_ok 192 r := List.forall_mem_cons.mpr ⟨d_192_0, List.forall_mem_cons.mpr ⟨⟨d_192_1, (by decide)⟩, List.forall_mem_cons.mpr ⟨d_192_4, List.forall_mem_cons.mpr ⟨d_192_5, List.forall_mem_cons.mpr ⟨⟨d_192_6, (by decide)⟩, List.forall_mem_cons.mpr ⟨d_192_9, List.forall_mem_cons.mpr ⟨⟨d_192_10, (by decide)⟩, List.forall_mem_cons.mpr ⟨d_192_13, List.forall_mem_cons.mpr ⟨d_192_14, fun _ h => absurd h List.not_mem_nil⟩⟩⟩⟩⟩⟩⟩⟩⟩
theorem d_193_0 : decode prog_12_method_63_code 0 = .ok (.iload_n 1, 1) := by decide +kernel
theorem d_193_1 : decode prog_12_method_63_code 1 = .ok (.invokestatic 367, 3) := by decide +kernel
theorem d_193_4 : decode prog_12_method_63_code 4 = .ok (.ifCond .eq 12, 3) := by decide +kernel
theorem d_193_7 : decode prog_12_method_63_code 7 = .ok (.aload_n 0, 1) := by decide +kernel
theorem d_193_8 : decode prog_12_method_63_code 8 = .ok (.getfield 50, 3) := by decide +kernel
theorem d_193_11 : decode prog_12_method_63_code 11 = .ok (.iload_n 1, 1) := by decide +kernel
theorem d_193_12 : decode prog_12_method_63_code 12 = .ok (.iaload, 1) := by decide +kernel
theorem d_193_13 : decode prog_12_method_63_code 13 = .ok (.goto 4, 3) := by decide +kernel
theorem d_193_16 : decode prog_12_method_63_code 16 = .ok (.iconst 0, 1) := by decide +kernel
theorem d_193_17 : decode prog_12_method_63_code 17 = .ok (.ireturn, 1) := by decide +kernel
set_option maxRecDepth 20000 in
theorem ok_193 : ∀ r ∈ tb_193, sm_ok 193 r := List.forall_mem_cons.mpr ⟨d_193_0, List.forall_mem_cons.mpr ⟨⟨d_193_1, (Or.inl ⟨Nat.le_of_ble_eq_true rfl, mo_192, ms_192, pm_213⟩)⟩, List.forall_mem_cons.mpr ⟨⟨d_193_4, (by decide)⟩, List.forall_mem_cons.mpr ⟨d_193_7, List.forall_mem_cons.mpr ⟨⟨d_193_8, Or.inl pf_295⟩, List.forall_mem_cons.mpr ⟨d_193_11, List.forall_mem_cons.mpr ⟨d_193_12, List.forall_mem_cons.mpr ⟨⟨d_193_13, (by decide)⟩, List.forall_mem_cons.mpr ⟨d_193_16, List.forall_mem_cons.mpr ⟨d_193_17, fun _ h => absurd h List.not_mem_nil⟩⟩⟩⟩⟩⟩⟩⟩⟩⟩
theorem d_194_0 : decode prog_12_method_64_code 0 = .ok (.iload_n 1, 1) := by decide +kernel
theorem d_194_1 : decode prog_12_method_64_code 1 = .ok (.invokestatic 367, 3) := by decide +kernel
theorem d_194_4 : decode prog_12_method_64_code 4 = .ok (.ifCond .eq 12, 3) := by decide +kernel
theorem d_194_7 : decode prog_12_method_64_code 7 = .ok (.aload_n 0, 1) := by decide +kernel
theorem d_194_8 : decode prog_12_method_64_code 8 = .ok (.getfield 53, 3) := by decide +kernel
theorem d_194_11 : decode prog_12_method_64_code 11 = .ok (.iload_n 1, 1) := by decide +kernel
theorem d_194_12 : decode prog_12_method_64_code 12 = .ok (.iaload, 1) := by decide +kernel
theorem d_194_13 : decode prog_12_method_64_code 13 = .ok (.goto 4, 3) := by decide +kernel
theorem d_194_16 : decode prog_12_method_64_code 16 = .ok (.iconst 0, 1) := by decide +kernel
theorem d_194_17 : decode prog_12_method_64_code 17 = .ok (.ireturn, 1) := by decide +kernel
set_option maxRecDepth 20000 in
theorem ok_194 : ∀ r ∈ tb_194, sm_ok 194 r := List.forall_mem_cons.mpr ⟨d_194_0, List.forall_mem_cons.mpr ⟨⟨d_194_1, (Or.inl ⟨Nat.le_of_ble_eq_true rfl, mo_192, ms_192, pm_213⟩)⟩, List.forall_mem_cons.mpr ⟨⟨d_194_4, (by decide)⟩, List.forall_mem_cons.mpr ⟨d_194_7, List.forall_mem_cons.mpr ⟨⟨d_194_8, Or.inl pf_305⟩, List.forall_mem_cons.mpr ⟨d_194_11, List.forall_mem_cons.mpr ⟨d_194_12, List.forall_mem_cons.mpr ⟨⟨d_194_13, (by decide)⟩, List.forall_mem_cons.mpr ⟨d_194_16, List.forall_mem_cons.mpr ⟨d_194_17, fun _ h => absurd h List.not_mem_nil⟩⟩⟩⟩⟩⟩⟩⟩⟩⟩
theorem d_195_0 : decode prog_12_method_65_code 0 = .ok (.iload_n 1, 1) := by decide +kernel
theorem d_195_1 : decode prog_12_method_65_code 1 = .ok (.invokestatic 367, 3) := by decide +kernel
theorem d_195_4 : decode prog_12_method_65_code 4 = .ok (.ifCond .eq 29, 3) := by decide +kernel
theorem d_195_7 : decode prog_12_method_65_code 7 = .ok (.iload_n 2, 1) := by decide +kernel
theorem d_195_8 : decode prog_12_method_65_code 8 = .ok (.ifCond .lt 25, 3) := by decide +kernel
theorem d_195_11 : decode prog_12_method_65_code 11 = .ok (.iload_n 2, 1) := by decide +kernel
theorem d_195_12 : decode prog_12_method_65_code 12 = .ok (.iconst 3, 1) := by decide +kernel
theorem d_195_13 : decode prog_12_method_65_code 13 = .ok (.if_icmp .gt 20, 3) := by decide +kernel
theorem d_195_16 : decode prog_12_method_65_code 16 = .ok (.aload_n 0, 1) := by decide +kernel
theorem d_195_17 : decode prog_12_method_65_code 17 = .ok (.getfield 60, 3) := by decide +kernel
theorem d_195_20 : decode prog_12_method_65_code 20 = .ok (.iconst 4, 1) := by decide +kernel
theorem d_195_21 : decode prog_12_method_65_code 21 = .ok (.iload_n 1, 1) := by decide +kernel
theorem d_195_22 : decode prog_12_method_65_code 22 = .ok (.imul, 1) := by decide +kernel
theorem d_195_23 : decode prog_12_method_65_code 23 = .ok (.iload_n 2, 1) := by decide +kernel
theorem d_195_24 : decode prog_12_method_65_code 24 = .ok (.iadd, 1) := by decide +kernel
theorem d_195_25 : decode prog_12_method_65_code 25 = .ok (.baload, 1) := by decide +kernel
theorem d_195_26 : decode prog_12_method_65_code 26 = .ok (.ifCond .eq 7, 3) := by decide +kernel
theorem d_195_29 : decode prog_12_method_65_code 29 = .ok (.iconst 1, 1) := by decide +kernel
theorem d_195_30 : decode prog_12_method_65_code 30 = .ok (.goto 4, 3) := by decide +kernel
theorem d_195_33 : decode prog_12_method_65_code 33 = .ok (.iconst 0, 1) := by decide +kernel
theorem d_195_34 : decode prog_12_method_65_code 34 = .ok (.ireturn, 1) := by decide +kernel
set_option maxRecDepth 20000 in
theorem ok_195 : ∀ r ∈ tb_195, sm_ok 195 r := List.forall_mem_cons.mpr ⟨d_195_0, List.forall_mem_cons.mpr ⟨⟨d_195_1, (Or.inl ⟨Nat.le_of_ble_eq_true rfl, mo_192, ms_192, pm_213⟩)⟩, List.forall_mem_cons.mpr ⟨⟨d_195_4, (by decide)⟩, List.forall_mem_cons.mpr ⟨d_195_7, List.forall_mem_cons.mpr ⟨⟨d_195_8, (by decide)⟩, List.forall_mem_cons.mpr ⟨d_195_11, List.forall_mem_cons.mpr ⟨d_195_12, List.forall_mem_cons.mpr ⟨⟨d_195_13, (by decide)⟩, List.forall_mem_cons.mpr ⟨d_195_16, List.forall_mem_cons.mpr ⟨⟨d_195_17, Or.inl pf_297⟩, List.forall_mem_cons.mpr ⟨d_195_20, List.forall_mem_cons.mpr ⟨d_195_21, List.forall_mem_cons.mpr ⟨d_195_22, List.forall_mem_cons.mpr ⟨d_195_23, List.forall_mem_cons.mpr ⟨d_195_24, List.forall_mem_cons.mpr ⟨d_195_25, List.forall_mem_cons.mpr ⟨⟨d_195_26, (by decide)⟩, List.forall_mem_cons.mpr ⟨d_195_29, List.forall_mem_cons.mpr ⟨⟨d_195_30, (by decide)⟩, List.forall_mem_cons.mpr ⟨d_195_33, List.forall_mem_cons.mpr ⟨d_195_34, fun _ h => absurd h List.not_mem_nil⟩⟩⟩⟩⟩⟩⟩⟩⟩⟩⟩⟩⟩⟩⟩⟩⟩⟩⟩⟩⟩
theorem d_196_0 : decode prog_12_method_66_code 0 = .ok (.iload_n 1, 1) := by decide +kernel
theorem d_196_1 : decode prog_12_method_66_code 1 = .ok (.invokestatic 367, 3) := by decide +kernel
theorem d_196_4 : decode prog_12_method_66_code 4 = .ok (.ifCond .eq 31, 3) := by decide +kernel
theorem d_196_7 : decode prog_12_method_66_code 7 = .ok (.iload_n 2, 1) := by decide +kernel
theorem d_196_8 : decode prog_12_method_66_code 8 = .ok (.ifCond .lt 27, 3) := by decide +kernel
theorem d_196_11 : decode prog_12_method_66_code 11 = .ok (.iload_n 2, 1) := by decide +kernel
theorem d_196_12 : decode prog_12_method_66_code 12 = .ok (.aload_n 0, 1) := by decide +kernel
theorem d_196_13 : decode prog_12_method_66_code 13 = .ok (.getfield 53, 3) := by decide +kernel
theorem d_196_16 : decode prog_12_method_66_code 16 = .ok (.iload_n 1, 1) := by decide +kernel
theorem d_196_17 : decode prog_12_method_66_code 17 = .ok (.iaload, 1) := by decide +kernel
theorem d_196_18 : decode prog_12_method_66_code 18 = .ok (.if_icmp .ge 17, 3) := by decide +kernel
theorem d_196_21 : decode prog_12_method_66_code 21 = .ok (.iload_n 3, 1) := by decide +kernel
theorem d_196_22 : decode prog_12_method_66_code 22 = .ok (.ifCond .lt 13, 3) := by decide +kernel
theorem d_196_25 : decode prog_12_method_66_code 25 = .ok (.iload_n 3, 1) := by decide +kernel
theorem d_196_26 : decode prog_12_method_66_code 26 = .ok (.aload_n 0, 1) := by decide +kernel
theorem d_196_27 : decode prog_12_method_66_code 27 = .ok (.getfield 50, 3) := by decide +kernel
theorem d_196_30 : decode prog_12_method_66_code 30 = .ok (.iload_n 1, 1) := by decide +kernel
theorem d_196_31 : decode prog_12_method_66_code 31 = .ok (.iaload, 1) := by decide +kernel
theorem d_196_32 : decode prog_12_method_66_code 32 = .ok (.if_icmp .lt 7, 3) := by decide +kernel
theorem d_196_35 : decode prog_12_method_66_code 35 = .ok (.ldc2_w 365, 3) := by decide +kernel
theorem d_196_38 : decode prog_12_method_66_code 38 = .ok (.lreturn, 1) := by decide +kernel
theorem d_196_39 : decode prog_12_method_66_code 39 = .ok (.iconst 0, 1) := by decide +kernel
theorem d_196_40 : decode prog_12_method_66_code 40 = .ok (.istore 4, 2) := by decide +kernel
theorem d_196_42 : decode prog_12_method_66_code 42 = .ok (.iload 4, 2) := by decide +kernel
theorem d_196_44 : decode prog_12_method_66_code 44 = .ok (.aload_n 0, 1) := by decide +kernel
theorem d_196_45 : decode prog_12_method_66_code 45 = .ok (.getfield 53, 3) := by decide +kernel
theorem d_196_48 : decode prog_12_method_66_code 48 = .ok (.iload_n 1, 1) := by decide +kernel
theorem d_196_49 : decode prog_12_method_66_code 49 = .ok (.iaload, 1) := by decide +kernel
theorem d_196_50 : decode prog_12_method_66_code 50 = .ok (.if_icmp .ge 98, 3) := by decide +kernel
theorem d_196_53 : decode prog_12_method_66_code 53 = .ok (.iconst 0, 1) := by decide +kernel
theorem d_196_54 : decode prog_12_method_66_code 54 = .ok (.istore 5, 2) := by decide +kernel
theorem d_196_56 : decode prog_12_method_66_code 56 = .ok (.iconst 0, 1) := by decide +kernel
theorem d_196_57 : decode prog_12_method_66_code 57 = .ok (.istore 6, 2) := by decide +kernel
theorem d_196_59 : decode prog_12_method_66_code 59 = .ok (.iload 6, 2) := by decide +kernel
theorem d_196_61 : decode prog_12_method_66_code 61 = .ok (.aload_n 0, 1) := by decide +kernel
theorem d_196_62 : decode prog_12_method_66_code 62 = .ok (.getfield 53, 3) := by decide +kernel
theorem d_196_65 : decode prog_12_method_66_code 65 = .ok (.iload_n 1, 1) := by decide +kernel
theorem d_196_66 : decode prog_12_method_66_code 66 = .ok (.iaload, 1) := by decide +kernel
theorem d_196_67 : decode prog_12_method_66_code 67 = .ok (.if_icmp .ge 52, 3) := by decide +kernel
theorem d_196_70 : decode prog_12_method_66_code 70 = .ok (.aload_n 0, 1) := by decide +kernel
theorem d_196_71 : decode prog_12_method_66_code 71 = .ok (.getfield 56, 3) := by decide +kernel
theorem d_196_74 : decode prog_12_method_66_code 74 = .ok (.bipush 80, 2) := by decide +kernel
theorem d_196_76 : decode prog_12_method_66_code 76 = .ok (.iload_n 1, 1) := by decide +kernel
theorem d_196_77 : decode prog_12_method_66_code 77 = .ok (.imul, 1) := by decide +kernel
theorem d_196_78 : decode prog_12_method_66_code 78 = .ok (.iconst 4, 1) := by decide +kernel
theorem d_196_79 : decode prog_12_method_66_code 79 = .ok (.iload 6, 2) := by decide +kernel
theorem d_196_81 : decode prog_12_method_66_code 81 = .ok (.imul, 1) := by decide +kernel
theorem d_196_82 : decode prog_12_method_66_code 82 = .ok (.iadd, 1) := by decide +kernel
theorem d_196_83 : decode prog_12_method_66_code 83 = .ok (.laload, 1) := by decide +kernel
theorem d_196_84 : decode prog_12_method_66_code 84 = .ok (.aload_n 0, 1) := by decide +kernel
theorem d_196_85 : decode prog_12_method_66_code 85 = .ok (.getfield 56, 3) := by decide +kernel
theorem d_196_88 : decode prog_12_method_66_code 88 = .ok (.bipush 80, 2) := by decide +kernel
theorem d_196_90 : decode prog_12_method_66_code 90 = .ok (.iload_n 1, 1) := by decide +kernel
theorem d_196_91 : decode prog_12_method_66_code 91 = .ok (.imul, 1) := by decide +kernel
theorem d_196_92 : decode prog_12_method_66_code 92 = .ok (.iconst 4, 1) := by decide +kernel
theorem d_196_93 : decode prog_12_method_66_code 93 = .ok (.iload 4, 2) := by decide +kernel
theorem d_196_95 : decode prog_12_method_66_code 95 = .ok (.imul, 1) := by decide +kernel
theorem d_196_96 : decode prog_12_method_66_code 96 = .ok (.iadd, 1) := by decide +kernel
theorem d_196_97 : decode prog_12_method_66_code 97 = .ok (.laload, 1) := by decide +kernel
theorem d_196_98 : decode prog_12_method_66_code 98 = .ok (.lcmp, 1) := by decide +kernel
theorem d_196_99 : decode prog_12_method_66_code 99 = .ok (.ifCond .ge 10, 3) := by decide +kernel
theorem d_196_102 : decode prog_12_method_66_code 102 = .ok (.iload 5, 2) := by decide +kernel
theorem d_196_104 : decode prog_12_method_66_code 104 = .ok (.iconst 1, 1) := by decide +kernel
theorem d_196_105 : decode prog_12_method_66_code 105 = .ok (.iadd, 1) := by decide +kernel
theorem d_196_106 : decode prog_12_method_66_code 106 = .ok (.goto 5, 3) := by decide +kernel
theorem d_196_109 : decode prog_12_method_66_code 109 = .ok (.iload 5, 2) := by decide +kernel
theorem d_196_111 : decode prog_12_method_66_code 111 = .ok (.istore 5, 2) := by decide +kernel
theorem d_196_113 : decode prog_12_method_66_code 113 = .ok (.iinc 6 1, 3) := by decide +kernel
theorem d_196_116 : decode prog_12_method_66_code 116 = .ok (.goto (-57), 3) := by decide +kernel
theorem d_196_119 : decode prog_12_method_66_code 119 = .ok (.iload 5, 2) := by decide +kernel
theorem d_196_121 : decode prog_12_method_66_code 121 = .ok (.iload_n 2, 1) := by decide +kernel
theorem d_196_122 : decode prog_12_method_66_code 122 = .ok (.if_icmp .ne 20, 3) := by decide +kernel
theorem d_196_125 : decode prog_12_method_66_code 125 = .ok (.aload_n 0, 1) := by decide +kernel
theorem d_196_126 : decode prog_12_method_66_code 126 = .ok (.getfield 56, 3) := by decide +kernel
theorem d_196_129 : decode prog_12_method_66_code 129 = .ok (.bipush 80, 2) := by decide +kernel
theorem d_196_131 : decode prog_12_method_66_code 131 = .ok (.iload_n 1, 1) := by decide +kernel
theorem d_196_132 : decode prog_12_method_66_code 132 = .ok (.imul, 1) := by decide +kernel
theorem d_196_133 : decode prog_12_method_66_code 133 = .ok (.iconst 4, 1) := by decide +kernel
theorem d_196_134 : decode prog_12_method_66_code 134 = .ok (.iload 4, 2) := by decide +kernel
theorem d_196_136 : decode prog_12_method_66_code 136 = .ok (.imul, 1) := by decide +kernel
theorem d_196_137 : decode prog_12_method_66_code 137 = .ok (.iadd, 1) := by decide +kernel
theorem d_196_138 : decode prog_12_method_66_code 138 = .ok (.iload_n 3, 1) := by decide +kernel
theorem d_196_139 : decode prog_12_method_66_code 139 = .ok (.iadd, 1) := by decide +kernel
theorem d_196_140 : decode prog_12_method_66_code 140 = .ok (.laload, 1) := by decide +kernel
theorem d_196_141 : decode prog_12_method_66_code 141 = .ok (.lreturn, 1) := by decide +kernel
theorem d_196_142 : decode prog_12_method_66_code 142 = .ok (.iinc 4 1, 3) := by decide +kernel
theorem d_196_145 : decode prog_12_method_66_code 145 = .ok (.goto (-103), 3) := by decide +kernel
theorem d_196_148 : decode prog_12_method_66_code 148 = .ok (.ldc2_w 365, 3) := by decide +kernel
theorem d_196_151 : decode prog_12_method_66_code 151 = .ok (.lreturn, 1) := by decide +kernel
set_option maxRecDepth 20000 in
theorem ok_196 : ∀ r ∈ tb_196, sm_ok 196 r := List.forall_mem_cons.mpr ⟨d_196_0, List.forall_mem_cons.mpr ⟨⟨d_196_1, (Or.inl ⟨Nat.le_of_ble_eq_true rfl, mo_192, ms_192, pm_213⟩)⟩, List.forall_mem_cons.mpr ⟨⟨d_196_4, (by decide)⟩, List.forall_mem_cons.mpr ⟨d_196_7, List.forall_mem_cons.mpr ⟨⟨d_196_8, (by decide)⟩, List.forall_mem_cons.mpr ⟨d_196_11, List.forall_mem_cons.mpr ⟨d_196_12, List.forall_mem_cons.mpr ⟨⟨d_196_13, Or.inl pf_305⟩, List.forall_mem_cons.mpr ⟨d_196_16, List.forall_mem_cons.mpr ⟨d_196_17, List.forall_mem_cons.mpr ⟨⟨d_196_18, (by decide)⟩, List.forall_mem_cons.mpr ⟨d_196_21, List.forall_mem_cons.mpr ⟨⟨d_196_22, (by decide)⟩, List.forall_mem_cons.mpr ⟨d_196_25, List.forall_mem_cons.mpr ⟨d_196_26, List.forall_mem_cons.mpr ⟨⟨d_196_27, Or.inl pf_295⟩, List.forall_mem_cons.mpr ⟨d_196_30, List.forall_mem_cons.mpr ⟨d_196_31, List.forall_mem_cons.mpr ⟨⟨d_196_32, (by decide)⟩, List.forall_mem_cons.mpr ⟨⟨d_196_35, (fun _ h => Option.some.inj h ▸ wd_465)⟩, List.forall_mem_cons.mpr ⟨d_196_38, List.forall_mem_cons.mpr ⟨d_196_39, List.forall_mem_cons.mpr ⟨d_196_40, List.forall_mem_cons.mpr ⟨d_196_42, List.forall_mem_cons.mpr ⟨d_196_44, List.forall_mem_cons.mpr ⟨⟨d_196_45, Or.inl pf_305⟩, List.forall_mem_cons.mpr ⟨d_196_48, List.forall_mem_cons.mpr ⟨d_196_49, List.forall_mem_cons.mpr ⟨⟨d_196_50, (by decide)⟩, List.forall_mem_cons.mpr ⟨d_196_53, List.forall_mem_cons.mpr ⟨d_196_54, List.forall_mem_cons.mpr ⟨d_196_56, List.forall_mem_cons.mpr ⟨d_196_57, List.forall_mem_cons.mpr ⟨d_196_59, List.forall_mem_cons.mpr ⟨d_196_61, List.forall_mem_cons.mpr ⟨⟨d_196_62, Or.inl pf_305⟩, List.forall_mem_cons.mpr ⟨d_196_65, List.forall_mem_cons.mpr ⟨d_196_66, List.forall_mem_cons.mpr ⟨⟨d_196_67, (by decide)⟩, List.forall_mem_cons.mpr ⟨d_196_70, List.forall_mem_cons.mpr ⟨⟨d_196_71, Or.inl pf_300⟩, List.forall_mem_cons.mpr ⟨d_196_74, List.forall_mem_cons.mpr ⟨d_196_76, List.forall_mem_cons.mpr ⟨d_196_77, List.forall_mem_cons.mpr ⟨d_196_78, List.forall_mem_cons.mpr ⟨d_196_79, List.forall_mem_cons.mpr ⟨d_196_81, List.forall_mem_cons.mpr ⟨d_196_82, List.forall_mem_cons.mpr ⟨d_196_83, List.forall_mem_cons.mpr ⟨d_196_84, List.forall_mem_cons.mpr ⟨⟨d_196_85, Or.inl pf_300⟩, List.forall_mem_cons.mpr ⟨d_196_88, List.forall_mem_cons.mpr ⟨d_196_90, List.forall_mem_cons.mpr ⟨d_196_91, List.forall_mem_cons.mpr ⟨d_196_92, List.forall_mem_cons.mpr ⟨d_196_93, List.forall_mem_cons.mpr ⟨d_196_95, List.forall_mem_cons.mpr ⟨d_196_96, List.forall_mem_cons.mpr ⟨d_196_97, List.forall_mem_cons.mpr ⟨d_196_98, List.forall_mem_cons.mpr ⟨⟨d_196_99, (by decide)⟩, List.forall_mem_cons.mpr ⟨d_196_102, List.forall_mem_cons.mpr ⟨d_196_104, List.forall_mem_cons.mpr ⟨d_196_105, List.forall_mem_cons.mpr ⟨⟨d_196_106, (by decide)⟩, List.forall_mem_cons.mpr ⟨d_196_109, List.forall_mem_cons.mpr ⟨d_196_111, List.forall_mem_cons.mpr ⟨d_196_113, List.forall_mem_cons.mpr ⟨⟨d_196_116, (by decide)⟩, List.forall_mem_cons.mpr ⟨d_196_119, List.forall_mem_cons.mpr ⟨d_196_121, List.forall_mem_cons.mpr ⟨⟨d_196_122, (by decide)⟩, List.forall_mem_cons.mpr ⟨d_196_125, List.forall_mem_cons.mpr ⟨⟨d_196_126, Or.inl pf_300⟩, List.forall_mem_cons.mpr ⟨d_196_129, List.forall_mem_cons.mpr ⟨d_196_131, List.forall_mem_cons.mpr ⟨d_196_132, List.forall_mem_cons.mpr ⟨d_196_133, List.forall_mem_cons.mpr ⟨d_196_134, List.forall_mem_cons.mpr ⟨d_196_136, List.forall_mem_cons.mpr ⟨d_196_137, List.forall_mem_cons.mpr ⟨d_196_138, List.forall_mem_cons.mpr ⟨d_196_139, List.forall_mem_cons.mpr ⟨d_196_140, List.forall_mem_cons.mpr ⟨d_196_141, List.forall_mem_cons.mpr ⟨d_196_142, List.forall_mem_cons.mpr ⟨⟨d_196_145, (by decide)⟩, List.forall_mem_cons.mpr ⟨⟨d_196_148, (fun _ h => Option.some.inj h ▸ wd_465)⟩, List.forall_mem_cons.mpr ⟨d_196_151, fun _ h => absurd h List.not_mem_nil⟩⟩⟩⟩⟩⟩⟩⟩⟩⟩⟩⟩⟩⟩⟩⟩⟩⟩⟩⟩⟩⟩⟩⟩⟩⟩⟩⟩⟩⟩⟩⟩⟩⟩⟩⟩⟩⟩⟩⟩⟩⟩⟩⟩⟩⟩⟩⟩⟩⟩⟩⟩⟩⟩⟩⟩⟩⟩⟩⟩⟩⟩⟩⟩⟩⟩⟩⟩⟩⟩⟩⟩⟩⟩⟩⟩⟩⟩⟩⟩⟩⟩⟩⟩⟩⟩⟩⟩⟩
theorem d_197_0 : decode prog_12_method_67_code 0 = .ok (.iconst 0, 1) := by decide +kernel
theorem d_197_1 : decode prog_12_method_67_code 1 = .ok (.istore 5, 2) := by decide +kernel
theorem d_197_3 : decode prog_12_method_67_code 3 = .ok (.iconst 0, 1) := by decide +kernel
theorem d_197_4 : decode prog_12_method_67_code 4 = .ok (.istore 6, 2) := by decide +kernel
theorem d_197_6 : decode prog_12_method_67_code 6 = .ok (.iload_n 1, 1) := by decide +kernel
theorem d_197_7 : decode prog_12_method_67_code 7 = .ok (.invokestatic 367, 3) := by decide +kernel
theorem d_197_10 : decode prog_12_method_67_code 10 = .ok (.ifCond .eq 66, 3) := by decide +kernel
theorem d_197_13 : decode prog_12_method_67_code 13 = .ok (.iload_n 2, 1) := by decide +kernel
theorem d_197_14 : decode prog_12_method_67_code 14 = .ok (.ifCond .lt 62, 3) := by decide +kernel
theorem d_197_17 : decode prog_12_method_67_code 17 = .ok (.iload_n 2, 1) := by decide +kernel
theorem d_197_18 : decode prog_12_method_67_code 18 = .ok (.aload_n 0, 1) := by decide +kernel
theorem d_197_19 : decode prog_12_method_67_code 19 = .ok (.getfield 50, 3) := by decide +kernel
theorem d_197_22 : decode prog_12_method_67_code 22 = .ok (.iload_n 1, 1) := by decide +kernel
theorem d_197_23 : decode prog_12_method_67_code 23 = .ok (.iaload, 1) := by decide +kernel
theorem d_197_24 : decode prog_12_method_67_code 24 = .ok (.if_icmp .ge 52, 3) := by decide +kernel
theorem d_197_27 : decode prog_12_method_67_code 27 = .ok (.iload 6, 2) := by decide +kernel
theorem d_197_29 : decode prog_12_method_67_code 29 = .ok (.aload_n 0, 1) := by decide +kernel
theorem d_197_30 : decode prog_12_method_67_code 30 = .ok (.getfield 53, 3) := by decide +kernel
theorem d_197_33 : decode prog_12_method_67_code 33 = .ok (.iload_n 1, 1) := by decide +kernel
theorem d_197_34 : decode prog_12_method_67_code 34 = .ok (.iaload, 1) := by decide +kernel
theorem d_197_35 : decode prog_12_method_67_code 35 = .ok (.if_icmp .ge 41, 3) := by decide +kernel
theorem d_197_38 : decode prog_12_method_67_code 38 = .ok (.aload_n 0, 1) := by decide +kernel
theorem d_197_39 : decode prog_12_method_67_code 39 = .ok (.getfield 56, 3) := by decide +kernel
theorem d_197_42 : decode prog_12_method_67_code 42 = .ok (.bipush 80, 2) := by decide +kernel
theorem d_197_44 : decode prog_12_method_67_code 44 = .ok (.iload_n 1, 1) := by decide +kernel
theorem d_197_45 : decode prog_12_method_67_code 45 = .ok (.imul, 1) := by decide +kernel
theorem d_197_46 : decode prog_12_method_67_code 46 = .ok (.iconst 4, 1) := by decide +kernel
theorem d_197_47 : decode prog_12_method_67_code 47 = .ok (.iload 6, 2) := by decide +kernel
theorem d_197_49 : decode prog_12_method_67_code 49 = .ok (.imul, 1) := by decide +kernel
theorem d_197_50 : decode prog_12_method_67_code 50 = .ok (.iadd, 1) := by decide +kernel
theorem d_197_51 : decode prog_12_method_67_code 51 = .ok (.iload_n 2, 1) := by decide +kernel
theorem d_197_52 : decode prog_12_method_67_code 52 = .ok (.iadd, 1) := by decide +kernel
theorem d_197_53 : decode prog_12_method_67_code 53 = .ok (.laload, 1) := by decide +kernel
theorem d_197_54 : decode prog_12_method_67_code 54 = .ok (.lload_n 3, 1) := by decide +kernel
theorem d_197_55 : decode prog_12_method_67_code 55 = .ok (.lcmp, 1) := by decide +kernel
theorem d_197_56 : decode prog_12_method_67_code 56 = .ok (.ifCond .ne 10, 3) := by decide +kernel
theorem d_197_59 : decode prog_12_method_67_code 59 = .ok (.iload 5, 2) := by decide +kernel
theorem d_197_61 : decode prog_12_method_67_code 61 = .ok (.iconst 1, 1) := by decide +kernel
theorem d_197_62 : decode prog_12_method_67_code 62 = .ok (.iadd, 1) := by decide +kernel
theorem d_197_63 : decode prog_12_method_67_code 63 = .ok (.goto 5, 3) := by decide +kernel
theorem d_197_66 : decode prog_12_method_67_code 66 = .ok (.iload 5, 2) := by decide +kernel
theorem d_197_68 : decode prog_12_method_67_code 68 = .ok (.istore 5, 2) := by decide +kernel
theorem d_197_70 : decode prog_12_method_67_code 70 = .ok (.iinc 6 1, 3) := by decide +kernel
theorem d_197_73 : decode prog_12_method_67_code 73 = .ok (.goto (-67), 3) := by decide +kernel
theorem d_197_76 : decode prog_12_method_67_code 76 = .ok (.iload 5, 2) := by decide +kernel
theorem d_197_78 : decode prog_12_method_67_code 78 = .ok (.ireturn, 1) := by decide +kernel
set_option maxRecDepth 20000 in
theorem ok_197 : ∀ r ∈ tb_197, sm_ok 197 r := List.forall_mem_cons.mpr ⟨d_197_0, List.forall_mem_cons.mpr ⟨d_197_1, List.forall_mem_cons.mpr ⟨d_197_3, List.forall_mem_cons.mpr ⟨d_197_4, List.forall_mem_cons.mpr ⟨d_197_6, List.forall_mem_cons.mpr ⟨⟨d_197_7, (Or.inl ⟨Nat.le_of_ble_eq_true rfl, mo_192, ms_192, pm_213⟩)⟩, List.forall_mem_cons.mpr ⟨⟨d_197_10, (by decide)⟩, List.forall_mem_cons.mpr ⟨d_197_13, List.forall_mem_cons.mpr ⟨⟨d_197_14, (by decide)⟩, List.forall_mem_cons.mpr ⟨d_197_17, List.forall_mem_cons.mpr ⟨d_197_18, List.forall_mem_cons.mpr ⟨⟨d_197_19, Or.inl pf_295⟩, List.forall_mem_cons.mpr ⟨d_197_22, List.forall_mem_cons.mpr ⟨d_197_23, List.forall_mem_cons.mpr ⟨⟨d_197_24, (by decide)⟩, List.forall_mem_cons.mpr ⟨d_197_27, List.forall_mem_cons.mpr ⟨d_197_29, List.forall_mem_cons.mpr ⟨⟨d_197_30, Or.inl pf_305⟩, List.forall_mem_cons.mpr ⟨d_197_33, List.forall_mem_cons.mpr ⟨d_197_34, List.forall_mem_cons.mpr ⟨⟨d_197_35, (by decide)⟩, List.forall_mem_cons.mpr ⟨d_197_38, List.forall_mem_cons.mpr ⟨⟨d_197_39, Or.inl pf_300⟩, List.forall_mem_cons.mpr ⟨d_197_42, List.forall_mem_cons.mpr ⟨d_197_44, List.forall_mem_cons.mpr ⟨d_197_45, List.forall_mem_cons.mpr ⟨d_197_46, List.forall_mem_cons.mpr ⟨d_197_47, List.forall_mem_cons.mpr ⟨d_197_49, List.forall_mem_cons.mpr ⟨d_197_50, List.forall_mem_cons.mpr ⟨d_197_51, List.forall_mem_cons.mpr ⟨d_197_52, List.forall_mem_cons.mpr ⟨d_197_53, List.forall_mem_cons.mpr ⟨d_197_54, List.forall_mem_cons.mpr ⟨d_197_55, List.forall_mem_cons.mpr ⟨⟨d_197_56, (by decide)⟩, List.forall_mem_cons.mpr ⟨d_197_59, List.forall_mem_cons.mpr ⟨d_197_61, List.forall_mem_cons.mpr ⟨d_197_62, List.forall_mem_cons.mpr ⟨⟨d_197_63, (by decide)⟩, List.forall_mem_cons.mpr ⟨d_197_66, List.forall_mem_cons.mpr ⟨d_197_68, List.forall_mem_cons.mpr ⟨d_197_70, List.forall_mem_cons.mpr ⟨⟨d_197_73, (by decide)⟩, List.forall_mem_cons.mpr ⟨d_197_76, List.forall_mem_cons.mpr ⟨d_197_78, fun _ h => absurd h List.not_mem_nil⟩⟩⟩⟩⟩⟩⟩⟩⟩⟩⟩⟩⟩⟩⟩⟩⟩⟩⟩⟩⟩⟩⟩⟩⟩⟩⟩⟩⟩⟩⟩⟩⟩⟩⟩⟩⟩⟩⟩⟩⟩⟩⟩⟩⟩⟩
theorem d_198_0 : decode prog_15_method_56_code 0 = .ok (.aload_n 0, 1) := by decide +kernel
theorem d_198_1 : decode prog_15_method_56_code 1 = .ok (.invokevirtual 492, 3) := by decide +kernel
theorem d_198_4 : decode prog_15_method_56_code 4 = .ok (.ifCond .eq 12, 3) := by decide +kernel
theorem d_198_7 : decode prog_15_method_56_code 7 = .ok (.aload_n 0, 1) := by decide +kernel
theorem d_198_8 : decode prog_15_method_56_code 8 = .ok (.getfield 9, 3) := by decide +kernel
theorem d_198_11 : decode prog_15_method_56_code 11 = .ok (.iload_n 1, 1) := by decide +kernel
theorem d_198_12 : decode prog_15_method_56_code 12 = .ok (.invokestatic 495, 3) := by decide +kernel
theorem d_198_15 : decode prog_15_method_56_code 15 = .ok (.ireturn, 1) := by decide +kernel
theorem d_198_16 : decode prog_15_method_56_code 16 = .ok (.aload_n 0, 1) := by decide +kernel
theorem d_198_17 : decode prog_15_method_56_code 17 = .ok (.getfield 9, 3) := by decide +kernel
theorem d_198_20 : decode prog_15_method_56_code 20 = .ok (.iload_n 1, 1) := by decide +kernel
theorem d_198_24 : decode prog_15_method_56_code 24 = .ok (.ireturn, 1) := by decide +kernel
set_option maxRecDepth 20000 in
theorem ok_198 : ∀ r ∈ tb_198, sm_ok 198 r := List.forall_mem_cons.mpr ⟨d_198_0, List.forall_mem_cons.mpr ⟨⟨d_198_1, ⟨mo_202, mi_202, se_202, pm_214⟩⟩, List.forall_mem_cons.mpr ⟨⟨d_198_4, (by decide)⟩, List.forall_mem_cons.mpr ⟨d_198_7, List.forall_mem_cons.mpr ⟨⟨d_198_8, Or.inr ⟨rfl, fun _ => wd_468, fun h => absurd h (by decide)⟩⟩, List.forall_mem_cons.mpr ⟨d_198_11, List.forall_mem_cons.mpr ⟨⟨d_198_12, (Or.inl ⟨Nat.le_of_ble_eq_true rfl, mo_206, ms_206, pm_215⟩)⟩, List.forall_mem_cons.mpr ⟨d_198_15, List.forall_mem_cons.mpr ⟨d_198_16, List.forall_mem_cons.mpr ⟨⟨d_198_17, Or.inr ⟨rfl, fun _ => wd_468, fun h => absurd h (by decide)⟩⟩, List.forall_mem_cons.mpr ⟨d_198_20, List.forall_mem_cons.mpr ⟨d_198_24, fun _ h => absurd h List.not_mem_nil⟩⟩⟩⟩⟩⟩⟩⟩⟩⟩⟩⟩
theorem d_199_0 : decode prog_15_method_152_code 0 = .ok (.getstatic 38, 3) := by decide +kernel
theorem d_199_3 : decode prog_15_method_152_code 3 = .ok (.ifCond .eq 10, 3) := by decide +kernel
theorem d_199_6 : decode prog_15_method_152_code 6 = .ok (.aload_n 0, 1) := by decide +kernel
theorem d_199_7 : decode prog_15_method_152_code 7 = .ok (.getfield 15, 3) := by decide +kernel
theorem d_199_10 : decode prog_15_method_152_code 10 = .ok (.goto 4, 3) := by decide +kernel
theorem d_199_13 : decode prog_15_method_152_code 13 = .ok (.iconst 1, 1) := by decide +kernel
theorem d_199_14 : decode prog_15_method_152_code 14 = .ok (.ireturn, 1) := by decide +kernel
set_option maxRecDepth 20000 in
theorem ok_199 : ∀ r ∈ tb_199, sm_ok 199 r := List.forall_mem_cons.mpr ⟨⟨d_199_0, ⟨fun _ => wd_470, fun h => absurd h (by decide)⟩⟩, List.forall_mem_cons.mpr ⟨⟨d_199_3, (by decide)⟩, List.forall_mem_cons.mpr ⟨d_199_6, List.forall_mem_cons.mpr ⟨⟨d_199_7, Or.inr ⟨rfl, fun h => absurd h (by decide), fun _ => wd_471⟩⟩, List.forall_mem_cons.mpr ⟨⟨d_199_10, (by decide)⟩, List.forall_mem_cons.mpr ⟨d_199_13, List.forall_mem_cons.mpr ⟨d_199_14, fun _ h => absurd h List.not_mem_nil⟩⟩⟩⟩⟩⟩⟩
theorem d_200_0 : decode prog_15_method_79_code 0 = .ok (.aload_n 0, 1) := by decide +kernel
theorem d_200_1 : decode prog_15_method_79_code 1 = .ok (.iload_n 1, 1) := by decide +kernel
theorem d_200_2 : decode prog_15_method_79_code 2 = .ok (.iconst 0, 1) := by decide +kernel
theorem d_200_3 : decode prog_15_method_79_code 3 = .ok (.invokevirtual 633, 3) := by decide +kernel
theorem d_200_6 : decode prog_15_method_79_code 6 = .ok (.ireturn, 1) := by decide +kernel
set_option maxRecDepth 20000 in
theorem ok_200 : ∀ r ∈ tb_200, sm_ok 200 r := List.forall_mem_cons.mpr ⟨d_200_0, List.forall_mem_cons.mpr ⟨d_200_1, List.forall_mem_cons.mpr ⟨d_200_2, List.forall_mem_cons.mpr ⟨⟨d_200_3, ⟨mo_201, mi_201, se_201, pm_216⟩⟩, List.forall_mem_cons.mpr ⟨d_200_6, fun _ h => absurd h List.not_mem_nil⟩⟩⟩⟩⟩
theorem d_201_0 : decode prog_15_method_80_code 0 = .ok (.aload_n 0, 1) := by decide +kernel
theorem d_201_1 : decode prog_15_method_80_code 1 = .ok (.invokevirtual 492, 3) := by decide +kernel
theorem d_201_4 : decode prog_15_method_80_code 4 = .ok (.ifCond .eq 19, 3) := by decide +kernel
theorem d_201_7 : decode prog_15_method_80_code 7 = .ok (.aload_n 0, 1) := by decide +kernel
theorem d_201_8 : decode prog_15_method_80_code 8 = .ok (.getfield 9, 3) := by decide +kernel
theorem d_201_11 : decode prog_15_method_80_code 11 = .ok (.iload_n 1, 1) := by decide +kernel
theorem d_201_12 : decode prog_15_method_80_code 12 = .ok (.iload_n 2, 1) := by decide +kernel
theorem d_201_13 : decode prog_15_method_80_code 13 = .ok (.aload_n 0, 1) := by decide +kernel
theorem d_201_14 : decode prog_15_method_80_code 14 = .ok (.invokevirtual 505, 3) := by decide +kernel
theorem d_201_17 : decode prog_15_method_80_code 17 = .ok (.invokestatic 637, 3) := by decide +kernel
theorem d_201_20 : decode prog_15_method_80_code 20 = .ok (.goto 16, 3) := by decide +kernel
theorem d_201_23 : decode prog_15_method_80_code 23 = .ok (.aload_n 0, 1) := by decide +kernel
theorem d_201_24 : decode prog_15_method_80_code 24 = .ok (.getfield 9, 3) := by decide +kernel
theorem d_201_27 : decode prog_15_method_80_code 27 = .ok (.iload_n 1, 1) := by decide +kernel
theorem d_201_28 : decode prog_15_method_80_code 28 = .ok (.iload_n 2, 1) := by decide +kernel
theorem d_201_29 : decode prog_15_method_80_code 29 = .ok (.aload_n 0, 1) := by decide +kernel
theorem d_201_30 : decode prog_15_method_80_code 30 = .ok (.invokevirtual 505, 3) := by decide +kernel
theorem d_201_36 : decode prog_15_method_80_code 36 = .ok (.ireturn, 1) := by decide +kernel
set_option maxRecDepth 20000 in
theorem ok_201 : ∀ r ∈ tb_201, sm_ok 201 r := List.forall_mem_cons.mpr ⟨d_201_0, List.forall_mem_cons.mpr ⟨⟨d_201_1, ⟨mo_202, mi_202, se_202, pm_214⟩⟩, List.forall_mem_cons.mpr ⟨⟨d_201_4, (by decide)⟩, List.forall_mem_cons.mpr ⟨d_201_7, List.forall_mem_cons.mpr ⟨⟨d_201_8, Or.inr ⟨rfl, fun _ => wd_468, fun h => absurd h (by decide)⟩⟩, List.forall_mem_cons.mpr ⟨d_201_11, List.forall_mem_cons.mpr ⟨d_201_12, List.forall_mem_cons.mpr ⟨d_201_13, List.forall_mem_cons.mpr ⟨⟨d_201_14, ⟨mo_203, mi_203, se_203, pm_217⟩⟩, List.forall_mem_cons.mpr ⟨⟨d_201_17, (Or.inl ⟨Nat.le_of_ble_eq_true rfl, mo_207, ms_207, pm_218⟩)⟩, List.forall_mem_cons.mpr ⟨⟨d_201_20, (by decide)⟩, List.forall_mem_cons.mpr ⟨d_201_23, List.forall_mem_cons.mpr ⟨⟨d_201_24, Or.inr ⟨rfl, fun _ => wd_468, fun h => absurd h (by decide)⟩⟩, List.forall_mem_cons.mpr ⟨d_201_27, List.forall_mem_cons.mpr ⟨d_201_28, List.forall_mem_cons.mpr ⟨d_201_29, List.forall_mem_cons.mpr ⟨⟨d_201_30, ⟨mo_203, mi_203, se_203, pm_217⟩⟩, List.forall_mem_cons.mpr ⟨d_201_36, fun _ h => absurd h List.not_mem_nil⟩⟩⟩⟩⟩⟩⟩⟩⟩⟩⟩⟩⟩⟩⟩⟩⟩⟩
theorem d_202_0 : decode prog_15_method_154_code 0 = .ok (.getstatic 38, 3) := by decide +kernel
theorem d_202_3 : decode prog_15_method_154_code 3 = .ok (.ifCond .eq 14, 3) := by decide +kernel
theorem d_202_6 : decode prog_15_method_154_code 6 = .ok (.aload_n 0, 1) := by decide +kernel
theorem d_202_7 : decode prog_15_method_154_code 7 = .ok (.getfield 15, 3) := by decide +kernel
theorem d_202_10 : decode prog_15_method_154_code 10 = .ok (.ifCond .ne 7, 3) := by decide +kernel
theorem d_202_13 : decode prog_15_method_154_code 13 = .ok (.iconst 1, 1) := by decide +kernel
theorem d_202_14 : decode prog_15_method_154_code 14 = .ok (.goto 4, 3) := by decide +kernel
theorem d_202_17 : decode prog_15_method_154_code 17 = .ok (.iconst 0, 1) := by decide +kernel
theorem d_202_18 : decode prog_15_method_154_code 18 = .ok (.ireturn, 1) := by decide +kernel
set_option maxRecDepth 20000 in
theorem ok_202 : ∀ r ∈ tb_202, sm_ok 202 r := List.forall_mem_cons.mpr ⟨⟨d_202_0, ⟨fun _ => wd_470, fun h => absurd h (by decide)⟩⟩, List.forall_mem_cons.mpr ⟨⟨d_202_3, (by decide)⟩, List.forall_mem_cons.mpr ⟨d_202_6, List.forall_mem_cons.mpr ⟨⟨d_202_7, Or.inr ⟨rfl, fun h => absurd h (by decide), fun _ => wd_471⟩⟩, List.forall_mem_cons.mpr ⟨⟨d_202_10, (by decide)⟩, List.forall_mem_cons.mpr ⟨d_202_13, List.forall_mem_cons.mpr ⟨⟨d_202_14, (by decide)⟩, List.forall_mem_cons.mpr ⟨d_202_17, List.forall_mem_cons.mpr ⟨d_202_18, fun _ h => absurd h List.not_mem_nil⟩⟩⟩⟩⟩⟩⟩⟩⟩
theorem d_203_0 : decode prog_15_method_54_code 0 = .ok (.aload_n 0, 1) := by decide +kernel
theorem d_203_1 : decode prog_15_method_54_code 1 = .ok (.getfield 9, 3) := by decide +kernel
theorem d_203_4 : decode prog_15_method_54_code 4 = .ok (.arraylength, 1) := by decide +kernel
theorem d_203_5 : decode prog_15_method_54_code 5 = .ok (.aload_n 0, 1) := by decide +kernel
theorem d_203_6 : decode prog_15_method_54_code 6 = .ok (.invokevirtual 335, 3) := by decide +kernel
theorem d_203_9 : decode prog_15_method_54_code 9 = .ok (.ishr, 1) := by decide +kernel
theorem d_203_10 : decode prog_15_method_54_code 10 = .ok (.ireturn, 1) := by decide +kernel
set_option maxRecDepth 20000 in
theorem ok_203 : ∀ r ∈ tb_203, sm_ok 203 r := List.forall_mem_cons.mpr ⟨d_203_0, List.forall_mem_cons.mpr ⟨⟨d_203_1, Or.inr ⟨rfl, fun _ => wd_468, fun h => absurd h (by decide)⟩⟩, List.forall_mem_cons.mpr ⟨d_203_4, List.forall_mem_cons.mpr ⟨d_203_5, List.forall_mem_cons.mpr ⟨⟨d_203_6, ⟨mo_199, mi_199, se_199, pm_219⟩⟩, List.forall_mem_cons.mpr ⟨d_203_9, List.forall_mem_cons.mpr ⟨d_203_10, fun _ h => absurd h List.not_mem_nil⟩⟩⟩⟩⟩⟩⟩
theorem d_204_0 : decode prog_15_method_155_code 0 = .ok (.iload_n 0, 1) := by decide +kernel
theorem d_204_1 : decode prog_15_method_155_code 1 = .ok (.iload_n 1, 1) := by decide +kernel
theorem d_204_2 : decode prog_15_method_155_code 2 = .ok (.getstatic 1053, 3) := by decide +kernel
theorem d_204_5 : decode prog_15_method_155_code 5 = .ok (.invokestatic 1059, 3) := by decide +kernel
theorem d_204_8 : decode prog_15_method_155_code 8 = .ok (.pop, 1) := by decide +kernel
theorem d_204_9 : decode prog_15_method_155_code 9 = .ok (.return_, 1) := by decide +kernel
set_option maxRecDepth 20000 in
theorem ok_204 : ∀ r ∈ tb_204, sm_ok 204 r := List.forall_mem_cons.mpr ⟨d_204_0, List.forall_mem_cons.mpr ⟨d_204_1, List.forall_mem_cons.mpr ⟨⟨d_204_2, ⟨fun h => absurd h (by decide), fun _ => wd_476⟩⟩, List.forall_mem_cons.mpr ⟨⟨d_204_5, (Or.inl ⟨Nat.le_of_ble_eq_true rfl, mo_209, ms_209, pm_220⟩)⟩, List.forall_mem_cons.mpr ⟨d_204_8, List.forall_mem_cons.mpr ⟨d_204_9, fun _ h => absurd h List.not_mem_nil⟩⟩⟩⟩⟩⟩
theorem d_205_0 : decode prog_16_method_4_code 0 = .ok (.iload_n 0, 1) := by decide +kernel
theorem d_205_1 : decode prog_16_method_4_code 1 = .ok (.ifCond .lt 14, 3) := by decide +kernel
theorem d_205_4 : decode prog_16_method_4_code 4 = .ok (.iload_n 0, 1) := by decide +kernel
theorem d_205_5 : decode prog_16_method_4_code 5 = .ok (.sipush 255, 3) := by decide +kernel
theorem d_205_8 : decode prog_16_method_4_code 8 = .ok (.if_icmp .gt 7, 3) := by decide +kernel
theorem d_205_11 : decode prog_16_method_4_code 11 = .ok (.iconst 1, 1) := by decide +kernel
theorem d_205_12 : decode prog_16_method_4_code 12 = .ok (.goto 4, 3) := by decide +kernel
theorem d_205_15 : decode prog_16_method_4_code 15 = .ok (.iconst 0, 1) := by decide +kernel
theorem d_205_16 : decode prog_16_method_4_code 16 = .ok (.ireturn, 1) := by decide +kernel
set_option maxRecDepth 20000 in
theorem ok_205 : ∀ r ∈ tb_205, sm_ok 205 r := List.forall_mem_cons.mpr ⟨d_205_0, List.forall_mem_cons.mpr ⟨⟨d_205_1, (by decide)⟩, List.forall_mem_cons.mpr ⟨d_205_4, List.forall_mem_cons.mpr ⟨d_205_5, List.forall_mem_cons.mpr ⟨⟨d_205_8, (by decide)⟩, List.forall_mem_cons.mpr ⟨d_205_11, List.forall_mem_cons.mpr ⟨⟨d_205_12, (by decide)⟩, List.forall_mem_cons.mpr ⟨d_205_15, List.forall_mem_cons.mpr ⟨d_205_16, fun _ h => absurd h List.not_mem_nil⟩⟩⟩⟩⟩⟩⟩⟩⟩
theorem d_206_0 : decode prog_16_method_2_code 0 = .ok (.iload_n 1, 1) := by decide +kernel
theorem d_206_1 : decode prog_16_method_2_code 1 = .ok (.aload_n 0, 1) := by decide +kernel
theorem d_206_2 : decode prog_16_method_2_code 2 = .ok (.arraylength, 1) := by decide +kernel
theorem d_206_3 : decode prog_16_method_2_code 3 = .ok (.invokestatic 9, 3) := by decide +kernel
theorem d_206_6 : decode prog_16_method_2_code 6 = .ok (.aload_n 0, 1) := by decide +kernel
theorem d_206_7 : decode prog_16_method_2_code 7 = .ok (.iload_n 1, 1) := by decide +kernel
theorem d_206_8 : decode prog_16_method_2_code 8 = .ok (.baload, 1) := by decide +kernel
theorem d_206_9 : decode prog_16_method_2_code 9 = .ok (.sipush 255, 3) := by decide +kernel
theorem d_206_12 : decode prog_16_method_2_code 12 = .ok (.iand, 1) := by decide +kernel
theorem d_206_13 : decode prog_16_method_2_code 13 = .ok (.i2c, 1) := by decide +kernel
theorem d_206_14 : decode prog_16_method_2_code 14 = .ok (.ireturn, 1) := by decide +kernel
set_option maxRecDepth 20000 in
theorem ok_206 : ∀ r ∈ tb_206, sm_ok 206 r := List.forall_mem_cons.mpr ⟨d_206_0, List.forall_mem_cons.mpr ⟨d_206_1, List.forall_mem_cons.mpr ⟨d_206_2, List.forall_mem_cons.mpr ⟨⟨d_206_3, (Or.inl ⟨Nat.le_of_ble_eq_true rfl, mo_204, ms_204, pm_221⟩)⟩, List.forall_mem_cons.mpr ⟨d_206_6, List.forall_mem_cons.mpr ⟨d_206_7, List.forall_mem_cons.mpr ⟨d_206_8, List.forall_mem_cons.mpr ⟨d_206_9, List.forall_mem_cons.mpr ⟨d_206_12, List.forall_mem_cons.mpr ⟨d_206_13, List.forall_mem_cons.mpr ⟨d_206_14, fun _ h => absurd h List.not_mem_nil⟩⟩⟩⟩⟩⟩⟩⟩⟩⟩⟩
theorem d_207_0 : decode prog_16_method_22_code 0 = .ok (.iload_n 1, 1) := by decide +kernel
theorem d_207_1 : decode prog_16_method_22_code 1 = .ok (.invokestatic 88, 3) := by decide +kernel
theorem d_207_4 : decode prog_16_method_22_code 4 = .ok (.ifCond .ne 5, 3) := by decide +kernel
theorem d_207_7 : decode prog_16_method_22_code 7 = .ok (.iconst (-1), 1) := by decide +kernel
theorem d_207_8 : decode prog_16_method_22_code 8 = .ok (.ireturn, 1) := by decide +kernel
theorem d_207_9 : decode prog_16_method_22_code 9 = .ok (.iload_n 2, 1) := by decide +kernel
theorem d_207_10 : decode prog_16_method_22_code 10 = .ok (.iconst 0, 1) := by decide +kernel
theorem d_207_11 : decode prog_16_method_22_code 11 = .ok (.invokestatic 92, 3) := by decide +kernel
theorem d_207_14 : decode prog_16_method_22_code 14 = .ok (.istore_n 2, 1) := by decide +kernel
theorem d_207_15 : decode prog_16_method_22_code 15 = .ok (.iload_n 3, 1) := by decide +kernel
theorem d_207_16 : decode prog_16_method_22_code 16 = .ok (.aload_n 0, 1) := by decide +kernel
theorem d_207_17 : decode prog_16_method_22_code 17 = .ok (.arraylength, 1) := by decide +kernel
theorem d_207_18 : decode prog_16_method_22_code 18 = .ok (.invokestatic 38, 3) := by decide +kernel
theorem d_207_21 : decode prog_16_method_22_code 21 = .ok (.istore_n 3, 1) := by decide +kernel
theorem d_207_22 : decode prog_16_method_22_code 22 = .ok (.iload_n 2, 1) := by decide +kernel
theorem d_207_23 : decode prog_16_method_22_code 23 = .ok (.iload_n 3, 1) := by decide +kernel
theorem d_207_24 : decode prog_16_method_22_code 24 = .ok (.if_icmp .lt 5, 3) := by decide +kernel
theorem d_207_27 : decode prog_16_method_22_code 27 = .ok (.iconst (-1), 1) := by decide +kernel
theorem d_207_28 : decode prog_16_method_22_code 28 = .ok (.ireturn, 1) := by decide +kernel
theorem d_207_29 : decode prog_16_method_22_code 29 = .ok (.aload_n 0, 1) := by decide +kernel
theorem d_207_30 : decode prog_16_method_22_code 30 = .ok (.iload_n 1, 1) := by decide +kernel
theorem d_207_31 : decode prog_16_method_22_code 31 = .ok (.iload_n 2, 1) := by decide +kernel
theorem d_207_32 : decode prog_16_method_22_code 32 = .ok (.iload_n 3, 1) := by decide +kernel
theorem d_207_33 : decode prog_16_method_22_code 33 = .ok (.invokestatic 95, 3) := by decide +kernel
theorem d_207_36 : decode prog_16_method_22_code 36 = .ok (.ireturn, 1) := by decide +kernel
set_option maxRecDepth 20000 in
theorem ok_207 : ∀ r ∈ tb_207, sm_ok 207 r := List.forall_mem_cons.mpr ⟨d_207_0, List.forall_mem_cons.mpr ⟨⟨d_207_1, (Or.inl ⟨Nat.le_of_ble_eq_true rfl, mo_205, ms_205, pm_222⟩)⟩, List.forall_mem_cons.mpr ⟨⟨d_207_4, (by decide)⟩, List.forall_mem_cons.mpr ⟨d_207_7, List.forall_mem_cons.mpr ⟨d_207_8, List.forall_mem_cons.mpr ⟨d_207_9, List.forall_mem_cons.mpr ⟨d_207_10, List.forall_mem_cons.mpr ⟨⟨d_207_11, (Or.inr ((Or.inr ((Or.inr (Or.inl ⟨rfl, wd_480, wd_147, wd_116, wd_148⟩))))))⟩, List.forall_mem_cons.mpr ⟨d_207_14, List.forall_mem_cons.mpr ⟨d_207_15, List.forall_mem_cons.mpr ⟨d_207_16, List.forall_mem_cons.mpr ⟨d_207_17, List.forall_mem_cons.mpr ⟨⟨d_207_18, (Or.inr ((Or.inr (Or.inl ⟨rfl, wd_481, wd_115, wd_116, wd_117⟩))))⟩, List.forall_mem_cons.mpr ⟨d_207_21, List.forall_mem_cons.mpr ⟨d_207_22, List.forall_mem_cons.mpr ⟨d_207_23, List.forall_mem_cons.mpr ⟨⟨d_207_24, (by decide)⟩, List.forall_mem_cons.mpr ⟨d_207_27, List.forall_mem_cons.mpr ⟨d_207_28, List.forall_mem_cons.mpr ⟨d_207_29, List.forall_mem_cons.mpr ⟨d_207_30, List.forall_mem_cons.mpr ⟨d_207_31, List.forall_mem_cons.mpr ⟨d_207_32, List.forall_mem_cons.mpr ⟨⟨d_207_33, (Or.inl ⟨Nat.le_of_ble_eq_true rfl, mo_208, ms_208, pm_223⟩)⟩, List.forall_mem_cons.mpr ⟨d_207_36, fun _ h => absurd h List.not_mem_nil⟩⟩⟩⟩⟩⟩⟩⟩⟩⟩⟩⟩⟩⟩⟩⟩⟩⟩⟩⟩⟩⟩⟩⟩⟩
theorem d_208_0 : decode prog_16_method_23_code 0 = .ok (.iload_n 1, 1) := by decide +kernel
theorem d_208_1 : decode prog_16_method_23_code 1 = .ok (.i2b, 1) := by decide +kernel
theorem d_208_2 : decode prog_16_method_23_code 2 = .ok (.istore 4, 2) := by decide +kernel
theorem d_208_4 : decode prog_16_method_23_code 4 = .ok (.iload_n 2, 1) := by decide +kernel
theorem d_208_5 : decode prog_16_method_23_code 5 = .ok (.istore 5, 2) := by decide +kernel
theorem d_208_7 : decode prog_16_method_23_code 7 = .ok (.iload 5, 2) := by decide +kernel
theorem d_208_9 : decode prog_16_method_23_code 9 = .ok (.iload_n 3, 1) := by decide +kernel
theorem d_208_10 : decode prog_16_method_23_code 10 = .ok (.if_icmp .ge 21, 3) := by decide +kernel
theorem d_208_13 : decode prog_16_method_23_code 13 = .ok (.aload_n 0, 1) := by decide +kernel
theorem d_208_14 : decode prog_16_method_23_code 14 = .ok (.iload 5, 2) := by decide +kernel
theorem d_208_16 : decode prog_16_method_23_code 16 = .ok (.baload, 1) := by decide +kernel
theorem d_208_17 : decode prog_16_method_23_code 17 = .ok (.iload 4, 2) := by decide +kernel
theorem d_208_19 : decode prog_16_method_23_code 19 = .ok (.if_icmp .ne 6, 3) := by decide +kernel
theorem d_208_22 : decode prog_16_method_23_code 22 = .ok (.iload 5, 2) := by decide +kernel
theorem d_208_24 : decode prog_16_method_23_code 24 = .ok (.ireturn, 1) := by decide +kernel
theorem d_208_25 : decode prog_16_method_23_code 25 = .ok (.iinc 5 1, 3) := by decide +kernel
theorem d_208_28 : decode prog_16_method_23_code 28 = .ok (.goto (-21), 3) := by decide +kernel
theorem d_208_31 : decode prog_16_method_23_code 31 = .ok (.iconst (-1), 1) := by decide +kernel
theorem d_208_32 : decode prog_16_method_23_code 32 = .ok (.ireturn, 1) := by decide +kernel
set_option maxRecDepth 20000 in
theorem ok_208 : ∀ r ∈ tb_208, sm_ok 208 r := List.forall_mem_cons.mpr ⟨d_208_0, List.forall_mem_cons.mpr ⟨d_208_1, List.forall_mem_cons.mpr ⟨d_208_2, List.forall_mem_cons.mpr ⟨d_208_4, List.forall_mem_cons.mpr ⟨d_208_5, List.forall_mem_cons.mpr ⟨d_208_7, List.forall_mem_cons.mpr ⟨d_208_9, List.forall_mem_cons.mpr ⟨⟨d_208_10, (by decide)⟩, List.forall_mem_cons.mpr ⟨d_208_13, List.forall_mem_cons.mpr ⟨d_208_14, List.forall_mem_cons.mpr ⟨d_208_16, List.forall_mem_cons.mpr ⟨d_208_17, List.forall_mem_cons.mpr ⟨⟨d_208_19, (by decide)⟩, List.forall_mem_cons.mpr ⟨d_208_22, List.forall_mem_cons.mpr ⟨d_208_24, List.forall_mem_cons.mpr ⟨d_208_25, List.forall_mem_cons.mpr ⟨⟨d_208_28, (by decide)⟩, List.forall_mem_cons.mpr ⟨d_208_31, List.forall_mem_cons.mpr ⟨d_208_32, fun _ h => absurd h List.not_mem_nil⟩⟩⟩⟩⟩⟩⟩⟩⟩⟩⟩⟩⟩⟩⟩⟩⟩⟩⟩
