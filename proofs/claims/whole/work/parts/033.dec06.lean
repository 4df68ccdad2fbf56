/-! DECODE ROWS, by program -/
theorem d_157_0 : decode prog_12_method_27_code 0 = .ok (.aload_n 0, 1) := by decide +kernel
theorem d_157_1 : decode prog_12_method_27_code 1 = .ok (.iconst 1, 1) := by decide +kernel
theorem d_157_2 : decode prog_12_method_27_code 2 = .ok (.putfield 200, 3) := by decide +kernel
theorem d_157_5 : decode prog_12_method_27_code 5 = .ok (.aload_n 0, 1) := by decide +kernel
theorem d_157_6 : decode prog_12_method_27_code 6 = .ok (.aload_n 0, 1) := by decide +kernel
theorem d_157_7 : decode prog_12_method_27_code 7 = .ok (.getfield 123, 3) := by decide +kernel
theorem d_157_10 : decode prog_12_method_27_code 10 = .ok (.putfield 203, 3) := by decide +kernel
theorem d_157_13 : decode prog_12_method_27_code 13 = .ok (.iconst 1, 1) := by decide +kernel
theorem d_157_14 : decode prog_12_method_27_code 14 = .ok (.istore_n 1, 1) := by decide +kernel
theorem d_157_15 : decode prog_12_method_27_code 15 = .ok (.iconst 1, 1) := by decide +kernel
theorem d_157_16 : decode prog_12_method_27_code 16 = .ok (.istore_n 2, 1) := by decide +kernel
theorem d_157_17 : decode prog_12_method_27_code 17 = .ok (.iload_n 1, 1) := by decide +kernel
theorem d_157_18 : decode prog_12_method_27_code 18 = .ok (.ifCond .eq 61, 3) := by decide +kernel
theorem d_157_21 : decode prog_12_method_27_code 21 = .ok (.aload_n 0, 1) := by decide +kernel
theorem d_157_22 : decode prog_12_method_27_code 22 = .ok (.getfield 105, 3) := by decide +kernel
theorem d_157_25 : decode prog_12_method_27_code 25 = .ok (.ifCond .ne 54, 3) := by decide +kernel
theorem d_157_28 : decode prog_12_method_27_code 28 = .ok (.iload_n 2, 1) := by decide +kernel
theorem d_157_29 : decode prog_12_method_27_code 29 = .ok (.ifCond .eq 32, 3) := by decide +kernel
theorem d_157_32 : decode prog_12_method_27_code 32 = .ok (.aload_n 0, 1) := by decide +kernel
theorem d_157_33 : decode prog_12_method_27_code 33 = .ok (.aload_n 0, 1) := by decide +kernel
theorem d_157_34 : decode prog_12_method_27_code 34 = .ok (.getfield 129, 3) := by decide +kernel
theorem d_157_37 : decode prog_12_method_27_code 37 = .ok (.ifCond .ne 10, 3) := by decide +kernel
theorem d_157_40 : decode prog_12_method_27_code 40 = .ok (.aload_n 0, 1) := by decide +kernel
theorem d_157_41 : decode prog_12_method_27_code 41 = .ok (.getfield 123, 3) := by decide +kernel
theorem d_157_44 : decode prog_12_method_27_code 44 = .ok (.goto 7, 3) := by decide +kernel
theorem d_157_47 : decode prog_12_method_27_code 47 = .ok (.aload_n 0, 1) := by decide +kernel
theorem d_157_48 : decode prog_12_method_27_code 48 = .ok (.getfield 182, 3) := by decide +kernel
theorem d_157_51 : decode prog_12_method_27_code 51 = .ok (.putfield 182, 3) := by decide +kernel
theorem d_157_54 : decode prog_12_method_27_code 54 = .ok (.aload_n 0, 1) := by decide +kernel
theorem d_157_55 : decode prog_12_method_27_code 55 = .ok (.invokevirtual 206, 3) := by decide +kernel
theorem d_157_58 : decode prog_12_method_27_code 58 = .ok (.goto 13, 3) := by decide +kernel
theorem d_157_61 : decode prog_12_method_27_code 61 = .ok (.aload_n 0, 1) := by decide +kernel
theorem d_157_62 : decode prog_12_method_27_code 62 = .ok (.iconst 0, 1) := by decide +kernel
theorem d_157_63 : decode prog_12_method_27_code 63 = .ok (.putfield 143, 3) := by decide +kernel
theorem d_157_66 : decode prog_12_method_27_code 66 = .ok (.aload_n 0, 1) := by decide +kernel
theorem d_157_67 : decode prog_12_method_27_code 67 = .ok (.invokevirtual 209, 3) := by decide +kernel
theorem d_157_70 : decode prog_12_method_27_code 70 = .ok (.istore_n 1, 1) := by decide +kernel
theorem d_157_71 : decode prog_12_method_27_code 71 = .ok (.aload_n 0, 1) := by decide +kernel
theorem d_157_72 : decode prog_12_method_27_code 72 = .ok (.getfield 143, 3) := by decide +kernel
theorem d_157_75 : decode prog_12_method_27_code 75 = .ok (.istore_n 2, 1) := by decide +kernel
theorem d_157_76 : decode prog_12_method_27_code 76 = .ok (.goto (-59), 3) := by decide +kernel
theorem d_157_79 : decode prog_12_method_27_code 79 = .ok (.aload_n 0, 1) := by decide +kernel
theorem d_157_80 : decode prog_12_method_27_code 80 = .ok (.getfield 173, 3) := by decide +kernel
theorem d_157_83 : decode prog_12_method_27_code 83 = .ok (.ifCond .le 42, 3) := by decide +kernel
theorem d_157_86 : decode prog_12_method_27_code 86 = .ok (.aload_n 0, 1) := by decide +kernel
theorem d_157_87 : decode prog_12_method_27_code 87 = .ok (.aload_n 0, 1) := by decide +kernel
theorem d_157_88 : decode prog_12_method_27_code 88 = .ok (.getfield 105, 3) := by decide +kernel
theorem d_157_91 : decode prog_12_method_27_code 91 = .ok (.ifCond .ne 19, 3) := by decide +kernel
theorem d_157_94 : decode prog_12_method_27_code 94 = .ok (.aload_n 0, 1) := by decide +kernel
theorem d_157_95 : decode prog_12_method_27_code 95 = .ok (.getfield 29, 3) := by decide +kernel
theorem d_157_98 : decode prog_12_method_27_code 98 = .ok (.aload_n 0, 1) := by decide +kernel
theorem d_157_99 : decode prog_12_method_27_code 99 = .ok (.getfield 173, 3) := by decide +kernel
theorem d_157_102 : decode prog_12_method_27_code 102 = .ok (.iconst 1, 1) := by decide +kernel
theorem d_157_103 : decode prog_12_method_27_code 103 = .ok (.isub, 1) := by decide +kernel
theorem d_157_104 : decode prog_12_method_27_code 104 = .ok (.iaload, 1) := by decide +kernel
theorem d_157_105 : decode prog_12_method_27_code 105 = .ok (.bipush 16, 2) := by decide +kernel
theorem d_157_107 : decode prog_12_method_27_code 107 = .ok (.if_icmp .ne 7, 3) := by decide +kernel
theorem d_157_110 : decode prog_12_method_27_code 110 = .ok (.iconst 1, 1) := by decide +kernel
theorem d_157_111 : decode prog_12_method_27_code 111 = .ok (.goto 4, 3) := by decide +kernel
theorem d_157_114 : decode prog_12_method_27_code 114 = .ok (.iconst 0, 1) := by decide +kernel
theorem d_157_115 : decode prog_12_method_27_code 115 = .ok (.putfield 105, 3) := by decide +kernel
theorem d_157_118 : decode prog_12_method_27_code 118 = .ok (.aload_n 0, 1) := by decide +kernel
theorem d_157_119 : decode prog_12_method_27_code 119 = .ok (.invokevirtual 176, 3) := by decide +kernel
theorem d_157_122 : decode prog_12_method_27_code 122 = .ok (.goto (-43), 3) := by decide +kernel
theorem d_157_125 : decode prog_12_method_27_code 125 = .ok (.aload_n 0, 1) := by decide +kernel
theorem d_157_126 : decode prog_12_method_27_code 126 = .ok (.iconst 0, 1) := by decide +kernel
theorem d_157_127 : decode prog_12_method_27_code 127 = .ok (.putfield 129, 3) := by decide +kernel
theorem d_157_130 : decode prog_12_method_27_code 130 = .ok (.aload_n 0, 1) := by decide +kernel
theorem d_157_131 : decode prog_12_method_27_code 131 = .ok (.aload_n 0, 1) := by decide +kernel
theorem d_157_132 : decode prog_12_method_27_code 132 = .ok (.getfield 123, 3) := by decide +kernel
theorem d_157_135 : decode prog_12_method_27_code 135 = .ok (.putfield 212, 3) := by decide +kernel
theorem d_157_138 : decode prog_12_method_27_code 138 = .ok (.aload_n 0, 1) := by decide +kernel
theorem d_157_139 : decode prog_12_method_27_code 139 = .ok (.getfield 197, 3) := by decide +kernel
theorem d_157_142 : decode prog_12_method_27_code 142 = .ok (.ifCond .eq 35, 3) := by decide +kernel
theorem d_157_145 : decode prog_12_method_27_code 145 = .ok (.aload_n 0, 1) := by decide +kernel
theorem d_157_146 : decode prog_12_method_27_code 146 = .ok (.iconst 1, 1) := by decide +kernel
theorem d_157_147 : decode prog_12_method_27_code 147 = .ok (.putfield 179, 3) := by decide +kernel
theorem d_157_150 : decode prog_12_method_27_code 150 = .ok (.aload_n 0, 1) := by decide +kernel
theorem d_157_151 : decode prog_12_method_27_code 151 = .ok (.getfield 41, 3) := by decide +kernel
theorem d_157_154 : decode prog_12_method_27_code 154 = .ok (.iconst 0, 1) := by decide +kernel
theorem d_157_155 : decode prog_12_method_27_code 155 = .ok (.aload_n 0, 1) := by decide +kernel
theorem d_157_156 : decode prog_12_method_27_code 156 = .ok (.getfield 203, 3) := by decide +kernel
theorem d_157_159 : decode prog_12_method_27_code 159 = .ok (.iastore, 1) := by decide +kernel
theorem d_157_160 : decode prog_12_method_27_code 160 = .ok (.aload_n 0, 1) := by decide +kernel
theorem d_157_161 : decode prog_12_method_27_code 161 = .ok (.getfield 44, 3) := by decide +kernel
theorem d_157_164 : decode prog_12_method_27_code 164 = .ok (.iconst 0, 1) := by decide +kernel
theorem d_157_165 : decode prog_12_method_27_code 165 = .ok (.aload_n 0, 1) := by decide +kernel
theorem d_157_166 : decode prog_12_method_27_code 166 = .ok (.getfield 212, 3) := by decide +kernel
theorem d_157_169 : decode prog_12_method_27_code 169 = .ok (.iastore, 1) := by decide +kernel
theorem d_157_170 : decode prog_12_method_27_code 170 = .ok (.aload_n 0, 1) := by decide +kernel
theorem d_157_171 : decode prog_12_method_27_code 171 = .ok (.getfield 47, 3) := by decide +kernel
theorem d_157_174 : decode prog_12_method_27_code 174 = .ok (.iconst 0, 1) := by decide +kernel
theorem d_157_175 : decode prog_12_method_27_code 175 = .ok (.iconst (-1), 1) := by decide +kernel
theorem d_157_176 : decode prog_12_method_27_code 176 = .ok (.iastore, 1) := by decide +kernel
theorem d_157_177 : decode prog_12_method_27_code 177 = .ok (.return_, 1) := by decide +kernel
set_option maxRecDepth 20000 in
theorem ok_157 : ∀ r ∈ tb_157, sm_ok 157 r := List.forall_mem_cons.mpr ⟨d_157_0, List.forall_mem_cons.mpr ⟨d_157_1, List.forall_mem_cons.mpr ⟨⟨d_157_2, pf_269⟩, List.forall_mem_cons.mpr ⟨d_157_5, List.forall_mem_cons.mpr ⟨d_157_6, List.forall_mem_cons.mpr ⟨⟨d_157_7, Or.inl pf_244⟩, List.forall_mem_cons.mpr ⟨⟨d_157_10, pf_270⟩, List.forall_mem_cons.mpr ⟨d_157_13, List.forall_mem_cons.mpr ⟨d_157_14, List.forall_mem_cons.mpr ⟨d_157_15, List.forall_mem_cons.mpr ⟨d_157_16, List.forall_mem_cons.mpr ⟨d_157_17, List.forall_mem_cons.mpr ⟨⟨d_157_18, (by decide)⟩, List.forall_mem_cons.mpr ⟨d_157_21, List.forall_mem_cons.mpr ⟨⟨d_157_22, Or.inl pf_236⟩, List.forall_mem_cons.mpr ⟨⟨d_157_25, (by decide)⟩, List.forall_mem_cons.mpr ⟨d_157_28, List.forall_mem_cons.mpr ⟨⟨d_157_29, (by decide)⟩, List.forall_mem_cons.mpr ⟨d_157_32, List.forall_mem_cons.mpr ⟨d_157_33, List.forall_mem_cons.mpr ⟨⟨d_157_34, Or.inl pf_248⟩, List.forall_mem_cons.mpr ⟨⟨d_157_37, (by decide)⟩, List.forall_mem_cons.mpr ⟨d_157_40, List.forall_mem_cons.mpr ⟨⟨d_157_41, Or.inl pf_244⟩, List.forall_mem_cons.mpr ⟨⟨d_157_44, (by decide)⟩, List.forall_mem_cons.mpr ⟨d_157_47, List.forall_mem_cons.mpr ⟨⟨d_157_48, Or.inl pf_261⟩, List.forall_mem_cons.mpr ⟨⟨d_157_51, pf_271⟩, List.forall_mem_cons.mpr ⟨d_157_54, List.forall_mem_cons.mpr ⟨⟨d_157_55, ⟨mo_155, mi_155, se_155, pm_181⟩⟩, List.forall_mem_cons.mpr ⟨⟨d_157_58, (by decide)⟩, List.forall_mem_cons.mpr ⟨d_157_61, List.forall_mem_cons.mpr ⟨d_157_62, List.forall_mem_cons.mpr ⟨⟨d_157_63, pf_253⟩, List.forall_mem_cons.mpr ⟨d_157_66, List.forall_mem_cons.mpr ⟨⟨d_157_67, ⟨mo_156, mi_156, se_156, pm_182⟩⟩, List.forall_mem_cons.mpr ⟨d_157_70, List.forall_mem_cons.mpr ⟨d_157_71, List.forall_mem_cons.mpr ⟨⟨d_157_72, Or.inl pf_254⟩, List.forall_mem_cons.mpr ⟨d_157_75, List.forall_mem_cons.mpr ⟨⟨d_157_76, (by decide)⟩, List.forall_mem_cons.mpr ⟨d_157_79, List.forall_mem_cons.mpr ⟨⟨d_157_80, Or.inl pf_255⟩, List.forall_mem_cons.mpr ⟨⟨d_157_83, (by decide)⟩, List.forall_mem_cons.mpr ⟨d_157_86, List.forall_mem_cons.mpr ⟨d_157_87, List.forall_mem_cons.mpr ⟨⟨d_157_88, Or.inl pf_236⟩, List.forall_mem_cons.mpr ⟨⟨d_157_91, (by decide)⟩, List.forall_mem_cons.mpr ⟨d_157_94, List.forall_mem_cons.mpr ⟨⟨d_157_95, Or.inl pf_257⟩, List.forall_mem_cons.mpr ⟨d_157_98, List.forall_mem_cons.mpr ⟨⟨d_157_99, Or.inl pf_255⟩, List.forall_mem_cons.mpr ⟨d_157_102, List.forall_mem_cons.mpr ⟨d_157_103, List.forall_mem_cons.mpr ⟨d_157_104, List.forall_mem_cons.mpr ⟨d_157_105, List.forall_mem_cons.mpr ⟨⟨d_157_107, (by decide)⟩, List.forall_mem_cons.mpr ⟨d_157_110, List.forall_mem_cons.mpr ⟨⟨d_157_111, (by decide)⟩, List.forall_mem_cons.mpr ⟨d_157_114, List.forall_mem_cons.mpr ⟨⟨d_157_115, pf_237⟩, List.forall_mem_cons.mpr ⟨d_157_118, List.forall_mem_cons.mpr ⟨⟨d_157_119, ⟨mo_152, mi_152, se_152, pm_177⟩⟩, List.forall_mem_cons.mpr ⟨⟨d_157_122, (by decide)⟩, List.forall_mem_cons.mpr ⟨d_157_125, List.forall_mem_cons.mpr ⟨d_157_126, List.forall_mem_cons.mpr ⟨⟨d_157_127, pf_258⟩, List.forall_mem_cons.mpr ⟨d_157_130, List.forall_mem_cons.mpr ⟨d_157_131, List.forall_mem_cons.mpr ⟨⟨d_157_132, Or.inl pf_244⟩, List.forall_mem_cons.mpr ⟨⟨d_157_135, pf_272⟩, List.forall_mem_cons.mpr ⟨d_157_138, List.forall_mem_cons.mpr ⟨⟨d_157_139, Or.inl pf_267⟩, List.forall_mem_cons.mpr ⟨⟨d_157_142, (by decide)⟩, List.forall_mem_cons.mpr ⟨d_157_145, List.forall_mem_cons.mpr ⟨d_157_146, List.forall_mem_cons.mpr ⟨⟨d_157_147, pf_265⟩, List.forall_mem_cons.mpr ⟨d_157_150, List.forall_mem_cons.mpr ⟨⟨d_157_151, Or.inl pf_259⟩, List.forall_mem_cons.mpr ⟨d_157_154, List.forall_mem_cons.mpr ⟨d_157_155, List.forall_mem_cons.mpr ⟨⟨d_157_156, Or.inl pf_273⟩, List.forall_mem_cons.mpr ⟨d_157_159, List.forall_mem_cons.mpr ⟨d_157_160, List.forall_mem_cons.mpr ⟨⟨d_157_161, Or.inl pf_262⟩, List.forall_mem_cons.mpr ⟨d_157_164, List.forall_mem_cons.mpr ⟨d_157_165, List.forall_mem_cons.mpr ⟨⟨d_157_166, Or.inl pf_274⟩, List.forall_mem_cons.mpr ⟨d_157_169, List.forall_mem_cons.mpr ⟨d_157_170, List.forall_mem_cons.mpr ⟨⟨d_157_171, Or.inl pf_263⟩, List.forall_mem_cons.mpr ⟨d_157_174, List.forall_mem_cons.mpr ⟨d_157_175, List.forall_mem_cons.mpr ⟨d_157_176, List.forall_mem_cons.mpr ⟨d_157_177, fun _ h => absurd h List.not_mem_nil⟩⟩⟩⟩⟩⟩⟩⟩⟩⟩⟩⟩⟩⟩⟩⟩⟩⟩⟩⟩⟩⟩⟩⟩⟩⟩⟩⟩⟩⟩⟩⟩⟩⟩⟩⟩⟩⟩⟩⟩⟩⟩⟩⟩⟩⟩⟩⟩⟩⟩⟩⟩⟩⟩⟩⟩⟩⟩⟩⟩⟩⟩⟩⟩⟩⟩⟩⟩⟩⟩⟩⟩⟩⟩⟩⟩⟩⟩⟩⟩⟩⟩⟩⟩⟩⟩⟩⟩⟩⟩⟩⟩⟩⟩⟩
theorem d_158_0 : decode prog_12_method_28_code 0 = .ok (.aload_n 0, 1) := by decide +kernel
theorem d_158_1 : decode prog_12_method_28_code 1 = .ok (.getfield 123, 3) := by decide +kernel
theorem d_158_4 : decode prog_12_method_28_code 4 = .ok (.istore_n 1, 1) := by decide +kernel
theorem d_158_5 : decode prog_12_method_28_code 5 = .ok (.aload_n 0, 1) := by decide +kernel
theorem d_158_6 : decode prog_12_method_28_code 6 = .ok (.invokevirtual 191, 3) := by decide +kernel
theorem d_158_9 : decode prog_12_method_28_code 9 = .ok (.aload_n 0, 1) := by decide +kernel
theorem d_158_10 : decode prog_12_method_28_code 10 = .ok (.getfield 215, 3) := by decide +kernel
theorem d_158_13 : decode prog_12_method_28_code 13 = .ok (.iconst 4, 1) := by decide +kernel
theorem d_158_14 : decode prog_12_method_28_code 14 = .ok (.if_icmp .ge 26, 3) := by decide +kernel
theorem d_158_17 : decode prog_12_method_28_code 17 = .ok (.aload_n 0, 1) := by decide +kernel
theorem d_158_18 : decode prog_12_method_28_code 18 = .ok (.getfield 35, 3) := by decide +kernel
theorem d_158_21 : decode prog_12_method_28_code 21 = .ok (.aload_n 0, 1) := by decide +kernel
theorem d_158_22 : decode prog_12_method_28_code 22 = .ok (.getfield 215, 3) := by decide +kernel
theorem d_158_25 : decode prog_12_method_28_code 25 = .ok (.iload_n 1, 1) := by decide +kernel
theorem d_158_26 : decode prog_12_method_28_code 26 = .ok (.iastore, 1) := by decide +kernel
theorem d_158_27 : decode prog_12_method_28_code 27 = .ok (.aload_n 0, 1) := by decide +kernel
theorem d_158_28 : decode prog_12_method_28_code 28 = .ok (.getfield 38, 3) := by decide +kernel
theorem d_158_31 : decode prog_12_method_28_code 31 = .ok (.aload_n 0, 1) := by decide +kernel
theorem d_158_32 : decode prog_12_method_28_code 32 = .ok (.getfield 215, 3) := by decide +kernel
theorem d_158_35 : decode prog_12_method_28_code 35 = .ok (.aload_n 0, 1) := by decide +kernel
theorem d_158_36 : decode prog_12_method_28_code 36 = .ok (.getfield 123, 3) := by decide +kernel
theorem d_158_39 : decode prog_12_method_28_code 39 = .ok (.iastore, 1) := by decide +kernel
theorem d_158_40 : decode prog_12_method_28_code 40 = .ok (.aload_n 0, 1) := by decide +kernel
theorem d_158_41 : decode prog_12_method_28_code 41 = .ok (.dup, 1) := by decide +kernel
theorem d_158_42 : decode prog_12_method_28_code 42 = .ok (.getfield 215, 3) := by decide +kernel
theorem d_158_45 : decode prog_12_method_28_code 45 = .ok (.iconst 1, 1) := by decide +kernel
theorem d_158_46 : decode prog_12_method_28_code 46 = .ok (.iadd, 1) := by decide +kernel
theorem d_158_47 : decode prog_12_method_28_code 47 = .ok (.putfield 215, 3) := by decide +kernel
theorem d_158_50 : decode prog_12_method_28_code 50 = .ok (.return_, 1) := by decide +kernel
set_option maxRecDepth 20000 in
theorem ok_158 : ∀ r ∈ tb_158, sm_ok 158 r := List.forall_mem_cons.mpr ⟨d_158_0, List.forall_mem_cons.mpr ⟨⟨d_158_1, Or.inl pf_244⟩, List.forall_mem_cons.mpr ⟨d_158_4, List.forall_mem_cons.mpr ⟨d_158_5, List.forall_mem_cons.mpr ⟨⟨d_158_6, ⟨mo_151, mi_151, se_151, pm_179⟩⟩, List.forall_mem_cons.mpr ⟨d_158_9, List.forall_mem_cons.mpr ⟨⟨d_158_10, Or.inl pf_275⟩, List.forall_mem_cons.mpr ⟨d_158_13, List.forall_mem_cons.mpr ⟨⟨d_158_14, (by decide)⟩, List.forall_mem_cons.mpr ⟨d_158_17, List.forall_mem_cons.mpr ⟨⟨d_158_18, Or.inl pf_276⟩, List.forall_mem_cons.mpr ⟨d_158_21, List.forall_mem_cons.mpr ⟨⟨d_158_22, Or.inl pf_275⟩, List.forall_mem_cons.mpr ⟨d_158_25, List.forall_mem_cons.mpr ⟨d_158_26, List.forall_mem_cons.mpr ⟨d_158_27, List.forall_mem_cons.mpr ⟨⟨d_158_28, Or.inl pf_277⟩, List.forall_mem_cons.mpr ⟨d_158_31, List.forall_mem_cons.mpr ⟨⟨d_158_32, Or.inl pf_275⟩, List.forall_mem_cons.mpr ⟨d_158_35, List.forall_mem_cons.mpr ⟨⟨d_158_36, Or.inl pf_244⟩, List.forall_mem_cons.mpr ⟨d_158_39, List.forall_mem_cons.mpr ⟨d_158_40, List.forall_mem_cons.mpr ⟨d_158_41, List.forall_mem_cons.mpr ⟨⟨d_158_42, Or.inl pf_275⟩, List.forall_mem_cons.mpr ⟨d_158_45, List.forall_mem_cons.mpr ⟨d_158_46, List.forall_mem_cons.mpr ⟨⟨d_158_47, pf_278⟩, List.forall_mem_cons.mpr ⟨d_158_50, fun _ h => absurd h List.not_mem_nil⟩⟩⟩⟩⟩⟩⟩⟩⟩⟩⟩⟩⟩⟩⟩⟩⟩⟩⟩⟩⟩⟩⟩⟩⟩⟩⟩⟩⟩
theorem d_159_0 : decode prog_12_method_29_code 0 = .ok (.aload_n 0, 1) := by decide +kernel
theorem d_159_1 : decode prog_12_method_29_code 1 = .ok (.getfield 32, 3) := by decide +kernel
theorem d_159_4 : decode prog_12_method_29_code 4 = .ok (.aload_n 0, 1) := by decide +kernel
theorem d_159_5 : decode prog_12_method_29_code 5 = .ok (.getfield 218, 3) := by decide +kernel
theorem d_159_8 : decode prog_12_method_29_code 8 = .ok (.aload_n 0, 1) := by decide +kernel
theorem d_159_9 : decode prog_12_method_29_code 9 = .ok (.iconst 2, 1) := by decide +kernel
theorem d_159_10 : decode prog_12_method_29_code 10 = .ok (.invokevirtual 119, 3) := by decide +kernel
theorem d_159_13 : decode prog_12_method_29_code 13 = .ok (.iastore, 1) := by decide +kernel
theorem d_159_14 : decode prog_12_method_29_code 14 = .ok (.aload_n 0, 1) := by decide +kernel
theorem d_159_15 : decode prog_12_method_29_code 15 = .ok (.dup, 1) := by decide +kernel
theorem d_159_16 : decode prog_12_method_29_code 16 = .ok (.getfield 218, 3) := by decide +kernel
theorem d_159_19 : decode prog_12_method_29_code 19 = .ok (.iconst 1, 1) := by decide +kernel
theorem d_159_20 : decode prog_12_method_29_code 20 = .ok (.iadd, 1) := by decide +kernel
theorem d_159_21 : decode prog_12_method_29_code 21 = .ok (.putfield 218, 3) := by decide +kernel
theorem d_159_24 : decode prog_12_method_29_code 24 = .ok (.return_, 1) := by decide +kernel
set_option maxRecDepth 20000 in
theorem ok_159 : ∀ r ∈ tb_159, sm_ok 159 r := List.forall_mem_cons.mpr ⟨d_159_0, List.forall_mem_cons.mpr ⟨⟨d_159_1, Or.inl pf_279⟩, List.forall_mem_cons.mpr ⟨d_159_4, List.forall_mem_cons.mpr ⟨⟨d_159_5, Or.inl pf_280⟩, List.forall_mem_cons.mpr ⟨d_159_8, List.forall_mem_cons.mpr ⟨d_159_9, List.forall_mem_cons.mpr ⟨⟨d_159_10, ⟨mo_143, mi_143, se_143, pm_166⟩⟩, List.forall_mem_cons.mpr ⟨d_159_13, List.forall_mem_cons.mpr ⟨d_159_14, List.forall_mem_cons.mpr ⟨d_159_15, List.forall_mem_cons.mpr ⟨⟨d_159_16, Or.inl pf_280⟩, List.forall_mem_cons.mpr ⟨d_159_19, List.forall_mem_cons.mpr ⟨d_159_20, List.forall_mem_cons.mpr ⟨⟨d_159_21, pf_281⟩, List.forall_mem_cons.mpr ⟨d_159_24, fun _ h => absurd h List.not_mem_nil⟩⟩⟩⟩⟩⟩⟩⟩⟩⟩⟩⟩⟩⟩⟩
theorem d_160_0 : decode prog_12_method_30_code 0 = .ok (.aload_n 0, 1) := by decide +kernel
theorem d_160_1 : decode prog_12_method_30_code 1 = .ok (.iconst 0, 1) := by decide +kernel
theorem d_160_2 : decode prog_12_method_30_code 2 = .ok (.putfield 105, 3) := by decide +kernel
theorem d_160_5 : decode prog_12_method_30_code 5 = .ok (.aload_n 0, 1) := by decide +kernel
theorem d_160_6 : decode prog_12_method_30_code 6 = .ok (.iconst 0, 1) := by decide +kernel
theorem d_160_7 : decode prog_12_method_30_code 7 = .ok (.putfield 112, 3) := by decide +kernel
theorem d_160_10 : decode prog_12_method_30_code 10 = .ok (.aload_n 0, 1) := by decide +kernel
theorem d_160_11 : decode prog_12_method_30_code 11 = .ok (.iconst 0, 1) := by decide +kernel
theorem d_160_12 : decode prog_12_method_30_code 12 = .ok (.putfield 123, 3) := by decide +kernel
theorem d_160_15 : decode prog_12_method_30_code 15 = .ok (.aload_n 0, 1) := by decide +kernel
theorem d_160_16 : decode prog_12_method_30_code 16 = .ok (.iconst 0, 1) := by decide +kernel
theorem d_160_17 : decode prog_12_method_30_code 17 = .ok (.putfield 173, 3) := by decide +kernel
theorem d_160_20 : decode prog_12_method_30_code 20 = .ok (.aload_n 0, 1) := by decide +kernel
theorem d_160_21 : decode prog_12_method_30_code 21 = .ok (.iconst 0, 1) := by decide +kernel
theorem d_160_22 : decode prog_12_method_30_code 22 = .ok (.putfield 129, 3) := by decide +kernel
theorem d_160_25 : decode prog_12_method_30_code 25 = .ok (.aload_n 0, 1) := by decide +kernel
theorem d_160_26 : decode prog_12_method_30_code 26 = .ok (.iconst 0, 1) := by decide +kernel
theorem d_160_27 : decode prog_12_method_30_code 27 = .ok (.putfield 218, 3) := by decide +kernel
theorem d_160_30 : decode prog_12_method_30_code 30 = .ok (.aload_n 0, 1) := by decide +kernel
theorem d_160_31 : decode prog_12_method_30_code 31 = .ok (.iconst 0, 1) := by decide +kernel
theorem d_160_32 : decode prog_12_method_30_code 32 = .ok (.putfield 215, 3) := by decide +kernel
theorem d_160_35 : decode prog_12_method_30_code 35 = .ok (.aload_n 0, 1) := by decide +kernel
theorem d_160_36 : decode prog_12_method_30_code 36 = .ok (.iconst 0, 1) := by decide +kernel
theorem d_160_37 : decode prog_12_method_30_code 37 = .ok (.putfield 179, 3) := by decide +kernel
theorem d_160_40 : decode prog_12_method_30_code 40 = .ok (.aload_n 0, 1) := by decide +kernel
theorem d_160_41 : decode prog_12_method_30_code 41 = .ok (.iconst 0, 1) := by decide +kernel
theorem d_160_42 : decode prog_12_method_30_code 42 = .ok (.putfield 197, 3) := by decide +kernel
theorem d_160_45 : decode prog_12_method_30_code 45 = .ok (.aload_n 0, 1) := by decide +kernel
theorem d_160_46 : decode prog_12_method_30_code 46 = .ok (.iconst 0, 1) := by decide +kernel
theorem d_160_47 : decode prog_12_method_30_code 47 = .ok (.putfield 200, 3) := by decide +kernel
theorem d_160_50 : decode prog_12_method_30_code 50 = .ok (.aload_n 0, 1) := by decide +kernel
theorem d_160_51 : decode prog_12_method_30_code 51 = .ok (.iconst 0, 1) := by decide +kernel
theorem d_160_52 : decode prog_12_method_30_code 52 = .ok (.putfield 221, 3) := by decide +kernel
theorem d_160_55 : decode prog_12_method_30_code 55 = .ok (.aload_n 0, 1) := by decide +kernel
theorem d_160_56 : decode prog_12_method_30_code 56 = .ok (.iconst 0, 1) := by decide +kernel
theorem d_160_57 : decode prog_12_method_30_code 57 = .ok (.putfield 224, 3) := by decide +kernel
theorem d_160_60 : decode prog_12_method_30_code 60 = .ok (.aload_n 0, 1) := by decide +kernel
theorem d_160_61 : decode prog_12_method_30_code 61 = .ok (.bipush 60, 2) := by decide +kernel
theorem d_160_63 : decode prog_12_method_30_code 63 = .ok (.putfield 227, 3) := by decide +kernel
theorem d_160_66 : decode prog_12_method_30_code 66 = .ok (.aload_n 0, 1) := by decide +kernel
theorem d_160_67 : decode prog_12_method_30_code 67 = .ok (.iconst 0, 1) := by decide +kernel
theorem d_160_68 : decode prog_12_method_30_code 68 = .ok (.putfield 230, 3) := by decide +kernel
theorem d_160_71 : decode prog_12_method_30_code 71 = .ok (.aload_n 0, 1) := by decide +kernel
theorem d_160_72 : decode prog_12_method_30_code 72 = .ok (.iconst 0, 1) := by decide +kernel
theorem d_160_73 : decode prog_12_method_30_code 73 = .ok (.putfield 233, 3) := by decide +kernel
theorem d_160_76 : decode prog_12_method_30_code 76 = .ok (.aload_n 0, 1) := by decide +kernel
theorem d_160_77 : decode prog_12_method_30_code 77 = .ok (.iconst 0, 1) := by decide +kernel
theorem d_160_78 : decode prog_12_method_30_code 78 = .ok (.putfield 236, 3) := by decide +kernel
theorem d_160_81 : decode prog_12_method_30_code 81 = .ok (.aload_n 0, 1) := by decide +kernel
theorem d_160_82 : decode prog_12_method_30_code 82 = .ok (.iconst 0, 1) := by decide +kernel
theorem d_160_83 : decode prog_12_method_30_code 83 = .ok (.putfield 239, 3) := by decide +kernel
theorem d_160_86 : decode prog_12_method_30_code 86 = .ok (.aload_n 0, 1) := by decide +kernel
theorem d_160_87 : decode prog_12_method_30_code 87 = .ok (.iconst 0, 1) := by decide +kernel
theorem d_160_88 : decode prog_12_method_30_code 88 = .ok (.putfield 242, 3) := by decide +kernel
theorem d_160_91 : decode prog_12_method_30_code 91 = .ok (.aload_n 0, 1) := by decide +kernel
theorem d_160_92 : decode prog_12_method_30_code 92 = .ok (.iconst 0, 1) := by decide +kernel
theorem d_160_93 : decode prog_12_method_30_code 93 = .ok (.putfield 245, 3) := by decide +kernel
theorem d_160_96 : decode prog_12_method_30_code 96 = .ok (.return_, 1) := by decide +kernel
set_option maxRecDepth 20000 in
theorem ok_160 : ∀ r ∈ tb_160, sm_ok 160 r := List.forall_mem_cons.mpr ⟨d_160_0, List.forall_mem_cons.mpr ⟨d_160_1, List.forall_mem_cons.mpr ⟨⟨d_160_2, pf_237⟩, List.forall_mem_cons.mpr ⟨d_160_5, List.forall_mem_cons.mpr ⟨d_160_6, List.forall_mem_cons.mpr ⟨⟨d_160_7, pf_242⟩, List.forall_mem_cons.mpr ⟨d_160_10, List.forall_mem_cons.mpr ⟨d_160_11, List.forall_mem_cons.mpr ⟨⟨d_160_12, pf_246⟩, List.forall_mem_cons.mpr ⟨d_160_15, List.forall_mem_cons.mpr ⟨d_160_16, List.forall_mem_cons.mpr ⟨⟨d_160_17, pf_256⟩, List.forall_mem_cons.mpr ⟨d_160_20, List.forall_mem_cons.mpr ⟨d_160_21, List.forall_mem_cons.mpr ⟨⟨d_160_22, pf_258⟩, List.forall_mem_cons.mpr ⟨d_160_25, List.forall_mem_cons.mpr ⟨d_160_26, List.forall_mem_cons.mpr ⟨⟨d_160_27, pf_281⟩, List.forall_mem_cons.mpr ⟨d_160_30, List.forall_mem_cons.mpr ⟨d_160_31, List.forall_mem_cons.mpr ⟨⟨d_160_32, pf_278⟩, List.forall_mem_cons.mpr ⟨d_160_35, List.forall_mem_cons.mpr ⟨d_160_36, List.forall_mem_cons.mpr ⟨⟨d_160_37, pf_265⟩, List.forall_mem_cons.mpr ⟨d_160_40, List.forall_mem_cons.mpr ⟨d_160_41, List.forall_mem_cons.mpr ⟨⟨d_160_42, pf_268⟩, List.forall_mem_cons.mpr ⟨d_160_45, List.forall_mem_cons.mpr ⟨d_160_46, List.forall_mem_cons.mpr ⟨⟨d_160_47, pf_269⟩, List.forall_mem_cons.mpr ⟨d_160_50, List.forall_mem_cons.mpr ⟨d_160_51, List.forall_mem_cons.mpr ⟨⟨d_160_52, pf_282⟩, List.forall_mem_cons.mpr ⟨d_160_55, List.forall_mem_cons.mpr ⟨d_160_56, List.forall_mem_cons.mpr ⟨⟨d_160_57, pf_283⟩, List.forall_mem_cons.mpr ⟨d_160_60, List.forall_mem_cons.mpr ⟨d_160_61, List.forall_mem_cons.mpr ⟨⟨d_160_63, pf_284⟩, List.forall_mem_cons.mpr ⟨d_160_66, List.forall_mem_cons.mpr ⟨d_160_67, List.forall_mem_cons.mpr ⟨⟨d_160_68, pf_285⟩, List.forall_mem_cons.mpr ⟨d_160_71, List.forall_mem_cons.mpr ⟨d_160_72, List.forall_mem_cons.mpr ⟨⟨d_160_73, pf_286⟩, List.forall_mem_cons.mpr ⟨d_160_76, List.forall_mem_cons.mpr ⟨d_160_77, List.forall_mem_cons.mpr ⟨⟨d_160_78, pf_287⟩, List.forall_mem_cons.mpr ⟨d_160_81, List.forall_mem_cons.mpr ⟨d_160_82, List.forall_mem_cons.mpr ⟨⟨d_160_83, pf_288⟩, List.forall_mem_cons.mpr ⟨d_160_86, List.forall_mem_cons.mpr ⟨d_160_87, List.forall_mem_cons.mpr ⟨⟨d_160_88, pf_289⟩, List.forall_mem_cons.mpr ⟨d_160_91, List.forall_mem_cons.mpr ⟨d_160_92, List.forall_mem_cons.mpr ⟨⟨d_160_93, pf_290⟩, List.forall_mem_cons.mpr ⟨d_160_96, fun _ h => absurd h List.not_mem_nil⟩⟩⟩⟩⟩⟩⟩⟩⟩⟩⟩⟩⟩⟩⟩⟩⟩⟩⟩⟩⟩⟩⟩⟩⟩⟩⟩⟩⟩⟩⟩⟩⟩⟩⟩⟩⟩⟩⟩⟩⟩⟩⟩⟩⟩⟩⟩⟩⟩⟩⟩⟩⟩⟩⟩⟩⟩⟩
theorem d_161_0 : decode prog_12_method_31_code 0 = .ok (.aload_n 0, 1) := by decide +kernel
theorem d_161_1 : decode prog_12_method_31_code 1 = .ok (.getfield 105, 3) := by decide +kernel
theorem d_161_4 : decode prog_12_method_31_code 4 = .ok (.ifCond .ne 28, 3) := by decide +kernel
theorem d_161_7 : decode prog_12_method_31_code 7 = .ok (.aload_n 0, 1) := by decide +kernel
theorem d_161_8 : decode prog_12_method_31_code 8 = .ok (.bipush 119, 2) := by decide +kernel
theorem d_161_10 : decode prog_12_method_31_code 10 = .ok (.bipush 104, 2) := by decide +kernel
theorem d_161_12 : decode prog_12_method_31_code 12 = .ok (.bipush 101, 2) := by decide +kernel
theorem d_161_14 : decode prog_12_method_31_code 14 = .ok (.bipush 114, 2) := by decide +kernel
theorem d_161_16 : decode prog_12_method_31_code 16 = .ok (.bipush 101, 2) := by decide +kernel
theorem d_161_18 : decode prog_12_method_31_code 18 = .ok (.iconst 0, 1) := by decide +kernel
theorem d_161_19 : decode prog_12_method_31_code 19 = .ok (.invokestatic 156, 3) := by decide +kernel
theorem d_161_22 : decode prog_12_method_31_code 22 = .ok (.invokevirtual 160, 3) := by decide +kernel
theorem d_161_25 : decode prog_12_method_31_code 25 = .ok (.ifCond .eq 7, 3) := by decide +kernel
theorem d_161_28 : decode prog_12_method_31_code 28 = .ok (.aload_n 0, 1) := by decide +kernel
theorem d_161_29 : decode prog_12_method_31_code 29 = .ok (.invokevirtual 248, 3) := by decide +kernel
theorem d_161_32 : decode prog_12_method_31_code 32 = .ok (.return_, 1) := by decide +kernel
set_option maxRecDepth 20000 in
theorem ok_161 : ∀ r ∈ tb_161, sm_ok 161 r := List.forall_mem_cons.mpr ⟨d_161_0, List.forall_mem_cons.mpr ⟨⟨d_161_1, Or.inl pf_236⟩, List.forall_mem_cons.mpr ⟨⟨d_161_4, (by decide)⟩, List.forall_mem_cons.mpr ⟨d_161_7, List.forall_mem_cons.mpr ⟨d_161_8, List.forall_mem_cons.mpr ⟨d_161_10, List.forall_mem_cons.mpr ⟨d_161_12, List.forall_mem_cons.mpr ⟨d_161_14, List.forall_mem_cons.mpr ⟨d_161_16, List.forall_mem_cons.mpr ⟨d_161_18, List.forall_mem_cons.mpr ⟨⟨d_161_19, (Or.inl ⟨Nat.le_of_ble_eq_true rfl, mo_139, ms_139, pm_172⟩)⟩, List.forall_mem_cons.mpr ⟨⟨d_161_22, ⟨mo_142, mi_142, se_142, pm_173⟩⟩, List.forall_mem_cons.mpr ⟨⟨d_161_25, (by decide)⟩, List.forall_mem_cons.mpr ⟨d_161_28, List.forall_mem_cons.mpr ⟨⟨d_161_29, ⟨mo_157, mi_157, se_157, pm_183⟩⟩, List.forall_mem_cons.mpr ⟨d_161_32, fun _ h => absurd h List.not_mem_nil⟩⟩⟩⟩⟩⟩⟩⟩⟩⟩⟩⟩⟩⟩⟩⟩
theorem d_162_0 : decode prog_12_method_32_code 0 = .ok (.aload_n 0, 1) := by decide +kernel
theorem d_162_1 : decode prog_12_method_32_code 1 = .ok (.aload_n 0, 1) := by decide +kernel
theorem d_162_2 : decode prog_12_method_32_code 2 = .ok (.getfield 13, 3) := by decide +kernel
theorem d_162_5 : decode prog_12_method_32_code 5 = .ok (.iconst 0, 1) := by decide +kernel
theorem d_162_6 : decode prog_12_method_32_code 6 = .ok (.iaload, 1) := by decide +kernel
theorem d_162_7 : decode prog_12_method_32_code 7 = .ok (.iconst 1, 1) := by decide +kernel
theorem d_162_8 : decode prog_12_method_32_code 8 = .ok (.if_icmp .ne 12, 3) := by decide +kernel
theorem d_162_11 : decode prog_12_method_32_code 11 = .ok (.aload_n 0, 1) := by decide +kernel
theorem d_162_12 : decode prog_12_method_32_code 12 = .ok (.getfield 17, 3) := by decide +kernel
theorem d_162_15 : decode prog_12_method_32_code 15 = .ok (.iconst 0, 1) := by decide +kernel
theorem d_162_16 : decode prog_12_method_32_code 16 = .ok (.iaload, 1) := by decide +kernel
theorem d_162_17 : decode prog_12_method_32_code 17 = .ok (.goto 4, 3) := by decide +kernel
theorem d_162_20 : decode prog_12_method_32_code 20 = .ok (.iconst 0, 1) := by decide +kernel
theorem d_162_21 : decode prog_12_method_32_code 21 = .ok (.putfield 251, 3) := by decide +kernel
theorem d_162_24 : decode prog_12_method_32_code 24 = .ok (.aload_n 0, 1) := by decide +kernel
theorem d_162_25 : decode prog_12_method_32_code 25 = .ok (.iconst 1, 1) := by decide +kernel
theorem d_162_26 : decode prog_12_method_32_code 26 = .ok (.putfield 112, 3) := by decide +kernel
theorem d_162_29 : decode prog_12_method_32_code 29 = .ok (.aload_n 0, 1) := by decide +kernel
theorem d_162_30 : decode prog_12_method_32_code 30 = .ok (.getfield 251, 3) := by decide +kernel
theorem d_162_33 : decode prog_12_method_32_code 33 = .ok (.bipush 99, 2) := by decide +kernel
theorem d_162_35 : decode prog_12_method_32_code 35 = .ok (.bipush 114, 2) := by decide +kernel
theorem d_162_37 : decode prog_12_method_32_code 37 = .ok (.bipush 101, 2) := by decide +kernel
theorem d_162_39 : decode prog_12_method_32_code 39 = .ok (.bipush 97, 2) := by decide +kernel
theorem d_162_41 : decode prog_12_method_32_code 41 = .ok (.bipush 116, 2) := by decide +kernel
theorem d_162_43 : decode prog_12_method_32_code 43 = .ok (.bipush 101, 2) := by decide +kernel
theorem d_162_45 : decode prog_12_method_32_code 45 = .ok (.invokestatic 156, 3) := by decide +kernel
theorem d_162_48 : decode prog_12_method_32_code 48 = .ok (.if_icmp .ne 19, 3) := by decide +kernel
theorem d_162_51 : decode prog_12_method_32_code 51 = .ok (.aload_n 0, 1) := by decide +kernel
theorem d_162_52 : decode prog_12_method_32_code 52 = .ok (.invokevirtual 254, 3) := by decide +kernel
theorem d_162_55 : decode prog_12_method_32_code 55 = .ok (.aload_n 0, 1) := by decide +kernel
theorem d_162_56 : decode prog_12_method_32_code 56 = .ok (.aload_n 0, 1) := by decide +kernel
theorem d_162_57 : decode prog_12_method_32_code 57 = .ok (.iconst 3, 1) := by decide +kernel
theorem d_162_58 : decode prog_12_method_32_code 58 = .ok (.invokevirtual 119, 3) := by decide +kernel
theorem d_162_61 : decode prog_12_method_32_code 61 = .ok (.putfield 233, 3) := by decide +kernel
theorem d_162_64 : decode prog_12_method_32_code 64 = .ok (.goto 236, 3) := by decide +kernel
theorem d_162_67 : decode prog_12_method_32_code 67 = .ok (.aload_n 0, 1) := by decide +kernel
theorem d_162_68 : decode prog_12_method_32_code 68 = .ok (.getfield 251, 3) := by decide +kernel
theorem d_162_71 : decode prog_12_method_32_code 71 = .ok (.bipush 105, 2) := by decide +kernel
theorem d_162_73 : decode prog_12_method_32_code 73 = .ok (.bipush 110, 2) := by decide +kernel
theorem d_162_75 : decode prog_12_method_32_code 75 = .ok (.bipush 100, 2) := by decide +kernel
theorem d_162_77 : decode prog_12_method_32_code 77 = .ok (.bipush 101, 2) := by decide +kernel
theorem d_162_79 : decode prog_12_method_32_code 79 = .ok (.bipush 120, 2) := by decide +kernel
theorem d_162_81 : decode prog_12_method_32_code 81 = .ok (.iconst 0, 1) := by decide +kernel
theorem d_162_82 : decode prog_12_method_32_code 82 = .ok (.invokestatic 156, 3) := by decide +kernel
theorem d_162_85 : decode prog_12_method_32_code 85 = .ok (.if_icmp .ne 18, 3) := by decide +kernel
theorem d_162_88 : decode prog_12_method_32_code 88 = .ok (.aload_n 0, 1) := by decide +kernel
theorem d_162_89 : decode prog_12_method_32_code 89 = .ok (.invokevirtual 254, 3) := by decide +kernel
theorem d_162_92 : decode prog_12_method_32_code 92 = .ok (.aload_n 0, 1) := by decide +kernel
theorem d_162_93 : decode prog_12_method_32_code 93 = .ok (.aload_n 0, 1) := by decide +kernel
theorem d_162_94 : decode prog_12_method_32_code 94 = .ok (.invokevirtual 153, 3) := by decide +kernel
theorem d_162_97 : decode prog_12_method_32_code 97 = .ok (.putfield 230, 3) := by decide +kernel
theorem d_162_100 : decode prog_12_method_32_code 100 = .ok (.goto 200, 3) := by decide +kernel
theorem d_162_103 : decode prog_12_method_32_code 103 = .ok (.aload_n 0, 1) := by decide +kernel
theorem d_162_104 : decode prog_12_method_32_code 104 = .ok (.getfield 251, 3) := by decide +kernel
theorem d_162_107 : decode prog_12_method_32_code 107 = .ok (.bipush 105, 2) := by decide +kernel
theorem d_162_109 : decode prog_12_method_32_code 109 = .ok (.bipush 110, 2) := by decide +kernel
theorem d_162_111 : decode prog_12_method_32_code 111 = .ok (.bipush 115, 2) := by decide +kernel
theorem d_162_113 : decode prog_12_method_32_code 113 = .ok (.bipush 101, 2) := by decide +kernel
theorem d_162_115 : decode prog_12_method_32_code 115 = .ok (.bipush 114, 2) := by decide +kernel
theorem d_162_117 : decode prog_12_method_32_code 117 = .ok (.bipush 116, 2) := by decide +kernel
theorem d_162_119 : decode prog_12_method_32_code 119 = .ok (.invokestatic 156, 3) := by decide +kernel
theorem d_162_122 : decode prog_12_method_32_code 122 = .ok (.if_icmp .ne 34, 3) := by decide +kernel
theorem d_162_125 : decode prog_12_method_32_code 125 = .ok (.aload_n 0, 1) := by decide +kernel
theorem d_162_126 : decode prog_12_method_32_code 126 = .ok (.invokevirtual 254, 3) := by decide +kernel
theorem d_162_129 : decode prog_12_method_32_code 129 = .ok (.aload_n 0, 1) := by decide +kernel
theorem d_162_130 : decode prog_12_method_32_code 130 = .ok (.invokevirtual 257, 3) := by decide +kernel
theorem d_162_133 : decode prog_12_method_32_code 133 = .ok (.aload_n 0, 1) := by decide +kernel
theorem d_162_134 : decode prog_12_method_32_code 134 = .ok (.getfield 105, 3) := by decide +kernel
theorem d_162_137 : decode prog_12_method_32_code 137 = .ok (.ifCond .ne 163, 3) := by decide +kernel
theorem d_162_140 : decode prog_12_method_32_code 140 = .ok (.aload_n 0, 1) := by decide +kernel
theorem d_162_141 : decode prog_12_method_32_code 141 = .ok (.bipush 44, 2) := by decide +kernel
theorem d_162_143 : decode prog_12_method_32_code 143 = .ok (.invokevirtual 150, 3) := by decide +kernel
theorem d_162_146 : decode prog_12_method_32_code 146 = .ok (.ifCond .eq 154, 3) := by decide +kernel
theorem d_162_149 : decode prog_12_method_32_code 149 = .ok (.aload_n 0, 1) := by decide +kernel
theorem d_162_150 : decode prog_12_method_32_code 150 = .ok (.invokevirtual 257, 3) := by decide +kernel
theorem d_162_153 : decode prog_12_method_32_code 153 = .ok (.goto (-20), 3) := by decide +kernel
theorem d_162_156 : decode prog_12_method_32_code 156 = .ok (.aload_n 0, 1) := by decide +kernel
theorem d_162_157 : decode prog_12_method_32_code 157 = .ok (.getfield 251, 3) := by decide +kernel
theorem d_162_160 : decode prog_12_method_32_code 160 = .ok (.bipush 117, 2) := by decide +kernel
theorem d_162_162 : decode prog_12_method_32_code 162 = .ok (.bipush 112, 2) := by decide +kernel
theorem d_162_164 : decode prog_12_method_32_code 164 = .ok (.bipush 100, 2) := by decide +kernel
theorem d_162_166 : decode prog_12_method_32_code 166 = .ok (.bipush 97, 2) := by decide +kernel
theorem d_162_168 : decode prog_12_method_32_code 168 = .ok (.bipush 116, 2) := by decide +kernel
theorem d_162_170 : decode prog_12_method_32_code 170 = .ok (.bipush 101, 2) := by decide +kernel
theorem d_162_172 : decode prog_12_method_32_code 172 = .ok (.invokestatic 156, 3) := by decide +kernel
theorem d_162_175 : decode prog_12_method_32_code 175 = .ok (.if_icmp .ne 58, 3) := by decide +kernel
theorem d_162_178 : decode prog_12_method_32_code 178 = .ok (.aload_n 0, 1) := by decide +kernel
theorem d_162_179 : decode prog_12_method_32_code 179 = .ok (.invokevirtual 254, 3) := by decide +kernel
theorem d_162_182 : decode prog_12_method_32_code 182 = .ok (.aload_n 0, 1) := by decide +kernel
theorem d_162_183 : decode prog_12_method_32_code 183 = .ok (.aload_n 0, 1) := by decide +kernel
theorem d_162_184 : decode prog_12_method_32_code 184 = .ok (.invokevirtual 153, 3) := by decide +kernel
theorem d_162_187 : decode prog_12_method_32_code 187 = .ok (.putfield 230, 3) := by decide +kernel
theorem d_162_190 : decode prog_12_method_32_code 190 = .ok (.aload_n 0, 1) := by decide +kernel
theorem d_162_191 : decode prog_12_method_32_code 191 = .ok (.aload_n 0, 1) := by decide +kernel
theorem d_162_192 : decode prog_12_method_32_code 192 = .ok (.getfield 105, 3) := by decide +kernel
theorem d_162_195 : decode prog_12_method_32_code 195 = .ok (.ifCond .ne 12, 3) := by decide +kernel
theorem d_162_198 : decode prog_12_method_32_code 198 = .ok (.aload_n 0, 1) := by decide +kernel
theorem d_162_199 : decode prog_12_method_32_code 199 = .ok (.bipush 61, 2) := by decide +kernel
theorem d_162_201 : decode prog_12_method_32_code 201 = .ok (.invokevirtual 150, 3) := by decide +kernel
theorem d_162_204 : decode prog_12_method_32_code 204 = .ok (.ifCond .ne 7, 3) := by decide +kernel
theorem d_162_207 : decode prog_12_method_32_code 207 = .ok (.iconst 1, 1) := by decide +kernel
theorem d_162_208 : decode prog_12_method_32_code 208 = .ok (.goto 4, 3) := by decide +kernel
theorem d_162_211 : decode prog_12_method_32_code 211 = .ok (.iconst 0, 1) := by decide +kernel
theorem d_162_212 : decode prog_12_method_32_code 212 = .ok (.putfield 105, 3) := by decide +kernel
theorem d_162_215 : decode prog_12_method_32_code 215 = .ok (.aload_n 0, 1) := by decide +kernel
theorem d_162_216 : decode prog_12_method_32_code 216 = .ok (.getfield 105, 3) := by decide +kernel
theorem d_162_219 : decode prog_12_method_32_code 219 = .ok (.ifCond .ne 7, 3) := by decide +kernel
theorem d_162_222 : decode prog_12_method_32_code 222 = .ok (.aload_n 0, 1) := by decide +kernel
theorem d_162_223 : decode prog_12_method_32_code 223 = .ok (.invokevirtual 257, 3) := by decide +kernel
theorem d_162_226 : decode prog_12_method_32_code 226 = .ok (.aload_n 0, 1) := by decide +kernel
theorem d_162_227 : decode prog_12_method_32_code 227 = .ok (.invokevirtual 260, 3) := by decide +kernel
theorem d_162_230 : decode prog_12_method_32_code 230 = .ok (.goto 70, 3) := by decide +kernel
theorem d_162_233 : decode prog_12_method_32_code 233 = .ok (.aload_n 0, 1) := by decide +kernel
theorem d_162_234 : decode prog_12_method_32_code 234 = .ok (.getfield 251, 3) := by decide +kernel
theorem d_162_237 : decode prog_12_method_32_code 237 = .ok (.bipush 100, 2) := by decide +kernel
theorem d_162_239 : decode prog_12_method_32_code 239 = .ok (.bipush 101, 2) := by decide +kernel
theorem d_162_241 : decode prog_12_method_32_code 241 = .ok (.bipush 108, 2) := by decide +kernel
theorem d_162_243 : decode prog_12_method_32_code 243 = .ok (.bipush 101, 2) := by decide +kernel
theorem d_162_245 : decode prog_12_method_32_code 245 = .ok (.bipush 116, 2) := by decide +kernel
theorem d_162_247 : decode prog_12_method_32_code 247 = .ok (.bipush 101, 2) := by decide +kernel
theorem d_162_249 : decode prog_12_method_32_code 249 = .ok (.invokestatic 156, 3) := by decide +kernel
theorem d_162_252 : decode prog_12_method_32_code 252 = .ok (.if_icmp .ne 14, 3) := by decide +kernel
theorem d_162_255 : decode prog_12_method_32_code 255 = .ok (.aload_n 0, 1) := by decide +kernel
theorem d_162_256 : decode prog_12_method_32_code 256 = .ok (.invokevirtual 254, 3) := by decide +kernel
theorem d_162_259 : decode prog_12_method_32_code 259 = .ok (.aload_n 0, 1) := by decide +kernel
theorem d_162_260 : decode prog_12_method_32_code 260 = .ok (.invokevirtual 260, 3) := by decide +kernel
theorem d_162_263 : decode prog_12_method_32_code 263 = .ok (.goto 37, 3) := by decide +kernel
theorem d_162_266 : decode prog_12_method_32_code 266 = .ok (.aload_n 0, 1) := by decide +kernel
theorem d_162_267 : decode prog_12_method_32_code 267 = .ok (.getfield 251, 3) := by decide +kernel
theorem d_162_270 : decode prog_12_method_32_code 270 = .ok (.bipush 115, 2) := by decide +kernel
theorem d_162_272 : decode prog_12_method_32_code 272 = .ok (.bipush 101, 2) := by decide +kernel
theorem d_162_274 : decode prog_12_method_32_code 274 = .ok (.bipush 108, 2) := by decide +kernel
theorem d_162_276 : decode prog_12_method_32_code 276 = .ok (.bipush 101, 2) := by decide +kernel
theorem d_162_278 : decode prog_12_method_32_code 278 = .ok (.bipush 99, 2) := by decide +kernel
theorem d_162_280 : decode prog_12_method_32_code 280 = .ok (.bipush 116, 2) := by decide +kernel
theorem d_162_282 : decode prog_12_method_32_code 282 = .ok (.invokestatic 156, 3) := by decide +kernel
theorem d_162_285 : decode prog_12_method_32_code 285 = .ok (.if_icmp .ne 10, 3) := by decide +kernel
theorem d_162_288 : decode prog_12_method_32_code 288 = .ok (.aload_n 0, 1) := by decide +kernel
theorem d_162_289 : decode prog_12_method_32_code 289 = .ok (.invokevirtual 263, 3) := by decide +kernel
theorem d_162_292 : decode prog_12_method_32_code 292 = .ok (.goto 8, 3) := by decide +kernel
theorem d_162_295 : decode prog_12_method_32_code 295 = .ok (.aload_n 0, 1) := by decide +kernel
theorem d_162_296 : decode prog_12_method_32_code 296 = .ok (.iconst 1, 1) := by decide +kernel
theorem d_162_297 : decode prog_12_method_32_code 297 = .ok (.putfield 105, 3) := by decide +kernel
theorem d_162_300 : decode prog_12_method_32_code 300 = .ok (.aload_n 0, 1) := by decide +kernel
theorem d_162_301 : decode prog_12_method_32_code 301 = .ok (.aload_n 0, 1) := by decide +kernel
theorem d_162_302 : decode prog_12_method_32_code 302 = .ok (.getfield 105, 3) := by decide +kernel
theorem d_162_305 : decode prog_12_method_32_code 305 = .ok (.ifCond .ne 14, 3) := by decide +kernel
theorem d_162_308 : decode prog_12_method_32_code 308 = .ok (.aload_n 0, 1) := by decide +kernel
theorem d_162_309 : decode prog_12_method_32_code 309 = .ok (.getfield 112, 3) := by decide +kernel
theorem d_162_312 : decode prog_12_method_32_code 312 = .ok (.aload_n 0, 1) := by decide +kernel
theorem d_162_313 : decode prog_12_method_32_code 313 = .ok (.getfield 95, 3) := by decide +kernel
theorem d_162_316 : decode prog_12_method_32_code 316 = .ok (.if_icmp .eq 7, 3) := by decide +kernel
theorem d_162_319 : decode prog_12_method_32_code 319 = .ok (.iconst 1, 1) := by decide +kernel
theorem d_162_320 : decode prog_12_method_32_code 320 = .ok (.goto 4, 3) := by decide +kernel
theorem d_162_323 : decode prog_12_method_32_code 323 = .ok (.iconst 0, 1) := by decide +kernel
theorem d_162_324 : decode prog_12_method_32_code 324 = .ok (.putfield 105, 3) := by decide +kernel
theorem d_162_327 : decode prog_12_method_32_code 327 = .ok (.return_, 1) := by decide +kernel
set_option maxRecDepth 20000 in
theorem ok_162 : ∀ r ∈ tb_162, sm_ok 162 r := List.forall_mem_cons.mpr ⟨d_162_0, List.forall_mem_cons.mpr ⟨d_162_1, List.forall_mem_cons.mpr ⟨⟨d_162_2, Or.inl pf_238⟩, List.forall_mem_cons.mpr ⟨d_162_5, List.forall_mem_cons.mpr ⟨d_162_6, List.forall_mem_cons.mpr ⟨d_162_7, List.forall_mem_cons.mpr ⟨⟨d_162_8, (by decide)⟩, List.forall_mem_cons.mpr ⟨d_162_11, List.forall_mem_cons.mpr ⟨⟨d_162_12, Or.inl pf_240⟩, List.forall_mem_cons.mpr ⟨d_162_15, List.forall_mem_cons.mpr ⟨d_162_16, List.forall_mem_cons.mpr ⟨⟨d_162_17, (by decide)⟩, List.forall_mem_cons.mpr ⟨d_162_20, List.forall_mem_cons.mpr ⟨⟨d_162_21, pf_291⟩, List.forall_mem_cons.mpr ⟨d_162_24, List.forall_mem_cons.mpr ⟨d_162_25, List.forall_mem_cons.mpr ⟨⟨d_162_26, pf_242⟩, List.forall_mem_cons.mpr ⟨d_162_29, List.forall_mem_cons.mpr ⟨⟨d_162_30, Or.inl pf_292⟩, List.forall_mem_cons.mpr ⟨d_162_33, List.forall_mem_cons.mpr ⟨d_162_35, List.forall_mem_cons.mpr ⟨d_162_37, List.forall_mem_cons.mpr ⟨d_162_39, List.forall_mem_cons.mpr ⟨d_162_41, List.forall_mem_cons.mpr ⟨d_162_43, List.forall_mem_cons.mpr ⟨⟨d_162_45, (Or.inl ⟨Nat.le_of_ble_eq_true rfl, mo_139, ms_139, pm_172⟩)⟩, List.forall_mem_cons.mpr ⟨⟨d_162_48, (by decide)⟩, List.forall_mem_cons.mpr ⟨d_162_51, List.forall_mem_cons.mpr ⟨⟨d_162_52, ⟨mo_159, mi_159, se_159, pm_184⟩⟩, List.forall_mem_cons.mpr ⟨d_162_55, List.forall_mem_cons.mpr ⟨d_162_56, List.forall_mem_cons.mpr ⟨d_162_57, List.forall_mem_cons.mpr ⟨⟨d_162_58, ⟨mo_143, mi_143, se_143, pm_166⟩⟩, List.forall_mem_cons.mpr ⟨⟨d_162_61, pf_286⟩, List.forall_mem_cons.mpr ⟨⟨d_162_64, (by decide)⟩, List.forall_mem_cons.mpr ⟨d_162_67, List.forall_mem_cons.mpr ⟨⟨d_162_68, Or.inl pf_292⟩, List.forall_mem_cons.mpr ⟨d_162_71, List.forall_mem_cons.mpr ⟨d_162_73, List.forall_mem_cons.mpr ⟨d_162_75, List.forall_mem_cons.mpr ⟨d_162_77, List.forall_mem_cons.mpr ⟨d_162_79, List.forall_mem_cons.mpr ⟨d_162_81, List.forall_mem_cons.mpr ⟨⟨d_162_82, (Or.inl ⟨Nat.le_of_ble_eq_true rfl, mo_139, ms_139, pm_172⟩)⟩, List.forall_mem_cons.mpr ⟨⟨d_162_85, (by decide)⟩, List.forall_mem_cons.mpr ⟨d_162_88, List.forall_mem_cons.mpr ⟨⟨d_162_89, ⟨mo_159, mi_159, se_159, pm_184⟩⟩, List.forall_mem_cons.mpr ⟨d_162_92, List.forall_mem_cons.mpr ⟨d_162_93, List.forall_mem_cons.mpr ⟨⟨d_162_94, ⟨mo_144, mi_144, se_144, pm_171⟩⟩, List.forall_mem_cons.mpr ⟨⟨d_162_97, pf_285⟩, List.forall_mem_cons.mpr ⟨⟨d_162_100, (by decide)⟩, List.forall_mem_cons.mpr ⟨d_162_103, List.forall_mem_cons.mpr ⟨⟨d_162_104, Or.inl pf_292⟩, List.forall_mem_cons.mpr ⟨d_162_107, List.forall_mem_cons.mpr ⟨d_162_109, List.forall_mem_cons.mpr ⟨d_162_111, List.forall_mem_cons.mpr ⟨d_162_113, List.forall_mem_cons.mpr ⟨d_162_115, List.forall_mem_cons.mpr ⟨d_162_117, List.forall_mem_cons.mpr ⟨⟨d_162_119, (Or.inl ⟨Nat.le_of_ble_eq_true rfl, mo_139, ms_139, pm_172⟩)⟩, List.forall_mem_cons.mpr ⟨⟨d_162_122, (by decide)⟩, List.forall_mem_cons.mpr ⟨d_162_125, List.forall_mem_cons.mpr ⟨⟨d_162_126, ⟨mo_159, mi_159, se_159, pm_184⟩⟩, List.forall_mem_cons.mpr ⟨d_162_129, List.forall_mem_cons.mpr ⟨⟨d_162_130, ⟨mo_158, mi_158, se_158, pm_185⟩⟩, List.forall_mem_cons.mpr ⟨d_162_133, List.forall_mem_cons.mpr ⟨⟨d_162_134, Or.inl pf_236⟩, List.forall_mem_cons.mpr ⟨⟨d_162_137, (by decide)⟩, List.forall_mem_cons.mpr ⟨d_162_140, List.forall_mem_cons.mpr ⟨d_162_141, List.forall_mem_cons.mpr ⟨⟨d_162_143, ⟨mo_141, mi_141, se_141, pm_170⟩⟩, List.forall_mem_cons.mpr ⟨⟨d_162_146, (by decide)⟩, List.forall_mem_cons.mpr ⟨d_162_149, List.forall_mem_cons.mpr ⟨⟨d_162_150, ⟨mo_158, mi_158, se_158, pm_185⟩⟩, List.forall_mem_cons.mpr ⟨⟨d_162_153, (by decide)⟩, List.forall_mem_cons.mpr ⟨d_162_156, List.forall_mem_cons.mpr ⟨⟨d_162_157, Or.inl pf_292⟩, List.forall_mem_cons.mpr ⟨d_162_160, List.forall_mem_cons.mpr ⟨d_162_162, List.forall_mem_cons.mpr ⟨d_162_164, List.forall_mem_cons.mpr ⟨d_162_166, List.forall_mem_cons.mpr ⟨d_162_168, List.forall_mem_cons.mpr ⟨d_162_170, List.forall_mem_cons.mpr ⟨⟨d_162_172, (Or.inl ⟨Nat.le_of_ble_eq_true rfl, mo_139, ms_139, pm_172⟩)⟩, List.forall_mem_cons.mpr ⟨⟨d_162_175, (by decide)⟩, List.forall_mem_cons.mpr ⟨d_162_178, List.forall_mem_cons.mpr ⟨⟨d_162_179, ⟨mo_159, mi_159, se_159, pm_184⟩⟩, List.forall_mem_cons.mpr ⟨d_162_182, List.forall_mem_cons.mpr ⟨d_162_183, List.forall_mem_cons.mpr ⟨⟨d_162_184, ⟨mo_144, mi_144, se_144, pm_171⟩⟩, List.forall_mem_cons.mpr ⟨⟨d_162_187, pf_285⟩, List.forall_mem_cons.mpr ⟨d_162_190, List.forall_mem_cons.mpr ⟨d_162_191, List.forall_mem_cons.mpr ⟨⟨d_162_192, Or.inl pf_236⟩, List.forall_mem_cons.mpr ⟨⟨d_162_195, (by decide)⟩, List.forall_mem_cons.mpr ⟨d_162_198, List.forall_mem_cons.mpr ⟨d_162_199, List.forall_mem_cons.mpr ⟨⟨d_162_201, ⟨mo_141, mi_141, se_141, pm_170⟩⟩, List.forall_mem_cons.mpr ⟨⟨d_162_204, (by decide)⟩, List.forall_mem_cons.mpr ⟨d_162_207, List.forall_mem_cons.mpr ⟨⟨d_162_208, (by decide)⟩, List.forall_mem_cons.mpr ⟨d_162_211, List.forall_mem_cons.mpr ⟨⟨d_162_212, pf_237⟩, List.forall_mem_cons.mpr ⟨d_162_215, List.forall_mem_cons.mpr ⟨⟨d_162_216, Or.inl pf_236⟩, List.forall_mem_cons.mpr ⟨⟨d_162_219, (by decide)⟩, List.forall_mem_cons.mpr ⟨d_162_222, List.forall_mem_cons.mpr ⟨⟨d_162_223, ⟨mo_158, mi_158, se_158, pm_185⟩⟩, List.forall_mem_cons.mpr ⟨d_162_226, List.forall_mem_cons.mpr ⟨⟨d_162_227, ⟨mo_161, mi_161, se_161, pm_186⟩⟩, List.forall_mem_cons.mpr ⟨⟨d_162_230, (by decide)⟩, List.forall_mem_cons.mpr ⟨d_162_233, List.forall_mem_cons.mpr ⟨⟨d_162_234, Or.inl pf_292⟩, List.forall_mem_cons.mpr ⟨d_162_237, List.forall_mem_cons.mpr ⟨d_162_239, List.forall_mem_cons.mpr ⟨d_162_241, List.forall_mem_cons.mpr ⟨d_162_243, List.forall_mem_cons.mpr ⟨d_162_245, List.forall_mem_cons.mpr ⟨d_162_247, List.forall_mem_cons.mpr ⟨⟨d_162_249, (Or.inl ⟨Nat.le_of_ble_eq_true rfl, mo_139, ms_139, pm_172⟩)⟩, List.forall_mem_cons.mpr ⟨⟨d_162_252, (by decide)⟩, List.forall_mem_cons.mpr ⟨d_162_255, List.forall_mem_cons.mpr ⟨⟨d_162_256, ⟨mo_159, mi_159, se_159, pm_184⟩⟩, List.forall_mem_cons.mpr ⟨d_162_259, List.forall_mem_cons.mpr ⟨⟨d_162_260, ⟨mo_161, mi_161, se_161, pm_186⟩⟩, List.forall_mem_cons.mpr ⟨⟨d_162_263, (by decide)⟩, List.forall_mem_cons.mpr ⟨d_162_266, List.forall_mem_cons.mpr ⟨⟨d_162_267, Or.inl pf_292⟩, List.forall_mem_cons.mpr ⟨d_162_270, List.forall_mem_cons.mpr ⟨d_162_272, List.forall_mem_cons.mpr ⟨d_162_274, List.forall_mem_cons.mpr ⟨d_162_276, List.forall_mem_cons.mpr ⟨d_162_278, List.forall_mem_cons.mpr ⟨d_162_280, List.forall_mem_cons.mpr ⟨⟨d_162_282, (Or.inl ⟨Nat.le_of_ble_eq_true rfl, mo_139, ms_139, pm_172⟩)⟩, List.forall_mem_cons.mpr ⟨⟨d_162_285, (by decide)⟩, List.forall_mem_cons.mpr ⟨d_162_288, List.forall_mem_cons.mpr ⟨⟨d_162_289, ⟨mo_163, mi_163, se_163, pm_187⟩⟩, List.forall_mem_cons.mpr ⟨⟨d_162_292, (by decide)⟩, List.forall_mem_cons.mpr ⟨d_162_295, List.forall_mem_cons.mpr ⟨d_162_296, List.forall_mem_cons.mpr ⟨⟨d_162_297, pf_237⟩, List.forall_mem_cons.mpr ⟨d_162_300, List.forall_mem_cons.mpr ⟨d_162_301, List.forall_mem_cons.mpr ⟨⟨d_162_302, Or.inl pf_236⟩, List.forall_mem_cons.mpr ⟨⟨d_162_305, (by decide)⟩, List.forall_mem_cons.mpr ⟨d_162_308, List.forall_mem_cons.mpr ⟨⟨d_162_309, Or.inl pf_241⟩, List.forall_mem_cons.mpr ⟨d_162_312, List.forall_mem_cons.mpr ⟨⟨d_162_313, Or.inl pf_239⟩, List.forall_mem_cons.mpr ⟨⟨d_162_316, (by decide)⟩, List.forall_mem_cons.mpr ⟨d_162_319, List.forall_mem_cons.mpr ⟨⟨d_162_320, (by decide)⟩, List.forall_mem_cons.mpr ⟨d_162_323, List.forall_mem_cons.mpr ⟨⟨d_162_324, pf_237⟩, List.forall_mem_cons.mpr ⟨d_162_327, fun _ h => absurd h List.not_mem_nil⟩⟩⟩⟩⟩⟩⟩⟩⟩⟩⟩⟩⟩⟩⟩⟩⟩⟩⟩⟩⟩⟩⟩⟩⟩⟩⟩⟩⟩⟩⟩⟩⟩⟩⟩⟩⟩⟩⟩⟩⟩⟩⟩⟩⟩⟩⟩⟩⟩⟩⟩⟩⟩⟩⟩⟩⟩⟩⟩⟩⟩⟩⟩⟩⟩⟩⟩⟩⟩⟩⟩⟩⟩⟩⟩⟩⟩⟩⟩⟩⟩⟩⟩⟩⟩⟩⟩⟩⟩⟩⟩⟩⟩⟩⟩⟩⟩⟩⟩⟩⟩⟩⟩⟩⟩⟩⟩⟩⟩⟩⟩⟩⟩⟩⟩⟩⟩⟩⟩⟩⟩⟩⟩⟩⟩⟩⟩⟩⟩⟩⟩⟩⟩⟩⟩⟩⟩⟩⟩⟩⟩⟩⟩⟩⟩⟩⟩⟩⟩⟩⟩⟩⟩⟩⟩⟩⟩
theorem d_163_0 : decode prog_12_method_33_code 0 = .ok (.aload_n 0, 1) := by decide +kernel
theorem d_163_1 : decode prog_12_method_33_code 1 = .ok (.invokevirtual 257, 3) := by decide +kernel
theorem d_163_4 : decode prog_12_method_33_code 4 = .ok (.aload_n 0, 1) := by decide +kernel
theorem d_163_5 : decode prog_12_method_33_code 5 = .ok (.getfield 105, 3) := by decide +kernel
theorem d_163_8 : decode prog_12_method_33_code 8 = .ok (.ifCond .ne 19, 3) := by decide +kernel
theorem d_163_11 : decode prog_12_method_33_code 11 = .ok (.aload_n 0, 1) := by decide +kernel
theorem d_163_12 : decode prog_12_method_33_code 12 = .ok (.bipush 44, 2) := by decide +kernel
theorem d_163_14 : decode prog_12_method_33_code 14 = .ok (.invokevirtual 150, 3) := by decide +kernel
theorem d_163_17 : decode prog_12_method_33_code 17 = .ok (.ifCond .eq 10, 3) := by decide +kernel
theorem d_163_20 : decode prog_12_method_33_code 20 = .ok (.aload_n 0, 1) := by decide +kernel
theorem d_163_21 : decode prog_12_method_33_code 21 = .ok (.invokevirtual 257, 3) := by decide +kernel
theorem d_163_24 : decode prog_12_method_33_code 24 = .ok (.goto (-20), 3) := by decide +kernel
theorem d_163_27 : decode prog_12_method_33_code 27 = .ok (.aload_n 0, 1) := by decide +kernel
theorem d_163_28 : decode prog_12_method_33_code 28 = .ok (.aload_n 0, 1) := by decide +kernel
theorem d_163_29 : decode prog_12_method_33_code 29 = .ok (.getfield 105, 3) := by decide +kernel
theorem d_163_32 : decode prog_12_method_33_code 32 = .ok (.ifCond .ne 31, 3) := by decide +kernel
theorem d_163_35 : decode prog_12_method_33_code 35 = .ok (.aload_n 0, 1) := by decide +kernel
theorem d_163_36 : decode prog_12_method_33_code 36 = .ok (.getfield 215, 3) := by decide +kernel
theorem d_163_39 : decode prog_12_method_33_code 39 = .ok (.iconst 3, 1) := by decide +kernel
theorem d_163_40 : decode prog_12_method_33_code 40 = .ok (.if_icmp .gt 23, 3) := by decide +kernel
theorem d_163_43 : decode prog_12_method_33_code 43 = .ok (.aload_n 0, 1) := by decide +kernel
theorem d_163_44 : decode prog_12_method_33_code 44 = .ok (.bipush 102, 2) := by decide +kernel
theorem d_163_46 : decode prog_12_method_33_code 46 = .ok (.bipush 114, 2) := by decide +kernel
theorem d_163_48 : decode prog_12_method_33_code 48 = .ok (.bipush 111, 2) := by decide +kernel
theorem d_163_50 : decode prog_12_method_33_code 50 = .ok (.bipush 109, 2) := by decide +kernel
theorem d_163_52 : decode prog_12_method_33_code 52 = .ok (.iconst 0, 1) := by decide +kernel
theorem d_163_53 : decode prog_12_method_33_code 53 = .ok (.iconst 0, 1) := by decide +kernel
theorem d_163_54 : decode prog_12_method_33_code 54 = .ok (.invokestatic 156, 3) := by decide +kernel
theorem d_163_57 : decode prog_12_method_33_code 57 = .ok (.invokevirtual 160, 3) := by decide +kernel
theorem d_163_60 : decode prog_12_method_33_code 60 = .ok (.ifCond .ne 7, 3) := by decide +kernel
theorem d_163_63 : decode prog_12_method_33_code 63 = .ok (.iconst 1, 1) := by decide +kernel
theorem d_163_64 : decode prog_12_method_33_code 64 = .ok (.goto 4, 3) := by decide +kernel
theorem d_163_67 : decode prog_12_method_33_code 67 = .ok (.iconst 0, 1) := by decide +kernel
theorem d_163_68 : decode prog_12_method_33_code 68 = .ok (.putfield 105, 3) := by decide +kernel
theorem d_163_71 : decode prog_12_method_33_code 71 = .ok (.aload_n 0, 1) := by decide +kernel
theorem d_163_72 : decode prog_12_method_33_code 72 = .ok (.getfield 105, 3) := by decide +kernel
theorem d_163_75 : decode prog_12_method_33_code 75 = .ok (.ifCond .eq 4, 3) := by decide +kernel
theorem d_163_78 : decode prog_12_method_33_code 78 = .ok (.return_, 1) := by decide +kernel
theorem d_163_79 : decode prog_12_method_33_code 79 = .ok (.aload_n 0, 1) := by decide +kernel
theorem d_163_80 : decode prog_12_method_33_code 80 = .ok (.invokevirtual 254, 3) := by decide +kernel
theorem d_163_83 : decode prog_12_method_33_code 83 = .ok (.aload_n 0, 1) := by decide +kernel
theorem d_163_84 : decode prog_12_method_33_code 84 = .ok (.bipush 44, 2) := by decide +kernel
theorem d_163_86 : decode prog_12_method_33_code 86 = .ok (.invokevirtual 150, 3) := by decide +kernel
theorem d_163_89 : decode prog_12_method_33_code 89 = .ok (.ifCond .eq 7, 3) := by decide +kernel
theorem d_163_92 : decode prog_12_method_33_code 92 = .ok (.aload_n 0, 1) := by decide +kernel
theorem d_163_93 : decode prog_12_method_33_code 93 = .ok (.invokevirtual 254, 3) := by decide +kernel
theorem d_163_96 : decode prog_12_method_33_code 96 = .ok (.aload_n 0, 1) := by decide +kernel
theorem d_163_97 : decode prog_12_method_33_code 97 = .ok (.invokevirtual 260, 3) := by decide +kernel
theorem d_163_100 : decode prog_12_method_33_code 100 = .ok (.aload_n 0, 1) := by decide +kernel
theorem d_163_101 : decode prog_12_method_33_code 101 = .ok (.getfield 105, 3) := by decide +kernel
theorem d_163_104 : decode prog_12_method_33_code 104 = .ok (.ifCond .ne 85, 3) := by decide +kernel
theorem d_163_107 : decode prog_12_method_33_code 107 = .ok (.aload_n 0, 1) := by decide +kernel
theorem d_163_108 : decode prog_12_method_33_code 108 = .ok (.bipush 111, 2) := by decide +kernel
theorem d_163_110 : decode prog_12_method_33_code 110 = .ok (.bipush 114, 2) := by decide +kernel
theorem d_163_112 : decode prog_12_method_33_code 112 = .ok (.bipush 100, 2) := by decide +kernel
theorem d_163_114 : decode prog_12_method_33_code 114 = .ok (.bipush 101, 2) := by decide +kernel
theorem d_163_116 : decode prog_12_method_33_code 116 = .ok (.bipush 114, 2) := by decide +kernel
theorem d_163_118 : decode prog_12_method_33_code 118 = .ok (.iconst 0, 1) := by decide +kernel
theorem d_163_119 : decode prog_12_method_33_code 119 = .ok (.invokestatic 156, 3) := by decide +kernel
theorem d_163_122 : decode prog_12_method_33_code 122 = .ok (.invokevirtual 160, 3) := by decide +kernel
theorem d_163_125 : decode prog_12_method_33_code 125 = .ok (.ifCond .eq 64, 3) := by decide +kernel
theorem d_163_128 : decode prog_12_method_33_code 128 = .ok (.aload_n 0, 1) := by decide +kernel
theorem d_163_129 : decode prog_12_method_33_code 129 = .ok (.iconst 1, 1) := by decide +kernel
theorem d_163_130 : decode prog_12_method_33_code 130 = .ok (.putfield 221, 3) := by decide +kernel
theorem d_163_133 : decode prog_12_method_33_code 133 = .ok (.aload_n 0, 1) := by decide +kernel
theorem d_163_134 : decode prog_12_method_33_code 134 = .ok (.aload_n 0, 1) := by decide +kernel
theorem d_163_135 : decode prog_12_method_33_code 135 = .ok (.getfield 123, 3) := by decide +kernel
theorem d_163_138 : decode prog_12_method_33_code 138 = .ok (.putfield 266, 3) := by decide +kernel
theorem d_163_141 : decode prog_12_method_33_code 141 = .ok (.aload_n 0, 1) := by decide +kernel
theorem d_163_142 : decode prog_12_method_33_code 142 = .ok (.invokevirtual 191, 3) := by decide +kernel
theorem d_163_145 : decode prog_12_method_33_code 145 = .ok (.aload_n 0, 1) := by decide +kernel
theorem d_163_146 : decode prog_12_method_33_code 146 = .ok (.aload_n 0, 1) := by decide +kernel
theorem d_163_147 : decode prog_12_method_33_code 147 = .ok (.getfield 123, 3) := by decide +kernel
theorem d_163_150 : decode prog_12_method_33_code 150 = .ok (.putfield 269, 3) := by decide +kernel
theorem d_163_153 : decode prog_12_method_33_code 153 = .ok (.aload_n 0, 1) := by decide +kernel
theorem d_163_154 : decode prog_12_method_33_code 154 = .ok (.aload_n 0, 1) := by decide +kernel
theorem d_163_155 : decode prog_12_method_33_code 155 = .ok (.getfield 105, 3) := by decide +kernel
theorem d_163_158 : decode prog_12_method_33_code 158 = .ok (.ifCond .ne 27, 3) := by decide +kernel
theorem d_163_161 : decode prog_12_method_33_code 161 = .ok (.aload_n 0, 1) := by decide +kernel
theorem d_163_162 : decode prog_12_method_33_code 162 = .ok (.bipush 100, 2) := by decide +kernel
theorem d_163_164 : decode prog_12_method_33_code 164 = .ok (.bipush 101, 2) := by decide +kernel
theorem d_163_166 : decode prog_12_method_33_code 166 = .ok (.bipush 115, 2) := by decide +kernel
theorem d_163_168 : decode prog_12_method_33_code 168 = .ok (.bipush 99, 2) := by decide +kernel
theorem d_163_170 : decode prog_12_method_33_code 170 = .ok (.iconst 0, 1) := by decide +kernel
theorem d_163_171 : decode prog_12_method_33_code 171 = .ok (.iconst 0, 1) := by decide +kernel
theorem d_163_172 : decode prog_12_method_33_code 172 = .ok (.invokestatic 156, 3) := by decide +kernel
theorem d_163_175 : decode prog_12_method_33_code 175 = .ok (.invokevirtual 160, 3) := by decide +kernel
theorem d_163_178 : decode prog_12_method_33_code 178 = .ok (.ifCond .eq 7, 3) := by decide +kernel
theorem d_163_181 : decode prog_12_method_33_code 181 = .ok (.iconst 1, 1) := by decide +kernel
theorem d_163_182 : decode prog_12_method_33_code 182 = .ok (.goto 4, 3) := by decide +kernel
theorem d_163_185 : decode prog_12_method_33_code 185 = .ok (.iconst 0, 1) := by decide +kernel
theorem d_163_186 : decode prog_12_method_33_code 186 = .ok (.putfield 224, 3) := by decide +kernel
theorem d_163_189 : decode prog_12_method_33_code 189 = .ok (.aload_n 0, 1) := by decide +kernel
theorem d_163_190 : decode prog_12_method_33_code 190 = .ok (.getfield 105, 3) := by decide +kernel
theorem d_163_193 : decode prog_12_method_33_code 193 = .ok (.ifCond .ne 33, 3) := by decide +kernel
theorem d_163_196 : decode prog_12_method_33_code 196 = .ok (.aload_n 0, 1) := by decide +kernel
theorem d_163_197 : decode prog_12_method_33_code 197 = .ok (.bipush 108, 2) := by decide +kernel
theorem d_163_199 : decode prog_12_method_33_code 199 = .ok (.bipush 105, 2) := by decide +kernel
theorem d_163_201 : decode prog_12_method_33_code 201 = .ok (.bipush 109, 2) := by decide +kernel
theorem d_163_203 : decode prog_12_method_33_code 203 = .ok (.bipush 105, 2) := by decide +kernel
theorem d_163_205 : decode prog_12_method_33_code 205 = .ok (.bipush 116, 2) := by decide +kernel
theorem d_163_207 : decode prog_12_method_33_code 207 = .ok (.iconst 0, 1) := by decide +kernel
theorem d_163_208 : decode prog_12_method_33_code 208 = .ok (.invokestatic 156, 3) := by decide +kernel
theorem d_163_211 : decode prog_12_method_33_code 211 = .ok (.invokevirtual 160, 3) := by decide +kernel
theorem d_163_214 : decode prog_12_method_33_code 214 = .ok (.ifCond .eq 12, 3) := by decide +kernel
theorem d_163_217 : decode prog_12_method_33_code 217 = .ok (.aload_n 0, 1) := by decide +kernel
theorem d_163_218 : decode prog_12_method_33_code 218 = .ok (.aload_n 0, 1) := by decide +kernel
theorem d_163_219 : decode prog_12_method_33_code 219 = .ok (.iconst 3, 1) := by decide +kernel
theorem d_163_220 : decode prog_12_method_33_code 220 = .ok (.invokevirtual 119, 3) := by decide +kernel
theorem d_163_223 : decode prog_12_method_33_code 223 = .ok (.putfield 227, 3) := by decide +kernel
theorem d_163_226 : decode prog_12_method_33_code 226 = .ok (.return_, 1) := by decide +kernel
set_option maxRecDepth 20000 in
theorem ok_163 : ∀ r ∈ tb_163, sm_ok 163 r := List.forall_mem_cons.mpr ⟨d_163_0, List.forall_mem_cons.mpr ⟨⟨d_163_1, ⟨mo_158, mi_158, se_158, pm_185⟩⟩, List.forall_mem_cons.mpr ⟨d_163_4, List.forall_mem_cons.mpr ⟨⟨d_163_5, Or.inl pf_236⟩, List.forall_mem_cons.mpr ⟨⟨d_163_8, (by decide)⟩, List.forall_mem_cons.mpr ⟨d_163_11, List.forall_mem_cons.mpr ⟨d_163_12, List.forall_mem_cons.mpr ⟨⟨d_163_14, ⟨mo_141, mi_141, se_141, pm_170⟩⟩, List.forall_mem_cons.mpr ⟨⟨d_163_17, (by decide)⟩, List.forall_mem_cons.mpr ⟨d_163_20, List.forall_mem_cons.mpr ⟨⟨d_163_21, ⟨mo_158, mi_158, se_158, pm_185⟩⟩, List.forall_mem_cons.mpr ⟨⟨d_163_24, (by decide)⟩, List.forall_mem_cons.mpr ⟨d_163_27, List.forall_mem_cons.mpr ⟨d_163_28, List.forall_mem_cons.mpr ⟨⟨d_163_29, Or.inl pf_236⟩, List.forall_mem_cons.mpr ⟨⟨d_163_32, (by decide)⟩, List.forall_mem_cons.mpr ⟨d_163_35, List.forall_mem_cons.mpr ⟨⟨d_163_36, Or.inl pf_275⟩, List.forall_mem_cons.mpr ⟨d_163_39, List.forall_mem_cons.mpr ⟨⟨d_163_40, (by decide)⟩, List.forall_mem_cons.mpr ⟨d_163_43, List.forall_mem_cons.mpr ⟨d_163_44, List.forall_mem_cons.mpr ⟨d_163_46, List.forall_mem_cons.mpr ⟨d_163_48, List.forall_mem_cons.mpr ⟨d_163_50, List.forall_mem_cons.mpr ⟨d_163_52, List.forall_mem_cons.mpr ⟨d_163_53, List.forall_mem_cons.mpr ⟨⟨d_163_54, (Or.inl ⟨Nat.le_of_ble_eq_true rfl, mo_139, ms_139, pm_172⟩)⟩, List.forall_mem_cons.mpr ⟨⟨d_163_57, ⟨mo_142, mi_142, se_142, pm_173⟩⟩, List.forall_mem_cons.mpr ⟨⟨d_163_60, (by decide)⟩, List.forall_mem_cons.mpr ⟨d_163_63, List.forall_mem_cons.mpr ⟨⟨d_163_64, (by decide)⟩, List.forall_mem_cons.mpr ⟨d_163_67, List.forall_mem_cons.mpr ⟨⟨d_163_68, pf_237⟩, List.forall_mem_cons.mpr ⟨d_163_71, List.forall_mem_cons.mpr ⟨⟨d_163_72, Or.inl pf_236⟩, List.forall_mem_cons.mpr ⟨⟨d_163_75, (by decide)⟩, List.forall_mem_cons.mpr ⟨d_163_78, List.forall_mem_cons.mpr ⟨d_163_79, List.forall_mem_cons.mpr ⟨⟨d_163_80, ⟨mo_159, mi_159, se_159, pm_184⟩⟩, List.forall_mem_cons.mpr ⟨d_163_83, List.forall_mem_cons.mpr ⟨d_163_84, List.forall_mem_cons.mpr ⟨⟨d_163_86, ⟨mo_141, mi_141, se_141, pm_170⟩⟩, List.forall_mem_cons.mpr ⟨⟨d_163_89, (by decide)⟩, List.forall_mem_cons.mpr ⟨d_163_92, List.forall_mem_cons.mpr ⟨⟨d_163_93, ⟨mo_159, mi_159, se_159, pm_184⟩⟩, List.forall_mem_cons.mpr ⟨d_163_96, List.forall_mem_cons.mpr ⟨⟨d_163_97, ⟨mo_161, mi_161, se_161, pm_186⟩⟩, List.forall_mem_cons.mpr ⟨d_163_100, List.forall_mem_cons.mpr ⟨⟨d_163_101, Or.inl pf_236⟩, List.forall_mem_cons.mpr ⟨⟨d_163_104, (by decide)⟩, List.forall_mem_cons.mpr ⟨d_163_107, List.forall_mem_cons.mpr ⟨d_163_108, List.forall_mem_cons.mpr ⟨d_163_110, List.forall_mem_cons.mpr ⟨d_163_112, List.forall_mem_cons.mpr ⟨d_163_114, List.forall_mem_cons.mpr ⟨d_163_116, List.forall_mem_cons.mpr ⟨d_163_118, List.forall_mem_cons.mpr ⟨⟨d_163_119, (Or.inl ⟨Nat.le_of_ble_eq_true rfl, mo_139, ms_139, pm_172⟩)⟩, List.forall_mem_cons.mpr ⟨⟨d_163_122, ⟨mo_142, mi_142, se_142, pm_173⟩⟩, List.forall_mem_cons.mpr ⟨⟨d_163_125, (by decide)⟩, List.forall_mem_cons.mpr ⟨d_163_128, List.forall_mem_cons.mpr ⟨d_163_129, List.forall_mem_cons.mpr ⟨⟨d_163_130, pf_282⟩, List.forall_mem_cons.mpr ⟨d_163_133, List.forall_mem_cons.mpr ⟨d_163_134, List.forall_mem_cons.mpr ⟨⟨d_163_135, Or.inl pf_244⟩, List.forall_mem_cons.mpr ⟨⟨d_163_138, pf_293⟩, List.forall_mem_cons.mpr ⟨d_163_141, List.forall_mem_cons.mpr ⟨⟨d_163_142, ⟨mo_151, mi_151, se_151, pm_179⟩⟩, List.forall_mem_cons.mpr ⟨d_163_145, List.forall_mem_cons.mpr ⟨d_163_146, List.forall_mem_cons.mpr ⟨⟨d_163_147, Or.inl pf_244⟩, List.forall_mem_cons.mpr ⟨⟨d_163_150, pf_294⟩, List.forall_mem_cons.mpr ⟨d_163_153, List.forall_mem_cons.mpr ⟨d_163_154, List.forall_mem_cons.mpr ⟨⟨d_163_155, Or.inl pf_236⟩, List.forall_mem_cons.mpr ⟨⟨d_163_158, (by decide)⟩, List.forall_mem_cons.mpr ⟨d_163_161, List.forall_mem_cons.mpr ⟨d_163_162, List.forall_mem_cons.mpr ⟨d_163_164, List.forall_mem_cons.mpr ⟨d_163_166, List.forall_mem_cons.mpr ⟨d_163_168, List.forall_mem_cons.mpr ⟨d_163_170, List.forall_mem_cons.mpr ⟨d_163_171, List.forall_mem_cons.mpr ⟨⟨d_163_172, (Or.inl ⟨Nat.le_of_ble_eq_true rfl, mo_139, ms_139, pm_172⟩)⟩, List.forall_mem_cons.mpr ⟨⟨d_163_175, ⟨mo_142, mi_142, se_142, pm_173⟩⟩, List.forall_mem_cons.mpr ⟨⟨d_163_178, (by decide)⟩, List.forall_mem_cons.mpr ⟨d_163_181, List.forall_mem_cons.mpr ⟨⟨d_163_182, (by decide)⟩, List.forall_mem_cons.mpr ⟨d_163_185, List.forall_mem_cons.mpr ⟨⟨d_163_186, pf_283⟩, List.forall_mem_cons.mpr ⟨d_163_189, List.forall_mem_cons.mpr ⟨⟨d_163_190, Or.inl pf_236⟩, List.forall_mem_cons.mpr ⟨⟨d_163_193, (by decide)⟩, List.forall_mem_cons.mpr ⟨d_163_196, List.forall_mem_cons.mpr ⟨d_163_197, List.forall_mem_cons.mpr ⟨d_163_199, List.forall_mem_cons.mpr ⟨d_163_201, List.forall_mem_cons.mpr ⟨d_163_203, List.forall_mem_cons.mpr ⟨d_163_205, List.forall_mem_cons.mpr ⟨d_163_207, List.forall_mem_cons.mpr ⟨⟨d_163_208, (Or.inl ⟨Nat.le_of_ble_eq_true rfl, mo_139, ms_139, pm_172⟩)⟩, List.forall_mem_cons.mpr ⟨⟨d_163_211, ⟨mo_142, mi_142, se_142, pm_173⟩⟩, List.forall_mem_cons.mpr ⟨⟨d_163_214, (by decide)⟩, List.forall_mem_cons.mpr ⟨d_163_217, List.forall_mem_cons.mpr ⟨d_163_218, List.forall_mem_cons.mpr ⟨d_163_219, List.forall_mem_cons.mpr ⟨⟨d_163_220, ⟨mo_143, mi_143, se_143, pm_166⟩⟩, List.forall_mem_cons.mpr ⟨⟨d_163_223, pf_284⟩, List.forall_mem_cons.mpr ⟨d_163_226, fun _ h => absurd h List.not_mem_nil⟩⟩⟩⟩⟩⟩⟩⟩⟩⟩⟩⟩⟩⟩⟩⟩⟩⟩⟩⟩⟩⟩⟩⟩⟩⟩⟩⟩⟩⟩⟩⟩⟩⟩⟩⟩⟩⟩⟩⟩⟩⟩⟩⟩⟩⟩⟩⟩⟩⟩⟩⟩⟩⟩⟩⟩⟩⟩⟩⟩⟩⟩⟩⟩⟩⟩⟩⟩⟩⟩⟩⟩⟩⟩⟩⟩⟩⟩⟩⟩⟩⟩⟩⟩⟩⟩⟩⟩⟩⟩⟩⟩⟩⟩⟩⟩⟩⟩⟩⟩⟩⟩⟩⟩⟩⟩⟩⟩⟩⟩⟩
theorem d_164_0 : decode prog_12_method_34_code 0 = .ok (.aload_n 0, 1) := by decide +kernel
theorem d_164_1 : decode prog_12_method_34_code 1 = .ok (.getfield 251, 3) := by decide +kernel
theorem d_164_4 : decode prog_12_method_34_code 4 = .ok (.bipush 99, 2) := by decide +kernel
theorem d_164_6 : decode prog_12_method_34_code 6 = .ok (.bipush 114, 2) := by decide +kernel
theorem d_164_8 : decode prog_12_method_34_code 8 = .ok (.bipush 101, 2) := by decide +kernel
theorem d_164_10 : decode prog_12_method_34_code 10 = .ok (.bipush 97, 2) := by decide +kernel
theorem d_164_12 : decode prog_12_method_34_code 12 = .ok (.bipush 116, 2) := by decide +kernel
theorem d_164_14 : decode prog_12_method_34_code 14 = .ok (.bipush 101, 2) := by decide +kernel
theorem d_164_16 : decode prog_12_method_34_code 16 = .ok (.invokestatic 156, 3) := by decide +kernel
theorem d_164_19 : decode prog_12_method_34_code 19 = .ok (.if_icmp .ne 7, 3) := by decide +kernel
theorem d_164_22 : decode prog_12_method_34_code 22 = .ok (.iconst 1, 1) := by decide +kernel
theorem d_164_23 : decode prog_12_method_34_code 23 = .ok (.goto 4, 3) := by decide +kernel
theorem d_164_26 : decode prog_12_method_34_code 26 = .ok (.iconst 0, 1) := by decide +kernel
theorem d_164_27 : decode prog_12_method_34_code 27 = .ok (.istore_n 1, 1) := by decide +kernel
theorem d_164_28 : decode prog_12_method_34_code 28 = .ok (.iconst 0, 1) := by decide +kernel
theorem d_164_29 : decode prog_12_method_34_code 29 = .ok (.istore_n 2, 1) := by decide +kernel
theorem d_164_30 : decode prog_12_method_34_code 30 = .ok (.iload_n 2, 1) := by decide +kernel
theorem d_164_31 : decode prog_12_method_34_code 31 = .ok (.aload_n 0, 1) := by decide +kernel
theorem d_164_32 : decode prog_12_method_34_code 32 = .ok (.getfield 218, 3) := by decide +kernel
theorem d_164_35 : decode prog_12_method_34_code 35 = .ok (.if_icmp .ge 34, 3) := by decide +kernel
theorem d_164_38 : decode prog_12_method_34_code 38 = .ok (.aload_n 0, 1) := by decide +kernel
theorem d_164_39 : decode prog_12_method_34_code 39 = .ok (.getfield 50, 3) := by decide +kernel
theorem d_164_42 : decode prog_12_method_34_code 42 = .ok (.aload_n 0, 1) := by decide +kernel
theorem d_164_43 : decode prog_12_method_34_code 43 = .ok (.getfield 32, 3) := by decide +kernel
theorem d_164_46 : decode prog_12_method_34_code 46 = .ok (.iload_n 2, 1) := by decide +kernel
theorem d_164_47 : decode prog_12_method_34_code 47 = .ok (.iaload, 1) := by decide +kernel
theorem d_164_48 : decode prog_12_method_34_code 48 = .ok (.iaload, 1) := by decide +kernel
theorem d_164_49 : decode prog_12_method_34_code 49 = .ok (.ifCond .le 7, 3) := by decide +kernel
theorem d_164_52 : decode prog_12_method_34_code 52 = .ok (.iconst 1, 1) := by decide +kernel
theorem d_164_53 : decode prog_12_method_34_code 53 = .ok (.goto 4, 3) := by decide +kernel
theorem d_164_56 : decode prog_12_method_34_code 56 = .ok (.iconst 0, 1) := by decide +kernel
theorem d_164_57 : decode prog_12_method_34_code 57 = .ok (.iload_n 1, 1) := by decide +kernel
theorem d_164_58 : decode prog_12_method_34_code 58 = .ok (.if_icmp .ne 5, 3) := by decide +kernel
theorem d_164_61 : decode prog_12_method_34_code 61 = .ok (.iconst 0, 1) := by decide +kernel
theorem d_164_62 : decode prog_12_method_34_code 62 = .ok (.ireturn, 1) := by decide +kernel
theorem d_164_63 : decode prog_12_method_34_code 63 = .ok (.iinc 2 1, 3) := by decide +kernel
theorem d_164_66 : decode prog_12_method_34_code 66 = .ok (.goto (-36), 3) := by decide +kernel
theorem d_164_69 : decode prog_12_method_34_code 69 = .ok (.aload_n 0, 1) := by decide +kernel
theorem d_164_70 : decode prog_12_method_34_code 70 = .ok (.getfield 218, 3) := by decide +kernel
theorem d_164_73 : decode prog_12_method_34_code 73 = .ok (.iconst 2, 1) := by decide +kernel
theorem d_164_74 : decode prog_12_method_34_code 74 = .ok (.if_icmp .ne 20, 3) := by decide +kernel
theorem d_164_77 : decode prog_12_method_34_code 77 = .ok (.aload_n 0, 1) := by decide +kernel
theorem d_164_78 : decode prog_12_method_34_code 78 = .ok (.getfield 32, 3) := by decide +kernel
theorem d_164_81 : decode prog_12_method_34_code 81 = .ok (.iconst 0, 1) := by decide +kernel
theorem d_164_82 : decode prog_12_method_34_code 82 = .ok (.iaload, 1) := by decide +kernel
theorem d_164_83 : decode prog_12_method_34_code 83 = .ok (.aload_n 0, 1) := by decide +kernel
theorem d_164_84 : decode prog_12_method_34_code 84 = .ok (.getfield 32, 3) := by decide +kernel
theorem d_164_87 : decode prog_12_method_34_code 87 = .ok (.iconst 1, 1) := by decide +kernel
theorem d_164_88 : decode prog_12_method_34_code 88 = .ok (.iaload, 1) := by decide +kernel
theorem d_164_89 : decode prog_12_method_34_code 89 = .ok (.if_icmp .ne 5, 3) := by decide +kernel
theorem d_164_92 : decode prog_12_method_34_code 92 = .ok (.iconst 0, 1) := by decide +kernel
theorem d_164_93 : decode prog_12_method_34_code 93 = .ok (.ireturn, 1) := by decide +kernel
theorem d_164_94 : decode prog_12_method_34_code 94 = .ok (.aload_n 0, 1) := by decide +kernel
theorem d_164_95 : decode prog_12_method_34_code 95 = .ok (.getfield 32, 3) := by decide +kernel
theorem d_164_98 : decode prog_12_method_34_code 98 = .ok (.iconst 0, 1) := by decide +kernel
theorem d_164_99 : decode prog_12_method_34_code 99 = .ok (.iaload, 1) := by decide +kernel
theorem d_164_100 : decode prog_12_method_34_code 100 = .ok (.istore_n 2, 1) := by decide +kernel
theorem d_164_101 : decode prog_12_method_34_code 101 = .ok (.aload_n 0, 1) := by decide +kernel
theorem d_164_102 : decode prog_12_method_34_code 102 = .ok (.getfield 251, 3) := by decide +kernel
theorem d_164_105 : decode prog_12_method_34_code 105 = .ok (.bipush 105, 2) := by decide +kernel
theorem d_164_107 : decode prog_12_method_34_code 107 = .ok (.bipush 110, 2) := by decide +kernel
theorem d_164_109 : decode prog_12_method_34_code 109 = .ok (.bipush 100, 2) := by decide +kernel
theorem d_164_111 : decode prog_12_method_34_code 111 = .ok (.bipush 101, 2) := by decide +kernel
theorem d_164_113 : decode prog_12_method_34_code 113 = .ok (.bipush 120, 2) := by decide +kernel
theorem d_164_115 : decode prog_12_method_34_code 115 = .ok (.iconst 0, 1) := by decide +kernel
theorem d_164_116 : decode prog_12_method_34_code 116 = .ok (.invokestatic 156, 3) := by decide +kernel
theorem d_164_119 : decode prog_12_method_34_code 119 = .ok (.if_icmp .ne 7, 3) := by decide +kernel
theorem d_164_122 : decode prog_12_method_34_code 122 = .ok (.iconst 1, 1) := by decide +kernel
theorem d_164_123 : decode prog_12_method_34_code 123 = .ok (.goto 4, 3) := by decide +kernel
theorem d_164_126 : decode prog_12_method_34_code 126 = .ok (.iconst 0, 1) := by decide +kernel
theorem d_164_127 : decode prog_12_method_34_code 127 = .ok (.istore_n 3, 1) := by decide +kernel
theorem d_164_128 : decode prog_12_method_34_code 128 = .ok (.iload_n 3, 1) := by decide +kernel
theorem d_164_129 : decode prog_12_method_34_code 129 = .ok (.ifCond .eq 41, 3) := by decide +kernel
theorem d_164_132 : decode prog_12_method_34_code 132 = .ok (.aload_n 0, 1) := by decide +kernel
theorem d_164_133 : decode prog_12_method_34_code 133 = .ok (.getfield 230, 3) := by decide +kernel
theorem d_164_136 : decode prog_12_method_34_code 136 = .ok (.ifCond .eq 32, 3) := by decide +kernel
theorem d_164_139 : decode prog_12_method_34_code 139 = .ok (.aload_n 0, 1) := by decide +kernel
theorem d_164_140 : decode prog_12_method_34_code 140 = .ok (.getfield 230, 3) := by decide +kernel
theorem d_164_143 : decode prog_12_method_34_code 143 = .ok (.aload_n 0, 1) := by decide +kernel
theorem d_164_144 : decode prog_12_method_34_code 144 = .ok (.getfield 50, 3) := by decide +kernel
theorem d_164_147 : decode prog_12_method_34_code 147 = .ok (.iload_n 2, 1) := by decide +kernel
theorem d_164_148 : decode prog_12_method_34_code 148 = .ok (.iaload, 1) := by decide +kernel
theorem d_164_149 : decode prog_12_method_34_code 149 = .ok (.if_icmp .ge 19, 3) := by decide +kernel
theorem d_164_152 : decode prog_12_method_34_code 152 = .ok (.aload_n 0, 1) := by decide +kernel
theorem d_164_153 : decode prog_12_method_34_code 153 = .ok (.getfield 60, 3) := by decide +kernel
theorem d_164_156 : decode prog_12_method_34_code 156 = .ok (.iconst 4, 1) := by decide +kernel
theorem d_164_157 : decode prog_12_method_34_code 157 = .ok (.iload_n 2, 1) := by decide +kernel
theorem d_164_158 : decode prog_12_method_34_code 158 = .ok (.imul, 1) := by decide +kernel
theorem d_164_159 : decode prog_12_method_34_code 159 = .ok (.aload_n 0, 1) := by decide +kernel
theorem d_164_160 : decode prog_12_method_34_code 160 = .ok (.getfield 230, 3) := by decide +kernel
theorem d_164_163 : decode prog_12_method_34_code 163 = .ok (.iadd, 1) := by decide +kernel
theorem d_164_164 : decode prog_12_method_34_code 164 = .ok (.baload, 1) := by decide +kernel
theorem d_164_165 : decode prog_12_method_34_code 165 = .ok (.ifCond .eq 5, 3) := by decide +kernel
theorem d_164_168 : decode prog_12_method_34_code 168 = .ok (.iconst 0, 1) := by decide +kernel
theorem d_164_169 : decode prog_12_method_34_code 169 = .ok (.ireturn, 1) := by decide +kernel
theorem d_164_170 : decode prog_12_method_34_code 170 = .ok (.aload_n 0, 1) := by decide +kernel
theorem d_164_171 : decode prog_12_method_34_code 171 = .ok (.getfield 251, 3) := by decide +kernel
theorem d_164_174 : decode prog_12_method_34_code 174 = .ok (.bipush 117, 2) := by decide +kernel
theorem d_164_176 : decode prog_12_method_34_code 176 = .ok (.bipush 112, 2) := by decide +kernel
theorem d_164_178 : decode prog_12_method_34_code 178 = .ok (.bipush 100, 2) := by decide +kernel
theorem d_164_180 : decode prog_12_method_34_code 180 = .ok (.bipush 97, 2) := by decide +kernel
theorem d_164_182 : decode prog_12_method_34_code 182 = .ok (.bipush 116, 2) := by decide +kernel
theorem d_164_184 : decode prog_12_method_34_code 184 = .ok (.bipush 101, 2) := by decide +kernel
theorem d_164_186 : decode prog_12_method_34_code 186 = .ok (.invokestatic 156, 3) := by decide +kernel
theorem d_164_189 : decode prog_12_method_34_code 189 = .ok (.if_icmp .ne 18, 3) := by decide +kernel
theorem d_164_192 : decode prog_12_method_34_code 192 = .ok (.aload_n 0, 1) := by decide +kernel
theorem d_164_193 : decode prog_12_method_34_code 193 = .ok (.getfield 230, 3) := by decide +kernel
theorem d_164_196 : decode prog_12_method_34_code 196 = .ok (.aload_n 0, 1) := by decide +kernel
theorem d_164_197 : decode prog_12_method_34_code 197 = .ok (.getfield 50, 3) := by decide +kernel
theorem d_164_200 : decode prog_12_method_34_code 200 = .ok (.iload_n 2, 1) := by decide +kernel
theorem d_164_201 : decode prog_12_method_34_code 201 = .ok (.iaload, 1) := by decide +kernel
theorem d_164_202 : decode prog_12_method_34_code 202 = .ok (.if_icmp .lt 5, 3) := by decide +kernel
theorem d_164_205 : decode prog_12_method_34_code 205 = .ok (.iconst 0, 1) := by decide +kernel
theorem d_164_206 : decode prog_12_method_34_code 206 = .ok (.ireturn, 1) := by decide +kernel
theorem d_164_207 : decode prog_12_method_34_code 207 = .ok (.aload_n 0, 1) := by decide +kernel
theorem d_164_208 : decode prog_12_method_34_code 208 = .ok (.getfield 251, 3) := by decide +kernel
theorem d_164_211 : decode prog_12_method_34_code 211 = .ok (.bipush 105, 2) := by decide +kernel
theorem d_164_213 : decode prog_12_method_34_code 213 = .ok (.bipush 110, 2) := by decide +kernel
theorem d_164_215 : decode prog_12_method_34_code 215 = .ok (.bipush 115, 2) := by decide +kernel
theorem d_164_217 : decode prog_12_method_34_code 217 = .ok (.bipush 101, 2) := by decide +kernel
theorem d_164_219 : decode prog_12_method_34_code 219 = .ok (.bipush 114, 2) := by decide +kernel
theorem d_164_221 : decode prog_12_method_34_code 221 = .ok (.bipush 116, 2) := by decide +kernel
theorem d_164_223 : decode prog_12_method_34_code 223 = .ok (.invokestatic 156, 3) := by decide +kernel
theorem d_164_226 : decode prog_12_method_34_code 226 = .ok (.if_icmp .ne 7, 3) := by decide +kernel
theorem d_164_229 : decode prog_12_method_34_code 229 = .ok (.iconst 1, 1) := by decide +kernel
theorem d_164_230 : decode prog_12_method_34_code 230 = .ok (.goto 4, 3) := by decide +kernel
theorem d_164_233 : decode prog_12_method_34_code 233 = .ok (.iconst 0, 1) := by decide +kernel
theorem d_164_234 : decode prog_12_method_34_code 234 = .ok (.istore 4, 2) := by decide +kernel
theorem d_164_236 : decode prog_12_method_34_code 236 = .ok (.iconst 0, 1) := by decide +kernel
theorem d_164_237 : decode prog_12_method_34_code 237 = .ok (.istore 5, 2) := by decide +kernel
theorem d_164_239 : decode prog_12_method_34_code 239 = .ok (.iload 5, 2) := by decide +kernel
theorem d_164_241 : decode prog_12_method_34_code 241 = .ok (.aload_n 0, 1) := by decide +kernel
theorem d_164_242 : decode prog_12_method_34_code 242 = .ok (.getfield 123, 3) := by decide +kernel
theorem d_164_245 : decode prog_12_method_34_code 245 = .ok (.if_icmp .ge 36, 3) := by decide +kernel
theorem d_164_248 : decode prog_12_method_34_code 248 = .ok (.aload_n 0, 1) := by decide +kernel
theorem d_164_249 : decode prog_12_method_34_code 249 = .ok (.getfield 20, 3) := by decide +kernel
theorem d_164_252 : decode prog_12_method_34_code 252 = .ok (.iload 5, 2) := by decide +kernel
theorem d_164_254 : decode prog_12_method_34_code 254 = .ok (.iaload, 1) := by decide +kernel
theorem d_164_255 : decode prog_12_method_34_code 255 = .ok (.iconst 3, 1) := by decide +kernel
theorem d_164_256 : decode prog_12_method_34_code 256 = .ok (.if_icmp .ne 19, 3) := by decide +kernel
theorem d_164_259 : decode prog_12_method_34_code 259 = .ok (.iload 4, 2) := by decide +kernel
theorem d_164_261 : decode prog_12_method_34_code 261 = .ok (.ifCond .ne 12, 3) := by decide +kernel
theorem d_164_264 : decode prog_12_method_34_code 264 = .ok (.aload_n 0, 1) := by decide +kernel
theorem d_164_265 : decode prog_12_method_34_code 265 = .ok (.iload 5, 2) := by decide +kernel
theorem d_164_267 : decode prog_12_method_34_code 267 = .ok (.invokevirtual 272, 3) := by decide +kernel
theorem d_164_270 : decode prog_12_method_34_code 270 = .ok (.ifCond .ne 5, 3) := by decide +kernel
theorem d_164_273 : decode prog_12_method_34_code 273 = .ok (.iconst 0, 1) := by decide +kernel
theorem d_164_274 : decode prog_12_method_34_code 274 = .ok (.ireturn, 1) := by decide +kernel
theorem d_164_275 : decode prog_12_method_34_code 275 = .ok (.iinc 5 1, 3) := by decide +kernel
theorem d_164_278 : decode prog_12_method_34_code 278 = .ok (.goto (-39), 3) := by decide +kernel
theorem d_164_281 : decode prog_12_method_34_code 281 = .ok (.iconst 1, 1) := by decide +kernel
theorem d_164_282 : decode prog_12_method_34_code 282 = .ok (.ireturn, 1) := by decide +kernel
set_option maxRecDepth 20000 in
theorem ok_164 : ∀ r ∈ tb_164, sm_ok 164 r := List.forall_mem_cons.mpr ⟨d_164_0, List.forall_mem_cons.mpr ⟨⟨d_164_1, Or.inl pf_292⟩, List.forall_mem_cons.mpr ⟨d_164_4, List.forall_mem_cons.mpr ⟨d_164_6, List.forall_mem_cons.mpr ⟨d_164_8, List.forall_mem_cons.mpr ⟨d_164_10, List.forall_mem_cons.mpr ⟨d_164_12, List.forall_mem_cons.mpr ⟨d_164_14, List.forall_mem_cons.mpr ⟨⟨d_164_16, (Or.inl ⟨Nat.le_of_ble_eq_true rfl, mo_139, ms_139, pm_172⟩)⟩, List.forall_mem_cons.mpr ⟨⟨d_164_19, (by decide)⟩, List.forall_mem_cons.mpr ⟨d_164_22, List.forall_mem_cons.mpr ⟨⟨d_164_23, (by decide)⟩, List.forall_mem_cons.mpr ⟨d_164_26, List.forall_mem_cons.mpr ⟨d_164_27, List.forall_mem_cons.mpr ⟨d_164_28, List.forall_mem_cons.mpr ⟨d_164_29, List.forall_mem_cons.mpr ⟨d_164_30, List.forall_mem_cons.mpr ⟨d_164_31, List.forall_mem_cons.mpr ⟨⟨d_164_32, Or.inl pf_280⟩, List.forall_mem_cons.mpr ⟨⟨d_164_35, (by decide)⟩, List.forall_mem_cons.mpr ⟨d_164_38, List.forall_mem_cons.mpr ⟨⟨d_164_39, Or.inl pf_295⟩, List.forall_mem_cons.mpr ⟨d_164_42, List.forall_mem_cons.mpr ⟨⟨d_164_43, Or.inl pf_279⟩, List.forall_mem_cons.mpr ⟨d_164_46, List.forall_mem_cons.mpr ⟨d_164_47, List.forall_mem_cons.mpr ⟨d_164_48, List.forall_mem_cons.mpr ⟨⟨d_164_49, (by decide)⟩, List.forall_mem_cons.mpr ⟨d_164_52, List.forall_mem_cons.mpr ⟨⟨d_164_53, (by decide)⟩, List.forall_mem_cons.mpr ⟨d_164_56, List.forall_mem_cons.mpr ⟨d_164_57, List.forall_mem_cons.mpr ⟨⟨d_164_58, (by decide)⟩, List.forall_mem_cons.mpr ⟨d_164_61, List.forall_mem_cons.mpr ⟨d_164_62, List.forall_mem_cons.mpr ⟨d_164_63, List.forall_mem_cons.mpr ⟨⟨d_164_66, (by decide)⟩, List.forall_mem_cons.mpr ⟨d_164_69, List.forall_mem_cons.mpr ⟨⟨d_164_70, Or.inl pf_280⟩, List.forall_mem_cons.mpr ⟨d_164_73, List.forall_mem_cons.mpr ⟨⟨d_164_74, (by decide)⟩, List.forall_mem_cons.mpr ⟨d_164_77, List.forall_mem_cons.mpr ⟨⟨d_164_78, Or.inl pf_279⟩, List.forall_mem_cons.mpr ⟨d_164_81, List.forall_mem_cons.mpr ⟨d_164_82, List.forall_mem_cons.mpr ⟨d_164_83, List.forall_mem_cons.mpr ⟨⟨d_164_84, Or.inl pf_279⟩, List.forall_mem_cons.mpr ⟨d_164_87, List.forall_mem_cons.mpr ⟨d_164_88, List.forall_mem_cons.mpr ⟨⟨d_164_89, (by decide)⟩, List.forall_mem_cons.mpr ⟨d_164_92, List.forall_mem_cons.mpr ⟨d_164_93, List.forall_mem_cons.mpr ⟨d_164_94, List.forall_mem_cons.mpr ⟨⟨d_164_95, Or.inl pf_279⟩, List.forall_mem_cons.mpr ⟨d_164_98, List.forall_mem_cons.mpr ⟨d_164_99, List.forall_mem_cons.mpr ⟨d_164_100, List.forall_mem_cons.mpr ⟨d_164_101, List.forall_mem_cons.mpr ⟨⟨d_164_102, Or.inl pf_292⟩, List.forall_mem_cons.mpr ⟨d_164_105, List.forall_mem_cons.mpr ⟨d_164_107, List.forall_mem_cons.mpr ⟨d_164_109, List.forall_mem_cons.mpr ⟨d_164_111, List.forall_mem_cons.mpr ⟨d_164_113, List.forall_mem_cons.mpr ⟨d_164_115, List.forall_mem_cons.mpr ⟨⟨d_164_116, (Or.inl ⟨Nat.le_of_ble_eq_true rfl, mo_139, ms_139, pm_172⟩)⟩, List.forall_mem_cons.mpr ⟨⟨d_164_119, (by decide)⟩, List.forall_mem_cons.mpr ⟨d_164_122, List.forall_mem_cons.mpr ⟨⟨d_164_123, (by decide)⟩, List.forall_mem_cons.mpr ⟨d_164_126, List.forall_mem_cons.mpr ⟨d_164_127, List.forall_mem_cons.mpr ⟨d_164_128, List.forall_mem_cons.mpr ⟨⟨d_164_129, (by decide)⟩, List.forall_mem_cons.mpr ⟨d_164_132, List.forall_mem_cons.mpr ⟨⟨d_164_133, Or.inl pf_296⟩, List.forall_mem_cons.mpr ⟨⟨d_164_136, (by decide)⟩, List.forall_mem_cons.mpr ⟨d_164_139, List.forall_mem_cons.mpr ⟨⟨d_164_140, Or.inl pf_296⟩, List.forall_mem_cons.mpr ⟨d_164_143, List.forall_mem_cons.mpr ⟨⟨d_164_144, Or.inl pf_295⟩, List.forall_mem_cons.mpr ⟨d_164_147, List.forall_mem_cons.mpr ⟨d_164_148, List.forall_mem_cons.mpr ⟨⟨d_164_149, (by decide)⟩, List.forall_mem_cons.mpr ⟨d_164_152, List.forall_mem_cons.mpr ⟨⟨d_164_153, Or.inl pf_297⟩, List.forall_mem_cons.mpr ⟨d_164_156, List.forall_mem_cons.mpr ⟨d_164_157, List.forall_mem_cons.mpr ⟨d_164_158, List.forall_mem_cons.mpr ⟨d_164_159, List.forall_mem_cons.mpr ⟨⟨d_164_160, Or.inl pf_296⟩, List.forall_mem_cons.mpr ⟨d_164_163, List.forall_mem_cons.mpr ⟨d_164_164, List.forall_mem_cons.mpr ⟨⟨d_164_165, (by decide)⟩, List.forall_mem_cons.mpr ⟨d_164_168, List.forall_mem_cons.mpr ⟨d_164_169, List.forall_mem_cons.mpr ⟨d_164_170, List.forall_mem_cons.mpr ⟨⟨d_164_171, Or.inl pf_292⟩, List.forall_mem_cons.mpr ⟨d_164_174, List.forall_mem_cons.mpr ⟨d_164_176, List.forall_mem_cons.mpr ⟨d_164_178, List.forall_mem_cons.mpr ⟨d_164_180, List.forall_mem_cons.mpr ⟨d_164_182, List.forall_mem_cons.mpr ⟨d_164_184, List.forall_mem_cons.mpr ⟨⟨d_164_186, (Or.inl ⟨Nat.le_of_ble_eq_true rfl, mo_139, ms_139, pm_172⟩)⟩, List.forall_mem_cons.mpr ⟨⟨d_164_189, (by decide)⟩, List.forall_mem_cons.mpr ⟨d_164_192, List.forall_mem_cons.mpr ⟨⟨d_164_193, Or.inl pf_296⟩, List.forall_mem_cons.mpr ⟨d_164_196, List.forall_mem_cons.mpr ⟨⟨d_164_197, Or.inl pf_295⟩, List.forall_mem_cons.mpr ⟨d_164_200, List.forall_mem_cons.mpr ⟨d_164_201, List.forall_mem_cons.mpr ⟨⟨d_164_202, (by decide)⟩, List.forall_mem_cons.mpr ⟨d_164_205, List.forall_mem_cons.mpr ⟨d_164_206, List.forall_mem_cons.mpr ⟨d_164_207, List.forall_mem_cons.mpr ⟨⟨d_164_208, Or.inl pf_292⟩, List.forall_mem_cons.mpr ⟨d_164_211, List.forall_mem_cons.mpr ⟨d_164_213, List.forall_mem_cons.mpr ⟨d_164_215, List.forall_mem_cons.mpr ⟨d_164_217, List.forall_mem_cons.mpr ⟨d_164_219, List.forall_mem_cons.mpr ⟨d_164_221, List.forall_mem_cons.mpr ⟨⟨d_164_223, (Or.inl ⟨Nat.le_of_ble_eq_true rfl, mo_139, ms_139, pm_172⟩)⟩, List.forall_mem_cons.mpr ⟨⟨d_164_226, (by decide)⟩, List.forall_mem_cons.mpr ⟨d_164_229, List.forall_mem_cons.mpr ⟨⟨d_164_230, (by decide)⟩, List.forall_mem_cons.mpr ⟨d_164_233, List.forall_mem_cons.mpr ⟨d_164_234, List.forall_mem_cons.mpr ⟨d_164_236, List.forall_mem_cons.mpr ⟨d_164_237, List.forall_mem_cons.mpr ⟨d_164_239, List.forall_mem_cons.mpr ⟨d_164_241, List.forall_mem_cons.mpr ⟨⟨d_164_242, Or.inl pf_244⟩, List.forall_mem_cons.mpr ⟨⟨d_164_245, (by decide)⟩, List.forall_mem_cons.mpr ⟨d_164_248, List.forall_mem_cons.mpr ⟨⟨d_164_249, Or.inl pf_243⟩, List.forall_mem_cons.mpr ⟨d_164_252, List.forall_mem_cons.mpr ⟨d_164_254, List.forall_mem_cons.mpr ⟨d_164_255, List.forall_mem_cons.mpr ⟨⟨d_164_256, (by decide)⟩, List.forall_mem_cons.mpr ⟨d_164_259, List.forall_mem_cons.mpr ⟨⟨d_164_261, (by decide)⟩, List.forall_mem_cons.mpr ⟨d_164_264, List.forall_mem_cons.mpr ⟨d_164_265, List.forall_mem_cons.mpr ⟨⟨d_164_267, ⟨mo_165, mi_165, se_165, pm_188⟩⟩, List.forall_mem_cons.mpr ⟨⟨d_164_270, (by decide)⟩, List.forall_mem_cons.mpr ⟨d_164_273, List.forall_mem_cons.mpr ⟨d_164_274, List.forall_mem_cons.mpr ⟨d_164_275, List.forall_mem_cons.mpr ⟨⟨d_164_278, (by decide)⟩, List.forall_mem_cons.mpr ⟨d_164_281, List.forall_mem_cons.mpr ⟨d_164_282, fun _ h => absurd h List.not_mem_nil⟩⟩⟩⟩⟩⟩⟩⟩⟩⟩⟩⟩⟩⟩⟩⟩⟩⟩⟩⟩⟩⟩⟩⟩⟩⟩⟩⟩⟩⟩⟩⟩⟩⟩⟩⟩⟩⟩⟩⟩⟩⟩⟩⟩⟩⟩⟩⟩⟩⟩⟩⟩⟩⟩⟩⟩⟩⟩⟩⟩⟩⟩⟩⟩⟩⟩⟩⟩⟩⟩⟩⟩⟩⟩⟩⟩⟩⟩⟩⟩⟩⟩⟩⟩⟩⟩⟩⟩⟩⟩⟩⟩⟩⟩⟩⟩⟩⟩⟩⟩⟩⟩⟩⟩⟩⟩⟩⟩⟩⟩⟩⟩⟩⟩⟩⟩⟩⟩⟩⟩⟩⟩⟩⟩⟩⟩⟩⟩⟩⟩⟩⟩⟩⟩⟩⟩⟩⟩⟩⟩⟩⟩⟩⟩⟩⟩⟩⟩⟩⟩⟩⟩
theorem d_165_0 : decode prog_12_method_35_code 0 = .ok (.aload_n 0, 1) := by decide +kernel
theorem d_165_1 : decode prog_12_method_35_code 1 = .ok (.getfield 23, 3) := by decide +kernel
theorem d_165_4 : decode prog_12_method_35_code 4 = .ok (.iload_n 1, 1) := by decide +kernel
theorem d_165_5 : decode prog_12_method_35_code 5 = .ok (.iaload, 1) := by decide +kernel
theorem d_165_6 : decode prog_12_method_35_code 6 = .ok (.iconst 4, 1) := by decide +kernel
theorem d_165_7 : decode prog_12_method_35_code 7 = .ok (.irem, 1) := by decide +kernel
theorem d_165_8 : decode prog_12_method_35_code 8 = .ok (.istore_n 2, 1) := by decide +kernel
theorem d_165_9 : decode prog_12_method_35_code 9 = .ok (.aload_n 0, 1) := by decide +kernel
theorem d_165_10 : decode prog_12_method_35_code 10 = .ok (.getfield 23, 3) := by decide +kernel
theorem d_165_13 : decode prog_12_method_35_code 13 = .ok (.iload_n 1, 1) := by decide +kernel
theorem d_165_14 : decode prog_12_method_35_code 14 = .ok (.iaload, 1) := by decide +kernel
theorem d_165_15 : decode prog_12_method_35_code 15 = .ok (.iconst 4, 1) := by decide +kernel
theorem d_165_16 : decode prog_12_method_35_code 16 = .ok (.idiv, 1) := by decide +kernel
theorem d_165_17 : decode prog_12_method_35_code 17 = .ok (.iconst 1, 1) := by decide +kernel
theorem d_165_18 : decode prog_12_method_35_code 18 = .ok (.isub, 1) := by decide +kernel
theorem d_165_19 : decode prog_12_method_35_code 19 = .ok (.istore_n 3, 1) := by decide +kernel
theorem d_165_20 : decode prog_12_method_35_code 20 = .ok (.iconst 0, 1) := by decide +kernel
theorem d_165_21 : decode prog_12_method_35_code 21 = .ok (.istore 4, 2) := by decide +kernel
theorem d_165_23 : decode prog_12_method_35_code 23 = .ok (.iconst 0, 1) := by decide +kernel
theorem d_165_24 : decode prog_12_method_35_code 24 = .ok (.istore 5, 2) := by decide +kernel
theorem d_165_26 : decode prog_12_method_35_code 26 = .ok (.iload 5, 2) := by decide +kernel
theorem d_165_28 : decode prog_12_method_35_code 28 = .ok (.aload_n 0, 1) := by decide +kernel
theorem d_165_29 : decode prog_12_method_35_code 29 = .ok (.getfield 218, 3) := by decide +kernel
theorem d_165_32 : decode prog_12_method_35_code 32 = .ok (.if_icmp .ge 60, 3) := by decide +kernel
theorem d_165_35 : decode prog_12_method_35_code 35 = .ok (.iload_n 3, 1) := by decide +kernel
theorem d_165_36 : decode prog_12_method_35_code 36 = .ok (.ifCond .lt 14, 3) := by decide +kernel
theorem d_165_39 : decode prog_12_method_35_code 39 = .ok (.iload_n 3, 1) := by decide +kernel
theorem d_165_40 : decode prog_12_method_35_code 40 = .ok (.aload_n 0, 1) := by decide +kernel
theorem d_165_41 : decode prog_12_method_35_code 41 = .ok (.getfield 32, 3) := by decide +kernel
theorem d_165_44 : decode prog_12_method_35_code 44 = .ok (.iload 5, 2) := by decide +kernel
theorem d_165_46 : decode prog_12_method_35_code 46 = .ok (.iaload, 1) := by decide +kernel
theorem d_165_47 : decode prog_12_method_35_code 47 = .ok (.if_icmp .ne 39, 3) := by decide +kernel
theorem d_165_50 : decode prog_12_method_35_code 50 = .ok (.iload_n 2, 1) := by decide +kernel
theorem d_165_51 : decode prog_12_method_35_code 51 = .ok (.aload_n 0, 1) := by decide +kernel
theorem d_165_52 : decode prog_12_method_35_code 52 = .ok (.getfield 50, 3) := by decide +kernel
theorem d_165_55 : decode prog_12_method_35_code 55 = .ok (.aload_n 0, 1) := by decide +kernel
theorem d_165_56 : decode prog_12_method_35_code 56 = .ok (.getfield 32, 3) := by decide +kernel
theorem d_165_59 : decode prog_12_method_35_code 59 = .ok (.iload 5, 2) := by decide +kernel
theorem d_165_61 : decode prog_12_method_35_code 61 = .ok (.iaload, 1) := by decide +kernel
theorem d_165_62 : decode prog_12_method_35_code 62 = .ok (.iaload, 1) := by decide +kernel
theorem d_165_63 : decode prog_12_method_35_code 63 = .ok (.if_icmp .ge 23, 3) := by decide +kernel
theorem d_165_66 : decode prog_12_method_35_code 66 = .ok (.iinc 4 1, 3) := by decide +kernel
theorem d_165_69 : decode prog_12_method_35_code 69 = .ok (.aload_n 0, 1) := by decide +kernel
theorem d_165_70 : decode prog_12_method_35_code 70 = .ok (.getfield 23, 3) := by decide +kernel
theorem d_165_73 : decode prog_12_method_35_code 73 = .ok (.iload_n 1, 1) := by decide +kernel
theorem d_165_74 : decode prog_12_method_35_code 74 = .ok (.iconst 4, 1) := by decide +kernel
theorem d_165_75 : decode prog_12_method_35_code 75 = .ok (.aload_n 0, 1) := by decide +kernel
theorem d_165_76 : decode prog_12_method_35_code 76 = .ok (.getfield 32, 3) := by decide +kernel
theorem d_165_79 : decode prog_12_method_35_code 79 = .ok (.iload 5, 2) := by decide +kernel
theorem d_165_81 : decode prog_12_method_35_code 81 = .ok (.iaload, 1) := by decide +kernel
theorem d_165_82 : decode prog_12_method_35_code 82 = .ok (.imul, 1) := by decide +kernel
theorem d_165_83 : decode prog_12_method_35_code 83 = .ok (.iload_n 2, 1) := by decide +kernel
theorem d_165_84 : decode prog_12_method_35_code 84 = .ok (.iadd, 1) := by decide +kernel
theorem d_165_85 : decode prog_12_method_35_code 85 = .ok (.iastore, 1) := by decide +kernel
theorem d_165_86 : decode prog_12_method_35_code 86 = .ok (.iinc 5 1, 3) := by decide +kernel
theorem d_165_89 : decode prog_12_method_35_code 89 = .ok (.goto (-63), 3) := by decide +kernel
theorem d_165_92 : decode prog_12_method_35_code 92 = .ok (.iload 4, 2) := by decide +kernel
theorem d_165_94 : decode prog_12_method_35_code 94 = .ok (.iconst 1, 1) := by decide +kernel
theorem d_165_95 : decode prog_12_method_35_code 95 = .ok (.if_icmp .ne 7, 3) := by decide +kernel
theorem d_165_98 : decode prog_12_method_35_code 98 = .ok (.iconst 1, 1) := by decide +kernel
theorem d_165_99 : decode prog_12_method_35_code 99 = .ok (.goto 4, 3) := by decide +kernel
theorem d_165_102 : decode prog_12_method_35_code 102 = .ok (.iconst 0, 1) := by decide +kernel
theorem d_165_103 : decode prog_12_method_35_code 103 = .ok (.ireturn, 1) := by decide +kernel
set_option maxRecDepth 20000 in
theorem ok_165 : ∀ r ∈ tb_165, sm_ok 165 r := List.forall_mem_cons.mpr ⟨d_165_0, List.forall_mem_cons.mpr ⟨⟨d_165_1, Or.inl pf_245⟩, List.forall_mem_cons.mpr ⟨d_165_4, List.forall_mem_cons.mpr ⟨d_165_5, List.forall_mem_cons.mpr ⟨d_165_6, List.forall_mem_cons.mpr ⟨d_165_7, List.forall_mem_cons.mpr ⟨d_165_8, List.forall_mem_cons.mpr ⟨d_165_9, List.forall_mem_cons.mpr ⟨⟨d_165_10, Or.inl pf_245⟩, List.forall_mem_cons.mpr ⟨d_165_13, List.forall_mem_cons.mpr ⟨d_165_14, List.forall_mem_cons.mpr ⟨d_165_15, List.forall_mem_cons.mpr ⟨d_165_16, List.forall_mem_cons.mpr ⟨d_165_17, List.forall_mem_cons.mpr ⟨d_165_18, List.forall_mem_cons.mpr ⟨d_165_19, List.forall_mem_cons.mpr ⟨d_165_20, List.forall_mem_cons.mpr ⟨d_165_21, List.forall_mem_cons.mpr ⟨d_165_23, List.forall_mem_cons.mpr ⟨d_165_24, List.forall_mem_cons.mpr ⟨d_165_26, List.forall_mem_cons.mpr ⟨d_165_28, List.forall_mem_cons.mpr ⟨⟨d_165_29, Or.inl pf_280⟩, List.forall_mem_cons.mpr ⟨⟨d_165_32, (by decide)⟩, List.forall_mem_cons.mpr ⟨d_165_35, List.forall_mem_cons.mpr ⟨⟨d_165_36, (by decide)⟩, List.forall_mem_cons.mpr ⟨d_165_39, List.forall_mem_cons.mpr ⟨d_165_40, List.forall_mem_cons.mpr ⟨⟨d_165_41, Or.inl pf_279⟩, List.forall_mem_cons.mpr ⟨d_165_44, List.forall_mem_cons.mpr ⟨d_165_46, List.forall_mem_cons.mpr ⟨⟨d_165_47, (by decide)⟩, List.forall_mem_cons.mpr ⟨d_165_50, List.forall_mem_cons.mpr ⟨d_165_51, List.forall_mem_cons.mpr ⟨⟨d_165_52, Or.inl pf_295⟩, List.forall_mem_cons.mpr ⟨d_165_55, List.forall_mem_cons.mpr ⟨⟨d_165_56, Or.inl pf_279⟩, List.forall_mem_cons.mpr ⟨d_165_59, List.forall_mem_cons.mpr ⟨d_165_61, List.forall_mem_cons.mpr ⟨d_165_62, List.forall_mem_cons.mpr ⟨⟨d_165_63, (by decide)⟩, List.forall_mem_cons.mpr ⟨d_165_66, List.forall_mem_cons.mpr ⟨d_165_69, List.forall_mem_cons.mpr ⟨⟨d_165_70, Or.inl pf_245⟩, List.forall_mem_cons.mpr ⟨d_165_73, List.forall_mem_cons.mpr ⟨d_165_74, List.forall_mem_cons.mpr ⟨d_165_75, List.forall_mem_cons.mpr ⟨⟨d_165_76, Or.inl pf_279⟩, List.forall_mem_cons.mpr ⟨d_165_79, List.forall_mem_cons.mpr ⟨d_165_81, List.forall_mem_cons.mpr ⟨d_165_82, List.forall_mem_cons.mpr ⟨d_165_83, List.forall_mem_cons.mpr ⟨d_165_84, List.forall_mem_cons.mpr ⟨d_165_85, List.forall_mem_cons.mpr ⟨d_165_86, List.forall_mem_cons.mpr ⟨⟨d_165_89, (by decide)⟩, List.forall_mem_cons.mpr ⟨d_165_92, List.forall_mem_cons.mpr ⟨d_165_94, List.forall_mem_cons.mpr ⟨⟨d_165_95, (by decide)⟩, List.forall_mem_cons.mpr ⟨d_165_98, List.forall_mem_cons.mpr ⟨⟨d_165_99, (by decide)⟩, List.forall_mem_cons.mpr ⟨d_165_102, List.forall_mem_cons.mpr ⟨d_165_103, fun _ h => absurd h List.not_mem_nil⟩⟩⟩⟩⟩⟩⟩⟩⟩⟩⟩⟩⟩⟩⟩⟩⟩⟩⟩⟩⟩⟩⟩⟩⟩⟩⟩⟩⟩⟩⟩⟩⟩⟩⟩⟩⟩⟩⟩⟩⟩⟩⟩⟩⟩⟩⟩⟩⟩⟩⟩⟩⟩⟩⟩⟩⟩⟩⟩⟩⟩⟩⟩
theorem d_166_0 : decode prog_12_method_36_code 0 = .ok (.aload_n 0, 1) := by decide +kernel
theorem d_166_1 : decode prog_12_method_36_code 1 = .ok (.invokevirtual 275, 3) := by decide +kernel
theorem d_166_4 : decode prog_12_method_36_code 4 = .ok (.aload_n 0, 1) := by decide +kernel
theorem d_166_5 : decode prog_12_method_36_code 5 = .ok (.invokevirtual 278, 3) := by decide +kernel
theorem d_166_8 : decode prog_12_method_36_code 8 = .ok (.aload_n 0, 1) := by decide +kernel
theorem d_166_9 : decode prog_12_method_36_code 9 = .ok (.getfield 105, 3) := by decide +kernel
theorem d_166_12 : decode prog_12_method_36_code 12 = .ok (.ifCond .ne 7, 3) := by decide +kernel
theorem d_166_15 : decode prog_12_method_36_code 15 = .ok (.aload_n 0, 1) := by decide +kernel
theorem d_166_16 : decode prog_12_method_36_code 16 = .ok (.invokevirtual 281, 3) := by decide +kernel
theorem d_166_19 : decode prog_12_method_36_code 19 = .ok (.aload_n 0, 1) := by decide +kernel
theorem d_166_20 : decode prog_12_method_36_code 20 = .ok (.iconst 0, 1) := by decide +kernel
theorem d_166_21 : decode prog_12_method_36_code 21 = .ok (.putfield 91, 3) := by decide +kernel
theorem d_166_24 : decode prog_12_method_36_code 24 = .ok (.aload_n 0, 1) := by decide +kernel
theorem d_166_25 : decode prog_12_method_36_code 25 = .ok (.getfield 105, 3) := by decide +kernel
theorem d_166_28 : decode prog_12_method_36_code 28 = .ok (.ifCond .eq 5, 3) := by decide +kernel
theorem d_166_31 : decode prog_12_method_36_code 31 = .ok (.iconst 1, 1) := by decide +kernel
theorem d_166_32 : decode prog_12_method_36_code 32 = .ok (.ireturn, 1) := by decide +kernel
theorem d_166_33 : decode prog_12_method_36_code 33 = .ok (.aload_n 0, 1) := by decide +kernel
theorem d_166_34 : decode prog_12_method_36_code 34 = .ok (.invokevirtual 284, 3) := by decide +kernel
theorem d_166_37 : decode prog_12_method_36_code 37 = .ok (.ifCond .ne 5, 3) := by decide +kernel
theorem d_166_40 : decode prog_12_method_36_code 40 = .ok (.iconst 2, 1) := by decide +kernel
theorem d_166_41 : decode prog_12_method_36_code 41 = .ok (.ireturn, 1) := by decide +kernel
theorem d_166_42 : decode prog_12_method_36_code 42 = .ok (.aload_n 0, 1) := by decide +kernel
theorem d_166_43 : decode prog_12_method_36_code 43 = .ok (.getfield 32, 3) := by decide +kernel
theorem d_166_46 : decode prog_12_method_36_code 46 = .ok (.iconst 0, 1) := by decide +kernel
theorem d_166_47 : decode prog_12_method_36_code 47 = .ok (.iaload, 1) := by decide +kernel
theorem d_166_48 : decode prog_12_method_36_code 48 = .ok (.istore_n 1, 1) := by decide +kernel
theorem d_166_49 : decode prog_12_method_36_code 49 = .ok (.aload_n 0, 1) := by decide +kernel
theorem d_166_50 : decode prog_12_method_36_code 50 = .ok (.getfield 251, 3) := by decide +kernel
theorem d_166_53 : decode prog_12_method_36_code 53 = .ok (.bipush 99, 2) := by decide +kernel
theorem d_166_55 : decode prog_12_method_36_code 55 = .ok (.bipush 114, 2) := by decide +kernel
theorem d_166_57 : decode prog_12_method_36_code 57 = .ok (.bipush 101, 2) := by decide +kernel
theorem d_166_59 : decode prog_12_method_36_code 59 = .ok (.bipush 97, 2) := by decide +kernel
theorem d_166_61 : decode prog_12_method_36_code 61 = .ok (.bipush 116, 2) := by decide +kernel
theorem d_166_63 : decode prog_12_method_36_code 63 = .ok (.bipush 101, 2) := by decide +kernel
theorem d_166_65 : decode prog_12_method_36_code 65 = .ok (.invokestatic 156, 3) := by decide +kernel
theorem d_166_68 : decode prog_12_method_36_code 68 = .ok (.if_icmp .ne 33, 3) := by decide +kernel
theorem d_166_71 : decode prog_12_method_36_code 71 = .ok (.aload_n 0, 1) := by decide +kernel
theorem d_166_72 : decode prog_12_method_36_code 72 = .ok (.getfield 233, 3) := by decide +kernel
theorem d_166_75 : decode prog_12_method_36_code 75 = .ok (.iconst 1, 1) := by decide +kernel
theorem d_166_76 : decode prog_12_method_36_code 76 = .ok (.if_icmp .lt 11, 3) := by decide +kernel
theorem d_166_79 : decode prog_12_method_36_code 79 = .ok (.aload_n 0, 1) := by decide +kernel
theorem d_166_80 : decode prog_12_method_36_code 80 = .ok (.getfield 233, 3) := by decide +kernel
theorem d_166_83 : decode prog_12_method_36_code 83 = .ok (.iconst 4, 1) := by decide +kernel
theorem d_166_84 : decode prog_12_method_36_code 84 = .ok (.if_icmp .le 5, 3) := by decide +kernel
theorem d_166_87 : decode prog_12_method_36_code 87 = .ok (.iconst 3, 1) := by decide +kernel
theorem d_166_88 : decode prog_12_method_36_code 88 = .ok (.ireturn, 1) := by decide +kernel
theorem d_166_89 : decode prog_12_method_36_code 89 = .ok (.aload_n 0, 1) := by decide +kernel
theorem d_166_90 : decode prog_12_method_36_code 90 = .ok (.getfield 50, 3) := by decide +kernel
theorem d_166_93 : decode prog_12_method_36_code 93 = .ok (.iload_n 1, 1) := by decide +kernel
theorem d_166_94 : decode prog_12_method_36_code 94 = .ok (.aload_n 0, 1) := by decide +kernel
theorem d_166_95 : decode prog_12_method_36_code 95 = .ok (.getfield 233, 3) := by decide +kernel
theorem d_166_98 : decode prog_12_method_36_code 98 = .ok (.iastore, 1) := by decide +kernel
theorem d_166_99 : decode prog_12_method_36_code 99 = .ok (.iconst 0, 1) := by decide +kernel
theorem d_166_100 : decode prog_12_method_36_code 100 = .ok (.ireturn, 1) := by decide +kernel
theorem d_166_101 : decode prog_12_method_36_code 101 = .ok (.aload_n 0, 1) := by decide +kernel
theorem d_166_102 : decode prog_12_method_36_code 102 = .ok (.getfield 251, 3) := by decide +kernel
theorem d_166_105 : decode prog_12_method_36_code 105 = .ok (.bipush 105, 2) := by decide +kernel
theorem d_166_107 : decode prog_12_method_36_code 107 = .ok (.bipush 110, 2) := by decide +kernel
theorem d_166_109 : decode prog_12_method_36_code 109 = .ok (.bipush 100, 2) := by decide +kernel
theorem d_166_111 : decode prog_12_method_36_code 111 = .ok (.bipush 101, 2) := by decide +kernel
theorem d_166_113 : decode prog_12_method_36_code 113 = .ok (.bipush 120, 2) := by decide +kernel
theorem d_166_115 : decode prog_12_method_36_code 115 = .ok (.iconst 0, 1) := by decide +kernel
theorem d_166_116 : decode prog_12_method_36_code 116 = .ok (.invokestatic 156, 3) := by decide +kernel
theorem d_166_119 : decode prog_12_method_36_code 119 = .ok (.if_icmp .ne 19, 3) := by decide +kernel
theorem d_166_122 : decode prog_12_method_36_code 122 = .ok (.aload_n 0, 1) := by decide +kernel
theorem d_166_123 : decode prog_12_method_36_code 123 = .ok (.getfield 60, 3) := by decide +kernel
theorem d_166_126 : decode prog_12_method_36_code 126 = .ok (.iconst 4, 1) := by decide +kernel
theorem d_166_127 : decode prog_12_method_36_code 127 = .ok (.iload_n 1, 1) := by decide +kernel
theorem d_166_128 : decode prog_12_method_36_code 128 = .ok (.imul, 1) := by decide +kernel
theorem d_166_129 : decode prog_12_method_36_code 129 = .ok (.aload_n 0, 1) := by decide +kernel
theorem d_166_130 : decode prog_12_method_36_code 130 = .ok (.getfield 230, 3) := by decide +kernel
theorem d_166_133 : decode prog_12_method_36_code 133 = .ok (.iadd, 1) := by decide +kernel
theorem d_166_134 : decode prog_12_method_36_code 134 = .ok (.iconst 1, 1) := by decide +kernel
theorem d_166_135 : decode prog_12_method_36_code 135 = .ok (.bastore, 1) := by decide +kernel
theorem d_166_136 : decode prog_12_method_36_code 136 = .ok (.iconst 0, 1) := by decide +kernel
theorem d_166_137 : decode prog_12_method_36_code 137 = .ok (.ireturn, 1) := by decide +kernel
theorem d_166_138 : decode prog_12_method_36_code 138 = .ok (.aload_n 0, 1) := by decide +kernel
theorem d_166_139 : decode prog_12_method_36_code 139 = .ok (.getfield 251, 3) := by decide +kernel
theorem d_166_142 : decode prog_12_method_36_code 142 = .ok (.bipush 105, 2) := by decide +kernel
theorem d_166_144 : decode prog_12_method_36_code 144 = .ok (.bipush 110, 2) := by decide +kernel
theorem d_166_146 : decode prog_12_method_36_code 146 = .ok (.bipush 115, 2) := by decide +kernel
theorem d_166_148 : decode prog_12_method_36_code 148 = .ok (.bipush 101, 2) := by decide +kernel
theorem d_166_150 : decode prog_12_method_36_code 150 = .ok (.bipush 114, 2) := by decide +kernel
theorem d_166_152 : decode prog_12_method_36_code 152 = .ok (.bipush 116, 2) := by decide +kernel
theorem d_166_154 : decode prog_12_method_36_code 154 = .ok (.invokestatic 156, 3) := by decide +kernel
theorem d_166_157 : decode prog_12_method_36_code 157 = .ok (.if_icmp .ne 9, 3) := by decide +kernel
theorem d_166_160 : decode prog_12_method_36_code 160 = .ok (.aload_n 0, 1) := by decide +kernel
theorem d_166_161 : decode prog_12_method_36_code 161 = .ok (.iload_n 1, 1) := by decide +kernel
theorem d_166_162 : decode prog_12_method_36_code 162 = .ok (.invokevirtual 287, 3) := by decide +kernel
theorem d_166_165 : decode prog_12_method_36_code 165 = .ok (.ireturn, 1) := by decide +kernel
theorem d_166_166 : decode prog_12_method_36_code 166 = .ok (.aload_n 0, 1) := by decide +kernel
theorem d_166_167 : decode prog_12_method_36_code 167 = .ok (.getfield 251, 3) := by decide +kernel
theorem d_166_170 : decode prog_12_method_36_code 170 = .ok (.bipush 115, 2) := by decide +kernel
theorem d_166_172 : decode prog_12_method_36_code 172 = .ok (.bipush 101, 2) := by decide +kernel
theorem d_166_174 : decode prog_12_method_36_code 174 = .ok (.bipush 108, 2) := by decide +kernel
theorem d_166_176 : decode prog_12_method_36_code 176 = .ok (.bipush 101, 2) := by decide +kernel
theorem d_166_178 : decode prog_12_method_36_code 178 = .ok (.bipush 99, 2) := by decide +kernel
theorem d_166_180 : decode prog_12_method_36_code 180 = .ok (.bipush 116, 2) := by decide +kernel
theorem d_166_182 : decode prog_12_method_36_code 182 = .ok (.invokestatic 156, 3) := by decide +kernel
theorem d_166_185 : decode prog_12_method_36_code 185 = .ok (.if_icmp .ne 8, 3) := by decide +kernel
theorem d_166_188 : decode prog_12_method_36_code 188 = .ok (.aload_n 0, 1) := by decide +kernel
theorem d_166_189 : decode prog_12_method_36_code 189 = .ok (.invokevirtual 290, 3) := by decide +kernel
theorem d_166_192 : decode prog_12_method_36_code 192 = .ok (.ireturn, 1) := by decide +kernel
theorem d_166_193 : decode prog_12_method_36_code 193 = .ok (.aload_n 0, 1) := by decide +kernel
theorem d_166_194 : decode prog_12_method_36_code 194 = .ok (.iload_n 1, 1) := by decide +kernel
theorem d_166_195 : decode prog_12_method_36_code 195 = .ok (.invokevirtual 293, 3) := by decide +kernel
theorem d_166_198 : decode prog_12_method_36_code 198 = .ok (.aload_n 0, 1) := by decide +kernel
theorem d_166_199 : decode prog_12_method_36_code 199 = .ok (.getfield 251, 3) := by decide +kernel
theorem d_166_202 : decode prog_12_method_36_code 202 = .ok (.bipush 117, 2) := by decide +kernel
theorem d_166_204 : decode prog_12_method_36_code 204 = .ok (.bipush 112, 2) := by decide +kernel
theorem d_166_206 : decode prog_12_method_36_code 206 = .ok (.bipush 100, 2) := by decide +kernel
theorem d_166_208 : decode prog_12_method_36_code 208 = .ok (.bipush 97, 2) := by decide +kernel
theorem d_166_210 : decode prog_12_method_36_code 210 = .ok (.bipush 116, 2) := by decide +kernel
theorem d_166_212 : decode prog_12_method_36_code 212 = .ok (.bipush 101, 2) := by decide +kernel
theorem d_166_214 : decode prog_12_method_36_code 214 = .ok (.invokestatic 156, 3) := by decide +kernel
theorem d_166_217 : decode prog_12_method_36_code 217 = .ok (.if_icmp .ne 9, 3) := by decide +kernel
theorem d_166_220 : decode prog_12_method_36_code 220 = .ok (.aload_n 0, 1) := by decide +kernel
theorem d_166_221 : decode prog_12_method_36_code 221 = .ok (.iload_n 1, 1) := by decide +kernel
theorem d_166_222 : decode prog_12_method_36_code 222 = .ok (.invokevirtual 296, 3) := by decide +kernel
theorem d_166_225 : decode prog_12_method_36_code 225 = .ok (.ireturn, 1) := by decide +kernel
theorem d_166_226 : decode prog_12_method_36_code 226 = .ok (.aload_n 0, 1) := by decide +kernel
theorem d_166_227 : decode prog_12_method_36_code 227 = .ok (.iload_n 1, 1) := by decide +kernel
theorem d_166_228 : decode prog_12_method_36_code 228 = .ok (.invokevirtual 299, 3) := by decide +kernel
theorem d_166_231 : decode prog_12_method_36_code 231 = .ok (.aload_n 0, 1) := by decide +kernel
theorem d_166_232 : decode prog_12_method_36_code 232 = .ok (.iload_n 1, 1) := by decide +kernel
theorem d_166_233 : decode prog_12_method_36_code 233 = .ok (.invokevirtual 302, 3) := by decide +kernel
theorem d_166_236 : decode prog_12_method_36_code 236 = .ok (.iconst 0, 1) := by decide +kernel
theorem d_166_237 : decode prog_12_method_36_code 237 = .ok (.ireturn, 1) := by decide +kernel
set_option maxRecDepth 20000 in
theorem ok_166 : ∀ r ∈ tb_166, sm_ok 166 r := List.forall_mem_cons.mpr ⟨d_166_0, List.forall_mem_cons.mpr ⟨⟨d_166_1, ⟨mo_160, mi_160, se_160, pm_189⟩⟩, List.forall_mem_cons.mpr ⟨d_166_4, List.forall_mem_cons.mpr ⟨⟨d_166_5, ⟨mo_138, mi_138, se_138, pm_190⟩⟩, List.forall_mem_cons.mpr ⟨d_166_8, List.forall_mem_cons.mpr ⟨⟨d_166_9, Or.inl pf_236⟩, List.forall_mem_cons.mpr ⟨⟨d_166_12, (by decide)⟩, List.forall_mem_cons.mpr ⟨d_166_15, List.forall_mem_cons.mpr ⟨⟨d_166_16, ⟨mo_162, mi_162, se_162, pm_191⟩⟩, List.forall_mem_cons.mpr ⟨d_166_19, List.forall_mem_cons.mpr ⟨d_166_20, List.forall_mem_cons.mpr ⟨⟨d_166_21, pf_234⟩, List.forall_mem_cons.mpr ⟨d_166_24, List.forall_mem_cons.mpr ⟨⟨d_166_25, Or.inl pf_236⟩, List.forall_mem_cons.mpr ⟨⟨d_166_28, (by decide)⟩, List.forall_mem_cons.mpr ⟨d_166_31, List.forall_mem_cons.mpr ⟨d_166_32, List.forall_mem_cons.mpr ⟨d_166_33, List.forall_mem_cons.mpr ⟨⟨d_166_34, ⟨mo_164, mi_164, se_164, pm_192⟩⟩, List.forall_mem_cons.mpr ⟨⟨d_166_37, (by decide)⟩, List.forall_mem_cons.mpr ⟨d_166_40, List.forall_mem_cons.mpr ⟨d_166_41, List.forall_mem_cons.mpr ⟨d_166_42, List.forall_mem_cons.mpr ⟨⟨d_166_43, Or.inl pf_279⟩, List.forall_mem_cons.mpr ⟨d_166_46, List.forall_mem_cons.mpr ⟨d_166_47, List.forall_mem_cons.mpr ⟨d_166_48, List.forall_mem_cons.mpr ⟨d_166_49, List.forall_mem_cons.mpr ⟨⟨d_166_50, Or.inl pf_292⟩, List.forall_mem_cons.mpr ⟨d_166_53, List.forall_mem_cons.mpr ⟨d_166_55, List.forall_mem_cons.mpr ⟨d_166_57, List.forall_mem_cons.mpr ⟨d_166_59, List.forall_mem_cons.mpr ⟨d_166_61, List.forall_mem_cons.mpr ⟨d_166_63, List.forall_mem_cons.mpr ⟨⟨d_166_65, (Or.inl ⟨Nat.le_of_ble_eq_true rfl, mo_139, ms_139, pm_172⟩)⟩, List.forall_mem_cons.mpr ⟨⟨d_166_68, (by decide)⟩, List.forall_mem_cons.mpr ⟨d_166_71, List.forall_mem_cons.mpr ⟨⟨d_166_72, Or.inl pf_298⟩, List.forall_mem_cons.mpr ⟨d_166_75, List.forall_mem_cons.mpr ⟨⟨d_166_76, (by decide)⟩, List.forall_mem_cons.mpr ⟨d_166_79, List.forall_mem_cons.mpr ⟨⟨d_166_80, Or.inl pf_298⟩, List.forall_mem_cons.mpr ⟨d_166_83, List.forall_mem_cons.mpr ⟨⟨d_166_84, (by decide)⟩, List.forall_mem_cons.mpr ⟨d_166_87, List.forall_mem_cons.mpr ⟨d_166_88, List.forall_mem_cons.mpr ⟨d_166_89, List.forall_mem_cons.mpr ⟨⟨d_166_90, Or.inl pf_295⟩, List.forall_mem_cons.mpr ⟨d_166_93, List.forall_mem_cons.mpr ⟨d_166_94, List.forall_mem_cons.mpr ⟨⟨d_166_95, Or.inl pf_298⟩, List.forall_mem_cons.mpr ⟨d_166_98, List.forall_mem_cons.mpr ⟨d_166_99, List.forall_mem_cons.mpr ⟨d_166_100, List.forall_mem_cons.mpr ⟨d_166_101, List.forall_mem_cons.mpr ⟨⟨d_166_102, Or.inl pf_292⟩, List.forall_mem_cons.mpr ⟨d_166_105, List.forall_mem_cons.mpr ⟨d_166_107, List.forall_mem_cons.mpr ⟨d_166_109, List.forall_mem_cons.mpr ⟨d_166_111, List.forall_mem_cons.mpr ⟨d_166_113, List.forall_mem_cons.mpr ⟨d_166_115, List.forall_mem_cons.mpr ⟨⟨d_166_116, (Or.inl ⟨Nat.le_of_ble_eq_true rfl, mo_139, ms_139, pm_172⟩)⟩, List.forall_mem_cons.mpr ⟨⟨d_166_119, (by decide)⟩, List.forall_mem_cons.mpr ⟨d_166_122, List.forall_mem_cons.mpr ⟨⟨d_166_123, Or.inl pf_297⟩, List.forall_mem_cons.mpr ⟨d_166_126, List.forall_mem_cons.mpr ⟨d_166_127, List.forall_mem_cons.mpr ⟨d_166_128, List.forall_mem_cons.mpr ⟨d_166_129, List.forall_mem_cons.mpr ⟨⟨d_166_130, Or.inl pf_296⟩, List.forall_mem_cons.mpr ⟨d_166_133, List.forall_mem_cons.mpr ⟨d_166_134, List.forall_mem_cons.mpr ⟨d_166_135, List.forall_mem_cons.mpr ⟨d_166_136, List.forall_mem_cons.mpr ⟨d_166_137, List.forall_mem_cons.mpr ⟨d_166_138, List.forall_mem_cons.mpr ⟨⟨d_166_139, Or.inl pf_292⟩, List.forall_mem_cons.mpr ⟨d_166_142, List.forall_mem_cons.mpr ⟨d_166_144, List.forall_mem_cons.mpr ⟨d_166_146, List.forall_mem_cons.mpr ⟨d_166_148, List.forall_mem_cons.mpr ⟨d_166_150, List.forall_mem_cons.mpr ⟨d_166_152, List.forall_mem_cons.mpr ⟨⟨d_166_154, (Or.inl ⟨Nat.le_of_ble_eq_true rfl, mo_139, ms_139, pm_172⟩)⟩, List.forall_mem_cons.mpr ⟨⟨d_166_157, (by decide)⟩, List.forall_mem_cons.mpr ⟨d_166_160, List.forall_mem_cons.mpr ⟨d_166_161, List.forall_mem_cons.mpr ⟨⟨d_166_162, ⟨mo_180, mi_180, se_180, pm_193⟩⟩, List.forall_mem_cons.mpr ⟨d_166_165, List.forall_mem_cons.mpr ⟨d_166_166, List.forall_mem_cons.mpr ⟨⟨d_166_167, Or.inl pf_292⟩, List.forall_mem_cons.mpr ⟨d_166_170, List.forall_mem_cons.mpr ⟨d_166_172, List.forall_mem_cons.mpr ⟨d_166_174, List.forall_mem_cons.mpr ⟨d_166_176, List.forall_mem_cons.mpr ⟨d_166_178, List.forall_mem_cons.mpr ⟨d_166_180, List.forall_mem_cons.mpr ⟨⟨d_166_182, (Or.inl ⟨Nat.le_of_ble_eq_true rfl, mo_139, ms_139, pm_172⟩)⟩, List.forall_mem_cons.mpr ⟨⟨d_166_185, (by decide)⟩, List.forall_mem_cons.mpr ⟨d_166_188, List.forall_mem_cons.mpr ⟨⟨d_166_189, ⟨mo_184, mi_184, se_184, pm_194⟩⟩, List.forall_mem_cons.mpr ⟨d_166_192, List.forall_mem_cons.mpr ⟨d_166_193, List.forall_mem_cons.mpr ⟨d_166_194, List.forall_mem_cons.mpr ⟨⟨d_166_195, ⟨mo_181, mi_181, se_181, pm_195⟩⟩, List.forall_mem_cons.mpr ⟨d_166_198, List.forall_mem_cons.mpr ⟨⟨d_166_199, Or.inl pf_292⟩, List.forall_mem_cons.mpr ⟨d_166_202, List.forall_mem_cons.mpr ⟨d_166_204, List.forall_mem_cons.mpr ⟨d_166_206, List.forall_mem_cons.mpr ⟨d_166_208, List.forall_mem_cons.mpr ⟨d_166_210, List.forall_mem_cons.mpr ⟨d_166_212, List.forall_mem_cons.mpr ⟨⟨d_166_214, (Or.inl ⟨Nat.le_of_ble_eq_true rfl, mo_139, ms_139, pm_172⟩)⟩, List.forall_mem_cons.mpr ⟨⟨d_166_217, (by decide)⟩, List.forall_mem_cons.mpr ⟨d_166_220, List.forall_mem_cons.mpr ⟨d_166_221, List.forall_mem_cons.mpr ⟨⟨d_166_222, ⟨mo_182, mi_182, se_182, pm_196⟩⟩, List.forall_mem_cons.mpr ⟨d_166_225, List.forall_mem_cons.mpr ⟨d_166_226, List.forall_mem_cons.mpr ⟨d_166_227, List.forall_mem_cons.mpr ⟨⟨d_166_228, ⟨mo_177, mi_177, se_177, pm_197⟩⟩, List.forall_mem_cons.mpr ⟨d_166_231, List.forall_mem_cons.mpr ⟨d_166_232, List.forall_mem_cons.mpr ⟨⟨d_166_233, ⟨mo_183, mi_183, se_183, pm_198⟩⟩, List.forall_mem_cons.mpr ⟨d_166_236, List.forall_mem_cons.mpr ⟨d_166_237, fun _ h => absurd h List.not_mem_nil⟩⟩⟩⟩⟩⟩⟩⟩⟩⟩⟩⟩⟩⟩⟩⟩⟩⟩⟩⟩⟩⟩⟩⟩⟩⟩⟩⟩⟩⟩⟩⟩⟩⟩⟩⟩⟩⟩⟩⟩⟩⟩⟩⟩⟩⟩⟩⟩⟩⟩⟩⟩⟩⟩⟩⟩⟩⟩⟩⟩⟩⟩⟩⟩⟩⟩⟩⟩⟩⟩⟩⟩⟩⟩⟩⟩⟩⟩⟩⟩⟩⟩⟩⟩⟩⟩⟩⟩⟩⟩⟩⟩⟩⟩⟩⟩⟩⟩⟩⟩⟩⟩⟩⟩⟩⟩⟩⟩⟩⟩⟩⟩⟩⟩⟩⟩⟩⟩⟩⟩⟩⟩⟩⟩⟩⟩⟩⟩⟩
theorem d_167_0 : decode prog_12_method_37_code 0 = .ok (.iconst 0, 1) := by decide +kernel
theorem d_167_1 : decode prog_12_method_37_code 1 = .ok (.istore_n 3, 1) := by decide +kernel
theorem d_167_2 : decode prog_12_method_37_code 2 = .ok (.iload_n 1, 1) := by decide +kernel
theorem d_167_3 : decode prog_12_method_37_code 3 = .ok (.istore 4, 2) := by decide +kernel
theorem d_167_5 : decode prog_12_method_37_code 5 = .ok (.iload 4, 2) := by decide +kernel
theorem d_167_7 : decode prog_12_method_37_code 7 = .ok (.iload_n 2, 1) := by decide +kernel
theorem d_167_8 : decode prog_12_method_37_code 8 = .ok (.if_icmp .ge 240, 3) := by decide +kernel
theorem d_167_11 : decode prog_12_method_37_code 11 = .ok (.aload_n 0, 1) := by decide +kernel
theorem d_167_12 : decode prog_12_method_37_code 12 = .ok (.getfield 20, 3) := by decide +kernel
theorem d_167_15 : decode prog_12_method_37_code 15 = .ok (.iload 4, 2) := by decide +kernel
theorem d_167_17 : decode prog_12_method_37_code 17 = .ok (.iaload, 1) := by decide +kernel
theorem d_167_18 : decode prog_12_method_37_code 18 = .ok (.istore 5, 2) := by decide +kernel
theorem d_167_20 : decode prog_12_method_37_code 20 = .ok (.iload 5, 2) := by decide +kernel
theorem d_167_22 : decode prog_12_method_37_code 22 = .ok (.iconst 3, 1) := by decide +kernel
theorem d_167_23 : decode prog_12_method_37_code 23 = .ok (.if_icmp .gt 88, 3) := by decide +kernel
theorem d_167_26 : decode prog_12_method_37_code 26 = .ok (.aload_n 0, 1) := by decide +kernel
theorem d_167_27 : decode prog_12_method_37_code 27 = .ok (.getfield 67, 3) := by decide +kernel
theorem d_167_30 : decode prog_12_method_37_code 30 = .ok (.iload_n 3, 1) := by decide +kernel
theorem d_167_31 : decode prog_12_method_37_code 31 = .ok (.iload 5, 2) := by decide +kernel
theorem d_167_33 : decode prog_12_method_37_code 33 = .ok (.iconst 1, 1) := by decide +kernel
theorem d_167_34 : decode prog_12_method_37_code 34 = .ok (.if_icmp .ne 14, 3) := by decide +kernel
theorem d_167_37 : decode prog_12_method_37_code 37 = .ok (.aload_n 0, 1) := by decide +kernel
theorem d_167_38 : decode prog_12_method_37_code 38 = .ok (.getfield 23, 3) := by decide +kernel
theorem d_167_41 : decode prog_12_method_37_code 41 = .ok (.iload 4, 2) := by decide +kernel
theorem d_167_43 : decode prog_12_method_37_code 43 = .ok (.iaload, 1) := by decide +kernel
theorem d_167_44 : decode prog_12_method_37_code 44 = .ok (.i2l, 1) := by decide +kernel
theorem d_167_45 : decode prog_12_method_37_code 45 = .ok (.goto 59, 3) := by decide +kernel
theorem d_167_48 : decode prog_12_method_37_code 48 = .ok (.iload 5, 2) := by decide +kernel
theorem d_167_50 : decode prog_12_method_37_code 50 = .ok (.iconst 2, 1) := by decide +kernel
theorem d_167_51 : decode prog_12_method_37_code 51 = .ok (.if_icmp .ne 9, 3) := by decide +kernel
theorem d_167_54 : decode prog_12_method_37_code 54 = .ok (.ldc2_w 305, 3) := by decide +kernel
theorem d_167_57 : decode prog_12_method_37_code 57 = .ok (.goto 47, 3) := by decide +kernel
theorem d_167_60 : decode prog_12_method_37_code 60 = .ok (.aload_n 0, 1) := by decide +kernel
theorem d_167_61 : decode prog_12_method_37_code 61 = .ok (.getfield 56, 3) := by decide +kernel
theorem d_167_64 : decode prog_12_method_37_code 64 = .ok (.bipush 80, 2) := by decide +kernel
theorem d_167_66 : decode prog_12_method_37_code 66 = .ok (.aload_n 0, 1) := by decide +kernel
theorem d_167_67 : decode prog_12_method_37_code 67 = .ok (.getfield 23, 3) := by decide +kernel
theorem d_167_70 : decode prog_12_method_37_code 70 = .ok (.iload 4, 2) := by decide +kernel
theorem d_167_72 : decode prog_12_method_37_code 72 = .ok (.iaload, 1) := by decide +kernel
theorem d_167_73 : decode prog_12_method_37_code 73 = .ok (.iconst 4, 1) := by decide +kernel
theorem d_167_74 : decode prog_12_method_37_code 74 = .ok (.idiv, 1) := by decide +kernel
theorem d_167_75 : decode prog_12_method_37_code 75 = .ok (.imul, 1) := by decide +kernel
theorem d_167_76 : decode prog_12_method_37_code 76 = .ok (.iconst 4, 1) := by decide +kernel
theorem d_167_77 : decode prog_12_method_37_code 77 = .ok (.aload_n 0, 1) := by decide +kernel
theorem d_167_78 : decode prog_12_method_37_code 78 = .ok (.getfield 64, 3) := by decide +kernel
theorem d_167_81 : decode prog_12_method_37_code 81 = .ok (.aload_n 0, 1) := by decide +kernel
theorem d_167_82 : decode prog_12_method_37_code 82 = .ok (.getfield 23, 3) := by decide +kernel
theorem d_167_85 : decode prog_12_method_37_code 85 = .ok (.iload 4, 2) := by decide +kernel
theorem d_167_87 : decode prog_12_method_37_code 87 = .ok (.iaload, 1) := by decide +kernel
theorem d_167_88 : decode prog_12_method_37_code 88 = .ok (.iconst 4, 1) := by decide +kernel
theorem d_167_89 : decode prog_12_method_37_code 89 = .ok (.idiv, 1) := by decide +kernel
theorem d_167_90 : decode prog_12_method_37_code 90 = .ok (.iaload, 1) := by decide +kernel
theorem d_167_91 : decode prog_12_method_37_code 91 = .ok (.imul, 1) := by decide +kernel
theorem d_167_92 : decode prog_12_method_37_code 92 = .ok (.iadd, 1) := by decide +kernel
theorem d_167_93 : decode prog_12_method_37_code 93 = .ok (.aload_n 0, 1) := by decide +kernel
theorem d_167_94 : decode prog_12_method_37_code 94 = .ok (.getfield 23, 3) := by decide +kernel
theorem d_167_97 : decode prog_12_method_37_code 97 = .ok (.iload 4, 2) := by decide +kernel
theorem d_167_99 : decode prog_12_method_37_code 99 = .ok (.iaload, 1) := by decide +kernel
theorem d_167_100 : decode prog_12_method_37_code 100 = .ok (.iconst 4, 1) := by decide +kernel
theorem d_167_101 : decode prog_12_method_37_code 101 = .ok (.irem, 1) := by decide +kernel
theorem d_167_102 : decode prog_12_method_37_code 102 = .ok (.iadd, 1) := by decide +kernel
theorem d_167_103 : decode prog_12_method_37_code 103 = .ok (.laload, 1) := by decide +kernel
theorem d_167_104 : decode prog_12_method_37_code 104 = .ok (.lastore, 1) := by decide +kernel
theorem d_167_105 : decode prog_12_method_37_code 105 = .ok (.iinc 3 1, 3) := by decide +kernel
theorem d_167_108 : decode prog_12_method_37_code 108 = .ok (.goto 134, 3) := by decide +kernel
theorem d_167_111 : decode prog_12_method_37_code 111 = .ok (.iload 5, 2) := by decide +kernel
theorem d_167_113 : decode prog_12_method_37_code 113 = .ok (.bipush 8, 2) := by decide +kernel
theorem d_167_115 : decode prog_12_method_37_code 115 = .ok (.if_icmp .eq 17, 3) := by decide +kernel
theorem d_167_118 : decode prog_12_method_37_code 118 = .ok (.iload 5, 2) := by decide +kernel
theorem d_167_120 : decode prog_12_method_37_code 120 = .ok (.bipush 12, 2) := by decide +kernel
theorem d_167_122 : decode prog_12_method_37_code 122 = .ok (.if_icmp .eq 10, 3) := by decide +kernel
theorem d_167_125 : decode prog_12_method_37_code 125 = .ok (.iload 5, 2) := by decide +kernel
theorem d_167_127 : decode prog_12_method_37_code 127 = .ok (.bipush 13, 2) := by decide +kernel
theorem d_167_129 : decode prog_12_method_37_code 129 = .ok (.if_icmp .ne 83, 3) := by decide +kernel
theorem d_167_132 : decode prog_12_method_37_code 132 = .ok (.aload_n 0, 1) := by decide +kernel
theorem d_167_133 : decode prog_12_method_37_code 133 = .ok (.getfield 67, 3) := by decide +kernel
theorem d_167_136 : decode prog_12_method_37_code 136 = .ok (.iload_n 3, 1) := by decide +kernel
theorem d_167_137 : decode prog_12_method_37_code 137 = .ok (.iconst 1, 1) := by decide +kernel
theorem d_167_138 : decode prog_12_method_37_code 138 = .ok (.isub, 1) := by decide +kernel
theorem d_167_139 : decode prog_12_method_37_code 139 = .ok (.laload, 1) := by decide +kernel
theorem d_167_140 : decode prog_12_method_37_code 140 = .ok (.lstore 6, 2) := by decide +kernel
theorem d_167_142 : decode prog_12_method_37_code 142 = .ok (.aload_n 0, 1) := by decide +kernel
theorem d_167_143 : decode prog_12_method_37_code 143 = .ok (.getfield 67, 3) := by decide +kernel
theorem d_167_146 : decode prog_12_method_37_code 146 = .ok (.iload_n 3, 1) := by decide +kernel
theorem d_167_147 : decode prog_12_method_37_code 147 = .ok (.iconst 1, 1) := by decide +kernel
theorem d_167_148 : decode prog_12_method_37_code 148 = .ok (.isub, 1) := by decide +kernel
theorem d_167_149 : decode prog_12_method_37_code 149 = .ok (.iload 5, 2) := by decide +kernel
theorem d_167_151 : decode prog_12_method_37_code 151 = .ok (.bipush 12, 2) := by decide +kernel
theorem d_167_153 : decode prog_12_method_37_code 153 = .ok (.if_icmp .ne 20, 3) := by decide +kernel
theorem d_167_156 : decode prog_12_method_37_code 156 = .ok (.lload 6, 2) := by decide +kernel
theorem d_167_158 : decode prog_12_method_37_code 158 = .ok (.ldc2_w 305, 3) := by decide +kernel
theorem d_167_161 : decode prog_12_method_37_code 161 = .ok (.lcmp, 1) := by decide +kernel
theorem d_167_162 : decode prog_12_method_37_code 162 = .ok (.ifCond .ne 7, 3) := by decide +kernel
theorem d_167_165 : decode prog_12_method_37_code 165 = .ok (.lconst 1, 1) := by decide +kernel
theorem d_167_166 : decode prog_12_method_37_code 166 = .ok (.goto 42, 3) := by decide +kernel
theorem d_167_169 : decode prog_12_method_37_code 169 = .ok (.lconst 0, 1) := by decide +kernel
theorem d_167_170 : decode prog_12_method_37_code 170 = .ok (.goto 38, 3) := by decide +kernel
theorem d_167_173 : decode prog_12_method_37_code 173 = .ok (.lload 6, 2) := by decide +kernel
theorem d_167_175 : decode prog_12_method_37_code 175 = .ok (.ldc2_w 305, 3) := by decide +kernel
theorem d_167_178 : decode prog_12_method_37_code 178 = .ok (.lcmp, 1) := by decide +kernel
theorem d_167_179 : decode prog_12_method_37_code 179 = .ok (.ifCond .ne 9, 3) := by decide +kernel
theorem d_167_182 : decode prog_12_method_37_code 182 = .ok (.ldc2_w 305, 3) := by decide +kernel
theorem d_167_185 : decode prog_12_method_37_code 185 = .ok (.goto 23, 3) := by decide +kernel
theorem d_167_188 : decode prog_12_method_37_code 188 = .ok (.iload 5, 2) := by decide +kernel
theorem d_167_190 : decode prog_12_method_37_code 190 = .ok (.bipush 13, 2) := by decide +kernel
theorem d_167_192 : decode prog_12_method_37_code 192 = .ok (.if_icmp .ne 10, 3) := by decide +kernel
theorem d_167_195 : decode prog_12_method_37_code 195 = .ok (.lconst 1, 1) := by decide +kernel
theorem d_167_196 : decode prog_12_method_37_code 196 = .ok (.lload 6, 2) := by decide +kernel
theorem d_167_198 : decode prog_12_method_37_code 198 = .ok (.lsub, 1) := by decide +kernel
theorem d_167_199 : decode prog_12_method_37_code 199 = .ok (.goto 9, 3) := by decide +kernel
theorem d_167_202 : decode prog_12_method_37_code 202 = .ok (.lconst 0, 1) := by decide +kernel
theorem d_167_203 : decode prog_12_method_37_code 203 = .ok (.lload 6, 2) := by decide +kernel
theorem d_167_205 : decode prog_12_method_37_code 205 = .ok (.lsub, 1) := by decide +kernel
theorem d_167_206 : decode prog_12_method_37_code 206 = .ok (.l2i, 1) := by decide +kernel
theorem d_167_207 : decode prog_12_method_37_code 207 = .ok (.i2l, 1) := by decide +kernel
theorem d_167_208 : decode prog_12_method_37_code 208 = .ok (.lastore, 1) := by decide +kernel
theorem d_167_209 : decode prog_12_method_37_code 209 = .ok (.goto 33, 3) := by decide +kernel
theorem d_167_212 : decode prog_12_method_37_code 212 = .ok (.iinc 3 (-1), 3) := by decide +kernel
theorem d_167_215 : decode prog_12_method_37_code 215 = .ok (.aload_n 0, 1) := by decide +kernel
theorem d_167_216 : decode prog_12_method_37_code 216 = .ok (.getfield 67, 3) := by decide +kernel
theorem d_167_219 : decode prog_12_method_37_code 219 = .ok (.iload_n 3, 1) := by decide +kernel
theorem d_167_220 : decode prog_12_method_37_code 220 = .ok (.iconst 1, 1) := by decide +kernel
theorem d_167_221 : decode prog_12_method_37_code 221 = .ok (.isub, 1) := by decide +kernel
theorem d_167_222 : decode prog_12_method_37_code 222 = .ok (.iload 5, 2) := by decide +kernel
theorem d_167_224 : decode prog_12_method_37_code 224 = .ok (.aload_n 0, 1) := by decide +kernel
theorem d_167_225 : decode prog_12_method_37_code 225 = .ok (.getfield 67, 3) := by decide +kernel
theorem d_167_228 : decode prog_12_method_37_code 228 = .ok (.iload_n 3, 1) := by decide +kernel
theorem d_167_229 : decode prog_12_method_37_code 229 = .ok (.iconst 1, 1) := by decide +kernel
theorem d_167_230 : decode prog_12_method_37_code 230 = .ok (.isub, 1) := by decide +kernel
theorem d_167_231 : decode prog_12_method_37_code 231 = .ok (.laload, 1) := by decide +kernel
theorem d_167_232 : decode prog_12_method_37_code 232 = .ok (.aload_n 0, 1) := by decide +kernel
theorem d_167_233 : decode prog_12_method_37_code 233 = .ok (.getfield 67, 3) := by decide +kernel
theorem d_167_236 : decode prog_12_method_37_code 236 = .ok (.iload_n 3, 1) := by decide +kernel
theorem d_167_237 : decode prog_12_method_37_code 237 = .ok (.laload, 1) := by decide +kernel
theorem d_167_238 : decode prog_12_method_37_code 238 = .ok (.invokestatic 307, 3) := by decide +kernel
theorem d_167_241 : decode prog_12_method_37_code 241 = .ok (.lastore, 1) := by decide +kernel
theorem d_167_242 : decode prog_12_method_37_code 242 = .ok (.iinc 4 1, 3) := by decide +kernel
theorem d_167_245 : decode prog_12_method_37_code 245 = .ok (.goto (-240), 3) := by decide +kernel
theorem d_167_248 : decode prog_12_method_37_code 248 = .ok (.aload_n 0, 1) := by decide +kernel
theorem d_167_249 : decode prog_12_method_37_code 249 = .ok (.getfield 67, 3) := by decide +kernel
theorem d_167_252 : decode prog_12_method_37_code 252 = .ok (.iconst 0, 1) := by decide +kernel
theorem d_167_253 : decode prog_12_method_37_code 253 = .ok (.laload, 1) := by decide +kernel
theorem d_167_254 : decode prog_12_method_37_code 254 = .ok (.lreturn, 1) := by decide +kernel
set_option maxRecDepth 20000 in
theorem ok_167 : ∀ r ∈ tb_167, sm_ok 167 r := List.forall_mem_cons.mpr ⟨d_167_0, List.forall_mem_cons.mpr ⟨d_167_1, List.forall_mem_cons.mpr ⟨d_167_2, List.forall_mem_cons.mpr ⟨d_167_3, List.forall_mem_cons.mpr ⟨d_167_5, List.forall_mem_cons.mpr ⟨d_167_7, List.forall_mem_cons.mpr ⟨⟨d_167_8, (by decide)⟩, List.forall_mem_cons.mpr ⟨d_167_11, List.forall_mem_cons.mpr ⟨⟨d_167_12, Or.inl pf_243⟩, List.forall_mem_cons.mpr ⟨d_167_15, List.forall_mem_cons.mpr ⟨d_167_17, List.forall_mem_cons.mpr ⟨d_167_18, List.forall_mem_cons.mpr ⟨d_167_20, List.forall_mem_cons.mpr ⟨d_167_22, List.forall_mem_cons.mpr ⟨⟨d_167_23, (by decide)⟩, List.forall_mem_cons.mpr ⟨d_167_26, List.forall_mem_cons.mpr ⟨⟨d_167_27, Or.inl pf_299⟩, List.forall_mem_cons.mpr ⟨d_167_30, List.forall_mem_cons.mpr ⟨d_167_31, List.forall_mem_cons.mpr ⟨d_167_33, List.forall_mem_cons.mpr ⟨⟨d_167_34, (by decide)⟩, List.forall_mem_cons.mpr ⟨d_167_37, List.forall_mem_cons.mpr ⟨⟨d_167_38, Or.inl pf_245⟩, List.forall_mem_cons.mpr ⟨d_167_41, List.forall_mem_cons.mpr ⟨d_167_43, List.forall_mem_cons.mpr ⟨d_167_44, List.forall_mem_cons.mpr ⟨⟨d_167_45, (by decide)⟩, List.forall_mem_cons.mpr ⟨d_167_48, List.forall_mem_cons.mpr ⟨d_167_50, List.forall_mem_cons.mpr ⟨⟨d_167_51, (by decide)⟩, List.forall_mem_cons.mpr ⟨⟨d_167_54, (fun _ h => Option.some.inj h ▸ wd_447)⟩, List.forall_mem_cons.mpr ⟨⟨d_167_57, (by decide)⟩, List.forall_mem_cons.mpr ⟨d_167_60, List.forall_mem_cons.mpr ⟨⟨d_167_61, Or.inl pf_300⟩, List.forall_mem_cons.mpr ⟨d_167_64, List.forall_mem_cons.mpr ⟨d_167_66, List.forall_mem_cons.mpr ⟨⟨d_167_67, Or.inl pf_245⟩, List.forall_mem_cons.mpr ⟨d_167_70, List.forall_mem_cons.mpr ⟨d_167_72, List.forall_mem_cons.mpr ⟨d_167_73, List.forall_mem_cons.mpr ⟨d_167_74, List.forall_mem_cons.mpr ⟨d_167_75, List.forall_mem_cons.mpr ⟨d_167_76, List.forall_mem_cons.mpr ⟨d_167_77, List.forall_mem_cons.mpr ⟨⟨d_167_78, Or.inl pf_301⟩, List.forall_mem_cons.mpr ⟨d_167_81, List.forall_mem_cons.mpr ⟨⟨d_167_82, Or.inl pf_245⟩, List.forall_mem_cons.mpr ⟨d_167_85, List.forall_mem_cons.mpr ⟨d_167_87, List.forall_mem_cons.mpr ⟨d_167_88, List.forall_mem_cons.mpr ⟨d_167_89, List.forall_mem_cons.mpr ⟨d_167_90, List.forall_mem_cons.mpr ⟨d_167_91, List.forall_mem_cons.mpr ⟨d_167_92, List.forall_mem_cons.mpr ⟨d_167_93, List.forall_mem_cons.mpr ⟨⟨d_167_94, Or.inl pf_245⟩, List.forall_mem_cons.mpr ⟨d_167_97, List.forall_mem_cons.mpr ⟨d_167_99, List.forall_mem_cons.mpr ⟨d_167_100, List.forall_mem_cons.mpr ⟨d_167_101, List.forall_mem_cons.mpr ⟨d_167_102, List.forall_mem_cons.mpr ⟨d_167_103, List.forall_mem_cons.mpr ⟨d_167_104, List.forall_mem_cons.mpr ⟨d_167_105, List.forall_mem_cons.mpr ⟨⟨d_167_108, (by decide)⟩, List.forall_mem_cons.mpr ⟨d_167_111, List.forall_mem_cons.mpr ⟨d_167_113, List.forall_mem_cons.mpr ⟨⟨d_167_115, (by decide)⟩, List.forall_mem_cons.mpr ⟨d_167_118, List.forall_mem_cons.mpr ⟨d_167_120, List.forall_mem_cons.mpr ⟨⟨d_167_122, (by decide)⟩, List.forall_mem_cons.mpr ⟨d_167_125, List.forall_mem_cons.mpr ⟨d_167_127, List.forall_mem_cons.mpr ⟨⟨d_167_129, (by decide)⟩, List.forall_mem_cons.mpr ⟨d_167_132, List.forall_mem_cons.mpr ⟨⟨d_167_133, Or.inl pf_299⟩, List.forall_mem_cons.mpr ⟨d_167_136, List.forall_mem_cons.mpr ⟨d_167_137, List.forall_mem_cons.mpr ⟨d_167_138, List.forall_mem_cons.mpr ⟨d_167_139, List.forall_mem_cons.mpr ⟨d_167_140, List.forall_mem_cons.mpr ⟨d_167_142, List.forall_mem_cons.mpr ⟨⟨d_167_143, Or.inl pf_299⟩, List.forall_mem_cons.mpr ⟨d_167_146, List.forall_mem_cons.mpr ⟨d_167_147, List.forall_mem_cons.mpr ⟨d_167_148, List.forall_mem_cons.mpr ⟨d_167_149, List.forall_mem_cons.mpr ⟨d_167_151, List.forall_mem_cons.mpr ⟨⟨d_167_153, (by decide)⟩, List.forall_mem_cons.mpr ⟨d_167_156, List.forall_mem_cons.mpr ⟨⟨d_167_158, (fun _ h => Option.some.inj h ▸ wd_447)⟩, List.forall_mem_cons.mpr ⟨d_167_161, List.forall_mem_cons.mpr ⟨⟨d_167_162, (by decide)⟩, List.forall_mem_cons.mpr ⟨d_167_165, List.forall_mem_cons.mpr ⟨⟨d_167_166, (by decide)⟩, List.forall_mem_cons.mpr ⟨d_167_169, List.forall_mem_cons.mpr ⟨⟨d_167_170, (by decide)⟩, List.forall_mem_cons.mpr ⟨d_167_173, List.forall_mem_cons.mpr ⟨⟨d_167_175, (fun _ h => Option.some.inj h ▸ wd_447)⟩, List.forall_mem_cons.mpr ⟨d_167_178, List.forall_mem_cons.mpr ⟨⟨d_167_179, (by decide)⟩, List.forall_mem_cons.mpr ⟨⟨d_167_182, (fun _ h => Option.some.inj h ▸ wd_447)⟩, List.forall_mem_cons.mpr ⟨⟨d_167_185, (by decide)⟩, List.forall_mem_cons.mpr ⟨d_167_188, List.forall_mem_cons.mpr ⟨d_167_190, List.forall_mem_cons.mpr ⟨⟨d_167_192, (by decide)⟩, List.forall_mem_cons.mpr ⟨d_167_195, List.forall_mem_cons.mpr ⟨d_167_196, List.forall_mem_cons.mpr ⟨d_167_198, List.forall_mem_cons.mpr ⟨⟨d_167_199, (by decide)⟩, List.forall_mem_cons.mpr ⟨d_167_202, List.forall_mem_cons.mpr ⟨d_167_203, List.forall_mem_cons.mpr ⟨d_167_205, List.forall_mem_cons.mpr ⟨d_167_206, List.forall_mem_cons.mpr ⟨d_167_207, List.forall_mem_cons.mpr ⟨d_167_208, List.forall_mem_cons.mpr ⟨⟨d_167_209, (by decide)⟩, List.forall_mem_cons.mpr ⟨d_167_212, List.forall_mem_cons.mpr ⟨d_167_215, List.forall_mem_cons.mpr ⟨⟨d_167_216, Or.inl pf_299⟩, List.forall_mem_cons.mpr ⟨d_167_219, List.forall_mem_cons.mpr ⟨d_167_220, List.forall_mem_cons.mpr ⟨d_167_221, List.forall_mem_cons.mpr ⟨d_167_222, List.forall_mem_cons.mpr ⟨d_167_224, List.forall_mem_cons.mpr ⟨⟨d_167_225, Or.inl pf_299⟩, List.forall_mem_cons.mpr ⟨d_167_228, List.forall_mem_cons.mpr ⟨d_167_229, List.forall_mem_cons.mpr ⟨d_167_230, List.forall_mem_cons.mpr ⟨d_167_231, List.forall_mem_cons.mpr ⟨d_167_232, List.forall_mem_cons.mpr ⟨⟨d_167_233, Or.inl pf_299⟩, List.forall_mem_cons.mpr ⟨d_167_236, List.forall_mem_cons.mpr ⟨d_167_237, List.forall_mem_cons.mpr ⟨⟨d_167_238, (Or.inl ⟨Nat.le_of_ble_eq_true rfl, mo_168, ms_168, pm_199⟩)⟩, List.forall_mem_cons.mpr ⟨d_167_241, List.forall_mem_cons.mpr ⟨d_167_242, List.forall_mem_cons.mpr ⟨⟨d_167_245, (by decide)⟩, List.forall_mem_cons.mpr ⟨d_167_248, List.forall_mem_cons.mpr ⟨⟨d_167_249, Or.inl pf_299⟩, List.forall_mem_cons.mpr ⟨d_167_252, List.forall_mem_cons.mpr ⟨d_167_253, List.forall_mem_cons.mpr ⟨d_167_254, fun _ h => absurd h List.not_mem_nil⟩⟩⟩⟩⟩⟩⟩⟩⟩⟩⟩⟩⟩⟩⟩⟩⟩⟩⟩⟩⟩⟩⟩⟩⟩⟩⟩⟩⟩⟩⟩⟩⟩⟩⟩⟩⟩⟩⟩⟩⟩⟩⟩⟩⟩⟩⟩⟩⟩⟩⟩⟩⟩⟩⟩⟩⟩⟩⟩⟩⟩⟩⟩⟩⟩⟩⟩⟩⟩⟩⟩⟩⟩⟩⟩⟩⟩⟩⟩⟩⟩⟩⟩⟩⟩⟩⟩⟩⟩⟩⟩⟩⟩⟩⟩⟩⟩⟩⟩⟩⟩⟩⟩⟩⟩⟩⟩⟩⟩⟩⟩⟩⟩⟩⟩⟩⟩⟩⟩⟩⟩⟩⟩⟩⟩⟩⟩⟩⟩⟩⟩⟩⟩⟩⟩⟩⟩⟩⟩⟩⟩⟩⟩
