/-! DECODE ROWS, by program -/
theorem d_168_0 : decode prog_12_method_38_code 0 = .ok (.iload_n 0, 1) := by decide +kernel
theorem d_168_1 : decode prog_12_method_38_code 1 = .ok (.bipush 14, 2) := by decide +kernel
theorem d_168_3 : decode prog_12_method_38_code 3 = .ok (.if_icmp .ne 43, 3) := by decide +kernel
theorem d_168_6 : decode prog_12_method_38_code 6 = .ok (.lload_n 1, 1) := by decide +kernel
theorem d_168_7 : decode prog_12_method_38_code 7 = .ok (.lconst 0, 1) := by decide +kernel
theorem d_168_8 : decode prog_12_method_38_code 8 = .ok (.lcmp, 1) := by decide +kernel
theorem d_168_9 : decode prog_12_method_38_code 9 = .ok (.ifCond .eq 9, 3) := by decide +kernel
theorem d_168_12 : decode prog_12_method_38_code 12 = .ok (.lload_n 3, 1) := by decide +kernel
theorem d_168_13 : decode prog_12_method_38_code 13 = .ok (.lconst 0, 1) := by decide +kernel
theorem d_168_14 : decode prog_12_method_38_code 14 = .ok (.lcmp, 1) := by decide +kernel
theorem d_168_15 : decode prog_12_method_38_code 15 = .ok (.ifCond .ne 7, 3) := by decide +kernel
theorem d_168_18 : decode prog_12_method_38_code 18 = .ok (.lconst 0, 1) := by decide +kernel
theorem d_168_19 : decode prog_12_method_38_code 19 = .ok (.goto 26, 3) := by decide +kernel
theorem d_168_22 : decode prog_12_method_38_code 22 = .ok (.lload_n 1, 1) := by decide +kernel
theorem d_168_23 : decode prog_12_method_38_code 23 = .ok (.ldc2_w 305, 3) := by decide +kernel
theorem d_168_26 : decode prog_12_method_38_code 26 = .ok (.lcmp, 1) := by decide +kernel
theorem d_168_27 : decode prog_12_method_38_code 27 = .ok (.ifCond .eq 11, 3) := by decide +kernel
theorem d_168_30 : decode prog_12_method_38_code 30 = .ok (.lload_n 3, 1) := by decide +kernel
theorem d_168_31 : decode prog_12_method_38_code 31 = .ok (.ldc2_w 305, 3) := by decide +kernel
theorem d_168_34 : decode prog_12_method_38_code 34 = .ok (.lcmp, 1) := by decide +kernel
theorem d_168_35 : decode prog_12_method_38_code 35 = .ok (.ifCond .ne 9, 3) := by decide +kernel
theorem d_168_38 : decode prog_12_method_38_code 38 = .ok (.ldc2_w 305, 3) := by decide +kernel
theorem d_168_41 : decode prog_12_method_38_code 41 = .ok (.goto 4, 3) := by decide +kernel
theorem d_168_44 : decode prog_12_method_38_code 44 = .ok (.lconst 1, 1) := by decide +kernel
theorem d_168_45 : decode prog_12_method_38_code 45 = .ok (.lreturn, 1) := by decide +kernel
theorem d_168_46 : decode prog_12_method_38_code 46 = .ok (.iload_n 0, 1) := by decide +kernel
theorem d_168_47 : decode prog_12_method_38_code 47 = .ok (.bipush 15, 2) := by decide +kernel
theorem d_168_49 : decode prog_12_method_38_code 49 = .ok (.if_icmp .ne 43, 3) := by decide +kernel
theorem d_168_52 : decode prog_12_method_38_code 52 = .ok (.lload_n 1, 1) := by decide +kernel
theorem d_168_53 : decode prog_12_method_38_code 53 = .ok (.lconst 1, 1) := by decide +kernel
theorem d_168_54 : decode prog_12_method_38_code 54 = .ok (.lcmp, 1) := by decide +kernel
theorem d_168_55 : decode prog_12_method_38_code 55 = .ok (.ifCond .eq 9, 3) := by decide +kernel
theorem d_168_58 : decode prog_12_method_38_code 58 = .ok (.lload_n 3, 1) := by decide +kernel
theorem d_168_59 : decode prog_12_method_38_code 59 = .ok (.lconst 1, 1) := by decide +kernel
theorem d_168_60 : decode prog_12_method_38_code 60 = .ok (.lcmp, 1) := by decide +kernel
theorem d_168_61 : decode prog_12_method_38_code 61 = .ok (.ifCond .ne 7, 3) := by decide +kernel
theorem d_168_64 : decode prog_12_method_38_code 64 = .ok (.lconst 1, 1) := by decide +kernel
theorem d_168_65 : decode prog_12_method_38_code 65 = .ok (.goto 26, 3) := by decide +kernel
theorem d_168_68 : decode prog_12_method_38_code 68 = .ok (.lload_n 1, 1) := by decide +kernel
theorem d_168_69 : decode prog_12_method_38_code 69 = .ok (.ldc2_w 305, 3) := by decide +kernel
theorem d_168_72 : decode prog_12_method_38_code 72 = .ok (.lcmp, 1) := by decide +kernel
theorem d_168_73 : decode prog_12_method_38_code 73 = .ok (.ifCond .eq 11, 3) := by decide +kernel
theorem d_168_76 : decode prog_12_method_38_code 76 = .ok (.lload_n 3, 1) := by decide +kernel
theorem d_168_77 : decode prog_12_method_38_code 77 = .ok (.ldc2_w 305, 3) := by decide +kernel
theorem d_168_80 : decode prog_12_method_38_code 80 = .ok (.lcmp, 1) := by decide +kernel
theorem d_168_81 : decode prog_12_method_38_code 81 = .ok (.ifCond .ne 9, 3) := by decide +kernel
theorem d_168_84 : decode prog_12_method_38_code 84 = .ok (.ldc2_w 305, 3) := by decide +kernel
theorem d_168_87 : decode prog_12_method_38_code 87 = .ok (.goto 4, 3) := by decide +kernel
theorem d_168_90 : decode prog_12_method_38_code 90 = .ok (.lconst 0, 1) := by decide +kernel
theorem d_168_91 : decode prog_12_method_38_code 91 = .ok (.lreturn, 1) := by decide +kernel
theorem d_168_92 : decode prog_12_method_38_code 92 = .ok (.lload_n 1, 1) := by decide +kernel
theorem d_168_93 : decode prog_12_method_38_code 93 = .ok (.ldc2_w 305, 3) := by decide +kernel
theorem d_168_96 : decode prog_12_method_38_code 96 = .ok (.lcmp, 1) := by decide +kernel
theorem d_168_97 : decode prog_12_method_38_code 97 = .ok (.ifCond .eq 11, 3) := by decide +kernel
theorem d_168_100 : decode prog_12_method_38_code 100 = .ok (.lload_n 3, 1) := by decide +kernel
theorem d_168_101 : decode prog_12_method_38_code 101 = .ok (.ldc2_w 305, 3) := by decide +kernel
theorem d_168_104 : decode prog_12_method_38_code 104 = .ok (.lcmp, 1) := by decide +kernel
theorem d_168_105 : decode prog_12_method_38_code 105 = .ok (.ifCond .ne 7, 3) := by decide +kernel
theorem d_168_108 : decode prog_12_method_38_code 108 = .ok (.ldc2_w 305, 3) := by decide +kernel
theorem d_168_111 : decode prog_12_method_38_code 111 = .ok (.lreturn, 1) := by decide +kernel
theorem d_168_112 : decode prog_12_method_38_code 112 = .ok (.iload_n 0, 1) := by decide +kernel
theorem d_168_113 : decode prog_12_method_38_code 113 = .ok (.bipush 9, 2) := by decide +kernel
theorem d_168_115 : decode prog_12_method_38_code 115 = .ok (.if_icmp .ne 15, 3) := by decide +kernel
theorem d_168_118 : decode prog_12_method_38_code 118 = .ok (.lload_n 1, 1) := by decide +kernel
theorem d_168_119 : decode prog_12_method_38_code 119 = .ok (.lload_n 3, 1) := by decide +kernel
theorem d_168_120 : decode prog_12_method_38_code 120 = .ok (.lcmp, 1) := by decide +kernel
theorem d_168_121 : decode prog_12_method_38_code 121 = .ok (.ifCond .ne 7, 3) := by decide +kernel
theorem d_168_124 : decode prog_12_method_38_code 124 = .ok (.lconst 1, 1) := by decide +kernel
theorem d_168_125 : decode prog_12_method_38_code 125 = .ok (.goto 4, 3) := by decide +kernel
theorem d_168_128 : decode prog_12_method_38_code 128 = .ok (.lconst 0, 1) := by decide +kernel
theorem d_168_129 : decode prog_12_method_38_code 129 = .ok (.lreturn, 1) := by decide +kernel
theorem d_168_130 : decode prog_12_method_38_code 130 = .ok (.iload_n 0, 1) := by decide +kernel
theorem d_168_131 : decode prog_12_method_38_code 131 = .ok (.bipush 10, 2) := by decide +kernel
theorem d_168_133 : decode prog_12_method_38_code 133 = .ok (.if_icmp .ne 15, 3) := by decide +kernel
theorem d_168_136 : decode prog_12_method_38_code 136 = .ok (.lload_n 1, 1) := by decide +kernel
theorem d_168_137 : decode prog_12_method_38_code 137 = .ok (.lload_n 3, 1) := by decide +kernel
theorem d_168_138 : decode prog_12_method_38_code 138 = .ok (.lcmp, 1) := by decide +kernel
theorem d_168_139 : decode prog_12_method_38_code 139 = .ok (.ifCond .ge 7, 3) := by decide +kernel
theorem d_168_142 : decode prog_12_method_38_code 142 = .ok (.lconst 1, 1) := by decide +kernel
theorem d_168_143 : decode prog_12_method_38_code 143 = .ok (.goto 4, 3) := by decide +kernel
theorem d_168_146 : decode prog_12_method_38_code 146 = .ok (.lconst 0, 1) := by decide +kernel
theorem d_168_147 : decode prog_12_method_38_code 147 = .ok (.lreturn, 1) := by decide +kernel
theorem d_168_148 : decode prog_12_method_38_code 148 = .ok (.iload_n 0, 1) := by decide +kernel
theorem d_168_149 : decode prog_12_method_38_code 149 = .ok (.bipush 11, 2) := by decide +kernel
theorem d_168_151 : decode prog_12_method_38_code 151 = .ok (.if_icmp .ne 15, 3) := by decide +kernel
theorem d_168_154 : decode prog_12_method_38_code 154 = .ok (.lload_n 1, 1) := by decide +kernel
theorem d_168_155 : decode prog_12_method_38_code 155 = .ok (.lload_n 3, 1) := by decide +kernel
theorem d_168_156 : decode prog_12_method_38_code 156 = .ok (.lcmp, 1) := by decide +kernel
theorem d_168_157 : decode prog_12_method_38_code 157 = .ok (.ifCond .le 7, 3) := by decide +kernel
theorem d_168_160 : decode prog_12_method_38_code 160 = .ok (.lconst 1, 1) := by decide +kernel
theorem d_168_161 : decode prog_12_method_38_code 161 = .ok (.goto 4, 3) := by decide +kernel
theorem d_168_164 : decode prog_12_method_38_code 164 = .ok (.lconst 0, 1) := by decide +kernel
theorem d_168_165 : decode prog_12_method_38_code 165 = .ok (.lreturn, 1) := by decide +kernel
theorem d_168_166 : decode prog_12_method_38_code 166 = .ok (.iload_n 0, 1) := by decide +kernel
theorem d_168_167 : decode prog_12_method_38_code 167 = .ok (.bipush 7, 2) := by decide +kernel
theorem d_168_169 : decode prog_12_method_38_code 169 = .ok (.if_icmp .ne 21, 3) := by decide +kernel
theorem d_168_172 : decode prog_12_method_38_code 172 = .ok (.lload_n 3, 1) := by decide +kernel
theorem d_168_173 : decode prog_12_method_38_code 173 = .ok (.lconst 0, 1) := by decide +kernel
theorem d_168_174 : decode prog_12_method_38_code 174 = .ok (.lcmp, 1) := by decide +kernel
theorem d_168_175 : decode prog_12_method_38_code 175 = .ok (.ifCond .ne 9, 3) := by decide +kernel
theorem d_168_178 : decode prog_12_method_38_code 178 = .ok (.ldc2_w 305, 3) := by decide +kernel
theorem d_168_181 : decode prog_12_method_38_code 181 = .ok (.goto 8, 3) := by decide +kernel
theorem d_168_184 : decode prog_12_method_38_code 184 = .ok (.lload_n 1, 1) := by decide +kernel
theorem d_168_185 : decode prog_12_method_38_code 185 = .ok (.lload_n 3, 1) := by decide +kernel
theorem d_168_186 : decode prog_12_method_38_code 186 = .ok (.ldiv, 1) := by decide +kernel
theorem d_168_187 : decode prog_12_method_38_code 187 = .ok (.l2i, 1) := by decide +kernel
theorem d_168_188 : decode prog_12_method_38_code 188 = .ok (.i2l, 1) := by decide +kernel
theorem d_168_189 : decode prog_12_method_38_code 189 = .ok (.lreturn, 1) := by decide +kernel
theorem d_168_190 : decode prog_12_method_38_code 190 = .ok (.iload_n 0, 1) := by decide +kernel
theorem d_168_191 : decode prog_12_method_38_code 191 = .ok (.iconst 4, 1) := by decide +kernel
theorem d_168_192 : decode prog_12_method_38_code 192 = .ok (.if_icmp .ne 9, 3) := by decide +kernel
theorem d_168_195 : decode prog_12_method_38_code 195 = .ok (.lload_n 1, 1) := by decide +kernel
theorem d_168_196 : decode prog_12_method_38_code 196 = .ok (.lload_n 3, 1) := by decide +kernel
theorem d_168_197 : decode prog_12_method_38_code 197 = .ok (.ladd, 1) := by decide +kernel
theorem d_168_198 : decode prog_12_method_38_code 198 = .ok (.goto 17, 3) := by decide +kernel
theorem d_168_201 : decode prog_12_method_38_code 201 = .ok (.iload_n 0, 1) := by decide +kernel
theorem d_168_202 : decode prog_12_method_38_code 202 = .ok (.iconst 5, 1) := by decide +kernel
theorem d_168_203 : decode prog_12_method_38_code 203 = .ok (.if_icmp .ne 9, 3) := by decide +kernel
theorem d_168_206 : decode prog_12_method_38_code 206 = .ok (.lload_n 1, 1) := by decide +kernel
theorem d_168_207 : decode prog_12_method_38_code 207 = .ok (.lload_n 3, 1) := by decide +kernel
theorem d_168_208 : decode prog_12_method_38_code 208 = .ok (.lsub, 1) := by decide +kernel
theorem d_168_209 : decode prog_12_method_38_code 209 = .ok (.goto 6, 3) := by decide +kernel
theorem d_168_212 : decode prog_12_method_38_code 212 = .ok (.lload_n 1, 1) := by decide +kernel
theorem d_168_213 : decode prog_12_method_38_code 213 = .ok (.lload_n 3, 1) := by decide +kernel
theorem d_168_214 : decode prog_12_method_38_code 214 = .ok (.lmul, 1) := by decide +kernel
theorem d_168_215 : decode prog_12_method_38_code 215 = .ok (.l2i, 1) := by decide +kernel
theorem d_168_216 : decode prog_12_method_38_code 216 = .ok (.i2l, 1) := by decide +kernel
theorem d_168_217 : decode prog_12_method_38_code 217 = .ok (.lreturn, 1) := by decide +kernel
set_option maxRecDepth 20000 in
theorem ok_168 : ∀ r ∈ tb_168, sm_ok 168 r := List.forall_mem_cons.mpr ⟨d_168_0, List.forall_mem_cons.mpr ⟨d_168_1, List.forall_mem_cons.mpr ⟨⟨d_168_3, (by decide)⟩, List.forall_mem_cons.mpr ⟨d_168_6, List.forall_mem_cons.mpr ⟨d_168_7, List.forall_mem_cons.mpr ⟨d_168_8, List.forall_mem_cons.mpr ⟨⟨d_168_9, (by decide)⟩, List.forall_mem_cons.mpr ⟨d_168_12, List.forall_mem_cons.mpr ⟨d_168_13, List.forall_mem_cons.mpr ⟨d_168_14, List.forall_mem_cons.mpr ⟨⟨d_168_15, (by decide)⟩, List.forall_mem_cons.mpr ⟨d_168_18, List.forall_mem_cons.mpr ⟨⟨d_168_19, (by decide)⟩, List.forall_mem_cons.mpr ⟨d_168_22, List.forall_mem_cons.mpr ⟨⟨d_168_23, (fun _ h => Option.some.inj h ▸ wd_447)⟩, List.forall_mem_cons.mpr ⟨d_168_26, List.forall_mem_cons.mpr ⟨⟨d_168_27, (by decide)⟩, List.forall_mem_cons.mpr ⟨d_168_30, List.forall_mem_cons.mpr ⟨⟨d_168_31, (fun _ h => Option.some.inj h ▸ wd_447)⟩, List.forall_mem_cons.mpr ⟨d_168_34, List.forall_mem_cons.mpr ⟨⟨d_168_35, (by decide)⟩, List.forall_mem_cons.mpr ⟨⟨d_168_38, (fun _ h => Option.some.inj h ▸ wd_447)⟩, List.forall_mem_cons.mpr ⟨⟨d_168_41, (by decide)⟩, List.forall_mem_cons.mpr ⟨d_168_44, List.forall_mem_cons.mpr ⟨d_168_45, List.forall_mem_cons.mpr ⟨d_168_46, List.forall_mem_cons.mpr ⟨d_168_47, List.forall_mem_cons.mpr ⟨⟨d_168_49, (by decide)⟩, List.forall_mem_cons.mpr ⟨d_168_52, List.forall_mem_cons.mpr ⟨d_168_53, List.forall_mem_cons.mpr ⟨d_168_54, List.forall_mem_cons.mpr ⟨⟨d_168_55, (by decide)⟩, List.forall_mem_cons.mpr ⟨d_168_58, List.forall_mem_cons.mpr ⟨d_168_59, List.forall_mem_cons.mpr ⟨d_168_60, List.forall_mem_cons.mpr ⟨⟨d_168_61, (by decide)⟩, List.forall_mem_cons.mpr ⟨d_168_64, List.forall_mem_cons.mpr ⟨⟨d_168_65, (by decide)⟩, List.forall_mem_cons.mpr ⟨d_168_68, List.forall_mem_cons.mpr ⟨⟨d_168_69, (fun _ h => Option.some.inj h ▸ wd_447)⟩, List.forall_mem_cons.mpr ⟨d_168_72, List.forall_mem_cons.mpr ⟨⟨d_168_73, (by decide)⟩, List.forall_mem_cons.mpr ⟨d_168_76, List.forall_mem_cons.mpr ⟨⟨d_168_77, (fun _ h => Option.some.inj h ▸ wd_447)⟩, List.forall_mem_cons.mpr ⟨d_168_80, List.forall_mem_cons.mpr ⟨⟨d_168_81, (by decide)⟩, List.forall_mem_cons.mpr ⟨⟨d_168_84, (fun _ h => Option.some.inj h ▸ wd_447)⟩, List.forall_mem_cons.mpr ⟨⟨d_168_87, (by decide)⟩, List.forall_mem_cons.mpr ⟨d_168_90, List.forall_mem_cons.mpr ⟨d_168_91, List.forall_mem_cons.mpr ⟨d_168_92, List.forall_mem_cons.mpr ⟨⟨d_168_93, (fun _ h => Option.some.inj h ▸ wd_447)⟩, List.forall_mem_cons.mpr ⟨d_168_96, List.forall_mem_cons.mpr ⟨⟨d_168_97, (by decide)⟩, List.forall_mem_cons.mpr ⟨d_168_100, List.forall_mem_cons.mpr ⟨⟨d_168_101, (fun _ h => Option.some.inj h ▸ wd_447)⟩, List.forall_mem_cons.mpr ⟨d_168_104, List.forall_mem_cons.mpr ⟨⟨d_168_105, (by decide)⟩, List.forall_mem_cons.mpr ⟨⟨d_168_108, (fun _ h => Option.some.inj h ▸ wd_447)⟩, List.forall_mem_cons.mpr ⟨d_168_111, List.forall_mem_cons.mpr ⟨d_168_112, List.forall_mem_cons.mpr ⟨d_168_113, List.forall_mem_cons.mpr ⟨⟨d_168_115, (by decide)⟩, List.forall_mem_cons.mpr ⟨d_168_118, List.forall_mem_cons.mpr ⟨d_168_119, List.forall_mem_cons.mpr ⟨d_168_120, List.forall_mem_cons.mpr ⟨⟨d_168_121, (by decide)⟩, List.forall_mem_cons.mpr ⟨d_168_124, List.forall_mem_cons.mpr ⟨⟨d_168_125, (by decide)⟩, List.forall_mem_cons.mpr ⟨d_168_128, List.forall_mem_cons.mpr ⟨d_168_129, List.forall_mem_cons.mpr ⟨d_168_130, List.forall_mem_cons.mpr ⟨d_168_131, List.forall_mem_cons.mpr ⟨⟨d_168_133, (by decide)⟩, List.forall_mem_cons.mpr ⟨d_168_136, List.forall_mem_cons.mpr ⟨d_168_137, List.forall_mem_cons.mpr ⟨d_168_138, List.forall_mem_cons.mpr ⟨⟨d_168_139, (by decide)⟩, List.forall_mem_cons.mpr ⟨d_168_142, List.forall_mem_cons.mpr ⟨⟨d_168_143, (by decide)⟩, List.forall_mem_cons.mpr ⟨d_168_146, List.forall_mem_cons.mpr ⟨d_168_147, List.forall_mem_cons.mpr ⟨d_168_148, List.forall_mem_cons.mpr ⟨d_168_149, List.forall_mem_cons.mpr ⟨⟨d_168_151, (by decide)⟩, List.forall_mem_cons.mpr ⟨d_168_154, List.forall_mem_cons.mpr ⟨d_168_155, List.forall_mem_cons.mpr ⟨d_168_156, List.forall_mem_cons.mpr ⟨⟨d_168_157, (by decide)⟩, List.forall_mem_cons.mpr ⟨d_168_160, List.forall_mem_cons.mpr ⟨⟨d_168_161, (by decide)⟩, List.forall_mem_cons.mpr ⟨d_168_164, List.forall_mem_cons.mpr ⟨d_168_165, List.forall_mem_cons.mpr ⟨d_168_166, List.forall_mem_cons.mpr ⟨d_168_167, List.forall_mem_cons.mpr ⟨⟨d_168_169, (by decide)⟩, List.forall_mem_cons.mpr ⟨d_168_172, List.forall_mem_cons.mpr ⟨d_168_173, List.forall_mem_cons.mpr ⟨d_168_174, List.forall_mem_cons.mpr ⟨⟨d_168_175, (by decide)⟩, List.forall_mem_cons.mpr ⟨⟨d_168_178, (fun _ h => Option.some.inj h ▸ wd_447)⟩, List.forall_mem_cons.mpr ⟨⟨d_168_181, (by decide)⟩, List.forall_mem_cons.mpr ⟨d_168_184, List.forall_mem_cons.mpr ⟨d_168_185, List.forall_mem_cons.mpr ⟨d_168_186, List.forall_mem_cons.mpr ⟨d_168_187, List.forall_mem_cons.mpr ⟨d_168_188, List.forall_mem_cons.mpr ⟨d_168_189, List.forall_mem_cons.mpr ⟨d_168_190, List.forall_mem_cons.mpr ⟨d_168_191, List.forall_mem_cons.mpr ⟨⟨d_168_192, (by decide)⟩, List.forall_mem_cons.mpr ⟨d_168_195, List.forall_mem_cons.mpr ⟨d_168_196, List.forall_mem_cons.mpr ⟨d_168_197, List.forall_mem_cons.mpr ⟨⟨d_168_198, (by decide)⟩, List.forall_mem_cons.mpr ⟨d_168_201, List.forall_mem_cons.mpr ⟨d_168_202, List.forall_mem_cons.mpr ⟨⟨d_168_203, (by decide)⟩, List.forall_mem_cons.mpr ⟨d_168_206, List.forall_mem_cons.mpr ⟨d_168_207, List.forall_mem_cons.mpr ⟨d_168_208, List.forall_mem_cons.mpr ⟨⟨d_168_209, (by decide)⟩, List.forall_mem_cons.mpr ⟨d_168_212, List.forall_mem_cons.mpr ⟨d_168_213, List.forall_mem_cons.mpr ⟨d_168_214, List.forall_mem_cons.mpr ⟨d_168_215, List.forall_mem_cons.mpr ⟨d_168_216, List.forall_mem_cons.mpr ⟨d_168_217, fun _ h => absurd h List.not_mem_nil⟩⟩⟩⟩⟩⟩⟩⟩⟩⟩⟩⟩⟩⟩⟩⟩⟩⟩⟩⟩⟩⟩⟩⟩⟩⟩⟩⟩⟩⟩⟩⟩⟩⟩⟩⟩⟩⟩⟩⟩⟩⟩⟩⟩⟩⟩⟩⟩⟩⟩⟩⟩⟩⟩⟩⟩⟩⟩⟩⟩⟩⟩⟩⟩⟩⟩⟩⟩⟩⟩⟩⟩⟩⟩⟩⟩⟩⟩⟩⟩⟩⟩⟩⟩⟩⟩⟩⟩⟩⟩⟩⟩⟩⟩⟩⟩⟩⟩⟩⟩⟩⟩⟩⟩⟩⟩⟩⟩⟩⟩⟩⟩⟩⟩⟩⟩⟩⟩⟩⟩⟩⟩⟩⟩⟩⟩⟩⟩
theorem d_169_0 : decode prog_12_method_39_code 0 = .ok (.aload_n 0, 1) := by decide +kernel
theorem d_169_1 : decode prog_12_method_39_code 1 = .ok (.getfield 200, 3) := by decide +kernel
theorem d_169_4 : decode prog_12_method_39_code 4 = .ok (.ifCond .eq 20, 3) := by decide +kernel
theorem d_169_7 : decode prog_12_method_39_code 7 = .ok (.aload_n 0, 1) := by decide +kernel
theorem d_169_8 : decode prog_12_method_39_code 8 = .ok (.aload_n 0, 1) := by decide +kernel
theorem d_169_9 : decode prog_12_method_39_code 9 = .ok (.getfield 203, 3) := by decide +kernel
theorem d_169_12 : decode prog_12_method_39_code 12 = .ok (.aload_n 0, 1) := by decide +kernel
theorem d_169_13 : decode prog_12_method_39_code 13 = .ok (.getfield 212, 3) := by decide +kernel
theorem d_169_16 : decode prog_12_method_39_code 16 = .ok (.invokevirtual 311, 3) := by decide +kernel
theorem d_169_19 : decode prog_12_method_39_code 19 = .ok (.lconst 1, 1) := by decide +kernel
theorem d_169_20 : decode prog_12_method_39_code 20 = .ok (.lcmp, 1) := by decide +kernel
theorem d_169_21 : decode prog_12_method_39_code 21 = .ok (.ifCond .ne 7, 3) := by decide +kernel
theorem d_169_24 : decode prog_12_method_39_code 24 = .ok (.iconst 1, 1) := by decide +kernel
theorem d_169_25 : decode prog_12_method_39_code 25 = .ok (.goto 4, 3) := by decide +kernel
theorem d_169_28 : decode prog_12_method_39_code 28 = .ok (.iconst 0, 1) := by decide +kernel
theorem d_169_29 : decode prog_12_method_39_code 29 = .ok (.ireturn, 1) := by decide +kernel
set_option maxRecDepth 20000 in
theorem ok_169 : ∀ r ∈ tb_169, sm_ok 169 r := List.forall_mem_cons.mpr ⟨d_169_0, List.forall_mem_cons.mpr ⟨⟨d_169_1, Or.inl pf_302⟩, List.forall_mem_cons.mpr ⟨⟨d_169_4, (by decide)⟩, List.forall_mem_cons.mpr ⟨d_169_7, List.forall_mem_cons.mpr ⟨d_169_8, List.forall_mem_cons.mpr ⟨⟨d_169_9, Or.inl pf_273⟩, List.forall_mem_cons.mpr ⟨d_169_12, List.forall_mem_cons.mpr ⟨⟨d_169_13, Or.inl pf_274⟩, List.forall_mem_cons.mpr ⟨⟨d_169_16, ⟨mo_167, mi_167, se_167, pm_200⟩⟩, List.forall_mem_cons.mpr ⟨d_169_19, List.forall_mem_cons.mpr ⟨d_169_20, List.forall_mem_cons.mpr ⟨⟨d_169_21, (by decide)⟩, List.forall_mem_cons.mpr ⟨d_169_24, List.forall_mem_cons.mpr ⟨⟨d_169_25, (by decide)⟩, List.forall_mem_cons.mpr ⟨d_169_28, List.forall_mem_cons.mpr ⟨d_169_29, fun _ h => absurd h List.not_mem_nil⟩⟩⟩⟩⟩⟩⟩⟩⟩⟩⟩⟩⟩⟩⟩⟩
theorem d_170_0 : decode prog_12_method_40_code 0 = .ok (.iconst 0, 1) := by decide +kernel
theorem d_170_1 : decode prog_12_method_40_code 1 = .ok (.istore_n 3, 1) := by decide +kernel
theorem d_170_2 : decode prog_12_method_40_code 2 = .ok (.iload_n 1, 1) := by decide +kernel
theorem d_170_3 : decode prog_12_method_40_code 3 = .ok (.istore 4, 2) := by decide +kernel
theorem d_170_5 : decode prog_12_method_40_code 5 = .ok (.iload 4, 2) := by decide +kernel
theorem d_170_7 : decode prog_12_method_40_code 7 = .ok (.iload_n 2, 1) := by decide +kernel
theorem d_170_8 : decode prog_12_method_40_code 8 = .ok (.if_icmp .ge 38, 3) := by decide +kernel
theorem d_170_11 : decode prog_12_method_40_code 11 = .ok (.aload_n 0, 1) := by decide +kernel
theorem d_170_12 : decode prog_12_method_40_code 12 = .ok (.getfield 20, 3) := by decide +kernel
theorem d_170_15 : decode prog_12_method_40_code 15 = .ok (.iload 4, 2) := by decide +kernel
theorem d_170_17 : decode prog_12_method_40_code 17 = .ok (.iaload, 1) := by decide +kernel
theorem d_170_18 : decode prog_12_method_40_code 18 = .ok (.iconst 3, 1) := by decide +kernel
theorem d_170_19 : decode prog_12_method_40_code 19 = .ok (.if_icmp .ne 19, 3) := by decide +kernel
theorem d_170_22 : decode prog_12_method_40_code 22 = .ok (.iload_n 3, 1) := by decide +kernel
theorem d_170_23 : decode prog_12_method_40_code 23 = .ok (.iconst 1, 1) := by decide +kernel
theorem d_170_24 : decode prog_12_method_40_code 24 = .ok (.aload_n 0, 1) := by decide +kernel
theorem d_170_25 : decode prog_12_method_40_code 25 = .ok (.getfield 23, 3) := by decide +kernel
theorem d_170_28 : decode prog_12_method_40_code 28 = .ok (.iload 4, 2) := by decide +kernel
theorem d_170_30 : decode prog_12_method_40_code 30 = .ok (.iaload, 1) := by decide +kernel
theorem d_170_31 : decode prog_12_method_40_code 31 = .ok (.iconst 4, 1) := by decide +kernel
theorem d_170_32 : decode prog_12_method_40_code 32 = .ok (.idiv, 1) := by decide +kernel
theorem d_170_33 : decode prog_12_method_40_code 33 = .ok (.ishl, 1) := by decide +kernel
theorem d_170_34 : decode prog_12_method_40_code 34 = .ok (.ior, 1) := by decide +kernel
theorem d_170_35 : decode prog_12_method_40_code 35 = .ok (.goto 4, 3) := by decide +kernel
theorem d_170_38 : decode prog_12_method_40_code 38 = .ok (.iload_n 3, 1) := by decide +kernel
theorem d_170_39 : decode prog_12_method_40_code 39 = .ok (.istore_n 3, 1) := by decide +kernel
theorem d_170_40 : decode prog_12_method_40_code 40 = .ok (.iinc 4 1, 3) := by decide +kernel
theorem d_170_43 : decode prog_12_method_40_code 43 = .ok (.goto (-38), 3) := by decide +kernel
theorem d_170_46 : decode prog_12_method_40_code 46 = .ok (.iload_n 3, 1) := by decide +kernel
theorem d_170_47 : decode prog_12_method_40_code 47 = .ok (.ireturn, 1) := by decide +kernel
set_option maxRecDepth 20000 in
theorem ok_170 : ∀ r ∈ tb_170, sm_ok 170 r := List.forall_mem_cons.mpr ⟨d_170_0, List.forall_mem_cons.mpr ⟨d_170_1, List.forall_mem_cons.mpr ⟨d_170_2, List.forall_mem_cons.mpr ⟨d_170_3, List.forall_mem_cons.mpr ⟨d_170_5, List.forall_mem_cons.mpr ⟨d_170_7, List.forall_mem_cons.mpr ⟨⟨d_170_8, (by decide)⟩, List.forall_mem_cons.mpr ⟨d_170_11, List.forall_mem_cons.mpr ⟨⟨d_170_12, Or.inl pf_243⟩, List.forall_mem_cons.mpr ⟨d_170_15, List.forall_mem_cons.mpr ⟨d_170_17, List.forall_mem_cons.mpr ⟨d_170_18, List.forall_mem_cons.mpr ⟨⟨d_170_19, (by decide)⟩, List.forall_mem_cons.mpr ⟨d_170_22, List.forall_mem_cons.mpr ⟨d_170_23, List.forall_mem_cons.mpr ⟨d_170_24, List.forall_mem_cons.mpr ⟨⟨d_170_25, Or.inl pf_245⟩, List.forall_mem_cons.mpr ⟨d_170_28, List.forall_mem_cons.mpr ⟨d_170_30, List.forall_mem_cons.mpr ⟨d_170_31, List.forall_mem_cons.mpr ⟨d_170_32, List.forall_mem_cons.mpr ⟨d_170_33, List.forall_mem_cons.mpr ⟨d_170_34, List.forall_mem_cons.mpr ⟨⟨d_170_35, (by decide)⟩, List.forall_mem_cons.mpr ⟨d_170_38, List.forall_mem_cons.mpr ⟨d_170_39, List.forall_mem_cons.mpr ⟨d_170_40, List.forall_mem_cons.mpr ⟨⟨d_170_43, (by decide)⟩, List.forall_mem_cons.mpr ⟨d_170_46, List.forall_mem_cons.mpr ⟨d_170_47, fun _ h => absurd h List.not_mem_nil⟩⟩⟩⟩⟩⟩⟩⟩⟩⟩⟩⟩⟩⟩⟩⟩⟩⟩⟩⟩⟩⟩⟩⟩⟩⟩⟩⟩⟩⟩
theorem d_171_0 : decode prog_12_method_41_code 0 = .ok (.iload_n 2, 1) := by decide +kernel
theorem d_171_1 : decode prog_12_method_41_code 1 = .ok (.iload_n 1, 1) := by decide +kernel
theorem d_171_2 : decode prog_12_method_41_code 2 = .ok (.iconst 1, 1) := by decide +kernel
theorem d_171_3 : decode prog_12_method_41_code 3 = .ok (.iadd, 1) := by decide +kernel
theorem d_171_4 : decode prog_12_method_41_code 4 = .ok (.if_icmp .ne 25, 3) := by decide +kernel
theorem d_171_7 : decode prog_12_method_41_code 7 = .ok (.aload_n 0, 1) := by decide +kernel
theorem d_171_8 : decode prog_12_method_41_code 8 = .ok (.getfield 20, 3) := by decide +kernel
theorem d_171_11 : decode prog_12_method_41_code 11 = .ok (.iload_n 1, 1) := by decide +kernel
theorem d_171_12 : decode prog_12_method_41_code 12 = .ok (.iaload, 1) := by decide +kernel
theorem d_171_13 : decode prog_12_method_41_code 13 = .ok (.iconst 3, 1) := by decide +kernel
theorem d_171_14 : decode prog_12_method_41_code 14 = .ok (.if_icmp .ne 15, 3) := by decide +kernel
theorem d_171_17 : decode prog_12_method_41_code 17 = .ok (.aload_n 0, 1) := by decide +kernel
theorem d_171_18 : decode prog_12_method_41_code 18 = .ok (.getfield 23, 3) := by decide +kernel
theorem d_171_21 : decode prog_12_method_41_code 21 = .ok (.iload_n 1, 1) := by decide +kernel
theorem d_171_22 : decode prog_12_method_41_code 22 = .ok (.iaload, 1) := by decide +kernel
theorem d_171_23 : decode prog_12_method_41_code 23 = .ok (.iconst 4, 1) := by decide +kernel
theorem d_171_24 : decode prog_12_method_41_code 24 = .ok (.idiv, 1) := by decide +kernel
theorem d_171_25 : decode prog_12_method_41_code 25 = .ok (.iload_n 3, 1) := by decide +kernel
theorem d_171_26 : decode prog_12_method_41_code 26 = .ok (.if_icmp .eq 5, 3) := by decide +kernel
theorem d_171_29 : decode prog_12_method_41_code 29 = .ok (.iconst 0, 1) := by decide +kernel
theorem d_171_30 : decode prog_12_method_41_code 30 = .ok (.ireturn, 1) := by decide +kernel
theorem d_171_31 : decode prog_12_method_41_code 31 = .ok (.iload 4, 2) := by decide +kernel
theorem d_171_33 : decode prog_12_method_41_code 33 = .ok (.ifCond .eq 22, 3) := by decide +kernel
theorem d_171_36 : decode prog_12_method_41_code 36 = .ok (.aload_n 0, 1) := by decide +kernel
theorem d_171_37 : decode prog_12_method_41_code 37 = .ok (.getfield 23, 3) := by decide +kernel
theorem d_171_40 : decode prog_12_method_41_code 40 = .ok (.iload_n 1, 1) := by decide +kernel
theorem d_171_41 : decode prog_12_method_41_code 41 = .ok (.iaload, 1) := by decide +kernel
theorem d_171_42 : decode prog_12_method_41_code 42 = .ok (.iconst 4, 1) := by decide +kernel
theorem d_171_43 : decode prog_12_method_41_code 43 = .ok (.irem, 1) := by decide +kernel
theorem d_171_44 : decode prog_12_method_41_code 44 = .ok (.ifCond .ne 7, 3) := by decide +kernel
theorem d_171_47 : decode prog_12_method_41_code 47 = .ok (.iconst 1, 1) := by decide +kernel
theorem d_171_48 : decode prog_12_method_41_code 48 = .ok (.goto 18, 3) := by decide +kernel
theorem d_171_51 : decode prog_12_method_41_code 51 = .ok (.iconst 0, 1) := by decide +kernel
theorem d_171_52 : decode prog_12_method_41_code 52 = .ok (.goto 14, 3) := by decide +kernel
theorem d_171_55 : decode prog_12_method_41_code 55 = .ok (.aload_n 0, 1) := by decide +kernel
theorem d_171_56 : decode prog_12_method_41_code 56 = .ok (.getfield 60, 3) := by decide +kernel
theorem d_171_59 : decode prog_12_method_41_code 59 = .ok (.aload_n 0, 1) := by decide +kernel
theorem d_171_60 : decode prog_12_method_41_code 60 = .ok (.getfield 23, 3) := by decide +kernel
theorem d_171_63 : decode prog_12_method_41_code 63 = .ok (.iload_n 1, 1) := by decide +kernel
theorem d_171_64 : decode prog_12_method_41_code 64 = .ok (.iaload, 1) := by decide +kernel
theorem d_171_65 : decode prog_12_method_41_code 65 = .ok (.baload, 1) := by decide +kernel
theorem d_171_66 : decode prog_12_method_41_code 66 = .ok (.ireturn, 1) := by decide +kernel
set_option maxRecDepth 20000 in
theorem ok_171 : ∀ r ∈ tb_171, sm_ok 171 r := List.forall_mem_cons.mpr ⟨d_171_0, List.forall_mem_cons.mpr ⟨d_171_1, List.forall_mem_cons.mpr ⟨d_171_2, List.forall_mem_cons.mpr ⟨d_171_3, List.forall_mem_cons.mpr ⟨⟨d_171_4, (by decide)⟩, List.forall_mem_cons.mpr ⟨d_171_7, List.forall_mem_cons.mpr ⟨⟨d_171_8, Or.inl pf_243⟩, List.forall_mem_cons.mpr ⟨d_171_11, List.forall_mem_cons.mpr ⟨d_171_12, List.forall_mem_cons.mpr ⟨d_171_13, List.forall_mem_cons.mpr ⟨⟨d_171_14, (by decide)⟩, List.forall_mem_cons.mpr ⟨d_171_17, List.forall_mem_cons.mpr ⟨⟨d_171_18, Or.inl pf_245⟩, List.forall_mem_cons.mpr ⟨d_171_21, List.forall_mem_cons.mpr ⟨d_171_22, List.forall_mem_cons.mpr ⟨d_171_23, List.forall_mem_cons.mpr ⟨d_171_24, List.forall_mem_cons.mpr ⟨d_171_25, List.forall_mem_cons.mpr ⟨⟨d_171_26, (by decide)⟩, List.forall_mem_cons.mpr ⟨d_171_29, List.forall_mem_cons.mpr ⟨d_171_30, List.forall_mem_cons.mpr ⟨d_171_31, List.forall_mem_cons.mpr ⟨⟨d_171_33, (by decide)⟩, List.forall_mem_cons.mpr ⟨d_171_36, List.forall_mem_cons.mpr ⟨⟨d_171_37, Or.inl pf_245⟩, List.forall_mem_cons.mpr ⟨d_171_40, List.forall_mem_cons.mpr ⟨d_171_41, List.forall_mem_cons.mpr ⟨d_171_42, List.forall_mem_cons.mpr ⟨d_171_43, List.forall_mem_cons.mpr ⟨⟨d_171_44, (by decide)⟩, List.forall_mem_cons.mpr ⟨d_171_47, List.forall_mem_cons.mpr ⟨⟨d_171_48, (by decide)⟩, List.forall_mem_cons.mpr ⟨d_171_51, List.forall_mem_cons.mpr ⟨⟨d_171_52, (by decide)⟩, List.forall_mem_cons.mpr ⟨d_171_55, List.forall_mem_cons.mpr ⟨⟨d_171_56, Or.inl pf_297⟩, List.forall_mem_cons.mpr ⟨d_171_59, List.forall_mem_cons.mpr ⟨⟨d_171_60, Or.inl pf_245⟩, List.forall_mem_cons.mpr ⟨d_171_63, List.forall_mem_cons.mpr ⟨d_171_64, List.forall_mem_cons.mpr ⟨d_171_65, List.forall_mem_cons.mpr ⟨d_171_66, fun _ h => absurd h List.not_mem_nil⟩⟩⟩⟩⟩⟩⟩⟩⟩⟩⟩⟩⟩⟩⟩⟩⟩⟩⟩⟩⟩⟩⟩⟩⟩⟩⟩⟩⟩⟩⟩⟩⟩⟩⟩⟩⟩⟩⟩⟩⟩⟩
theorem d_172_0 : decode prog_12_method_42_code 0 = .ok (.iconst 0, 1) := by decide +kernel
theorem d_172_1 : decode prog_12_method_42_code 1 = .ok (.istore 4, 2) := by decide +kernel
theorem d_172_3 : decode prog_12_method_42_code 3 = .ok (.iload 4, 2) := by decide +kernel
theorem d_172_5 : decode prog_12_method_42_code 5 = .ok (.aload_n 0, 1) := by decide +kernel
theorem d_172_6 : decode prog_12_method_42_code 6 = .ok (.getfield 179, 3) := by decide +kernel
theorem d_172_9 : decode prog_12_method_42_code 9 = .ok (.if_icmp .ge 34, 3) := by decide +kernel
theorem d_172_12 : decode prog_12_method_42_code 12 = .ok (.aload_n 0, 1) := by decide +kernel
theorem d_172_13 : decode prog_12_method_42_code 13 = .ok (.getfield 47, 3) := by decide +kernel
theorem d_172_16 : decode prog_12_method_42_code 16 = .ok (.iload 4, 2) := by decide +kernel
theorem d_172_18 : decode prog_12_method_42_code 18 = .ok (.iaload, 1) := by decide +kernel
theorem d_172_19 : decode prog_12_method_42_code 19 = .ok (.ifCond .lt 18, 3) := by decide +kernel
theorem d_172_22 : decode prog_12_method_42_code 22 = .ok (.aload_n 0, 1) := by decide +kernel
theorem d_172_23 : decode prog_12_method_42_code 23 = .ok (.iload 4, 2) := by decide +kernel
theorem d_172_25 : decode prog_12_method_42_code 25 = .ok (.iload_n 1, 1) := by decide +kernel
theorem d_172_26 : decode prog_12_method_42_code 26 = .ok (.iload_n 2, 1) := by decide +kernel
theorem d_172_27 : decode prog_12_method_42_code 27 = .ok (.iload_n 3, 1) := by decide +kernel
theorem d_172_28 : decode prog_12_method_42_code 28 = .ok (.invokevirtual 315, 3) := by decide +kernel
theorem d_172_31 : decode prog_12_method_42_code 31 = .ok (.ifCond .lt 6, 3) := by decide +kernel
theorem d_172_34 : decode prog_12_method_42_code 34 = .ok (.iload 4, 2) := by decide +kernel
theorem d_172_36 : decode prog_12_method_42_code 36 = .ok (.ireturn, 1) := by decide +kernel
theorem d_172_37 : decode prog_12_method_42_code 37 = .ok (.iinc 4 1, 3) := by decide +kernel
theorem d_172_40 : decode prog_12_method_42_code 40 = .ok (.goto (-37), 3) := by decide +kernel
theorem d_172_43 : decode prog_12_method_42_code 43 = .ok (.iconst (-1), 1) := by decide +kernel
theorem d_172_44 : decode prog_12_method_42_code 44 = .ok (.ireturn, 1) := by decide +kernel
set_option maxRecDepth 20000 in
theorem ok_172 : ∀ r ∈ tb_172, sm_ok 172 r := List.forall_mem_cons.mpr ⟨d_172_0, List.forall_mem_cons.mpr ⟨d_172_1, List.forall_mem_cons.mpr ⟨d_172_3, List.forall_mem_cons.mpr ⟨d_172_5, List.forall_mem_cons.mpr ⟨⟨d_172_6, Or.inl pf_260⟩, List.forall_mem_cons.mpr ⟨⟨d_172_9, (by decide)⟩, List.forall_mem_cons.mpr ⟨d_172_12, List.forall_mem_cons.mpr ⟨⟨d_172_13, Or.inl pf_263⟩, List.forall_mem_cons.mpr ⟨d_172_16, List.forall_mem_cons.mpr ⟨d_172_18, List.forall_mem_cons.mpr ⟨⟨d_172_19, (by decide)⟩, List.forall_mem_cons.mpr ⟨d_172_22, List.forall_mem_cons.mpr ⟨d_172_23, List.forall_mem_cons.mpr ⟨d_172_25, List.forall_mem_cons.mpr ⟨d_172_26, List.forall_mem_cons.mpr ⟨d_172_27, List.forall_mem_cons.mpr ⟨⟨d_172_28, ⟨mo_173, mi_173, se_173, pm_201⟩⟩, List.forall_mem_cons.mpr ⟨⟨d_172_31, (by decide)⟩, List.forall_mem_cons.mpr ⟨d_172_34, List.forall_mem_cons.mpr ⟨d_172_36, List.forall_mem_cons.mpr ⟨d_172_37, List.forall_mem_cons.mpr ⟨⟨d_172_40, (by decide)⟩, List.forall_mem_cons.mpr ⟨d_172_43, List.forall_mem_cons.mpr ⟨d_172_44, fun _ h => absurd h List.not_mem_nil⟩⟩⟩⟩⟩⟩⟩⟩⟩⟩⟩⟩⟩⟩⟩⟩⟩⟩⟩⟩⟩⟩⟩⟩
theorem d_173_0 : decode prog_12_method_43_code 0 = .ok (.aload_n 0, 1) := by decide +kernel
theorem d_173_1 : decode prog_12_method_43_code 1 = .ok (.getfield 41, 3) := by decide +kernel
theorem d_173_4 : decode prog_12_method_43_code 4 = .ok (.iload_n 1, 1) := by decide +kernel
theorem d_173_5 : decode prog_12_method_43_code 5 = .ok (.iaload, 1) := by decide +kernel
theorem d_173_6 : decode prog_12_method_43_code 6 = .ok (.istore 5, 2) := by decide +kernel
theorem d_173_8 : decode prog_12_method_43_code 8 = .ok (.aload_n 0, 1) := by decide +kernel
theorem d_173_9 : decode prog_12_method_43_code 9 = .ok (.getfield 47, 3) := by decide +kernel
theorem d_173_12 : decode prog_12_method_43_code 12 = .ok (.iload_n 1, 1) := by decide +kernel
theorem d_173_13 : decode prog_12_method_43_code 13 = .ok (.iaload, 1) := by decide +kernel
theorem d_173_14 : decode prog_12_method_43_code 14 = .ok (.istore 6, 2) := by decide +kernel
theorem d_173_16 : decode prog_12_method_43_code 16 = .ok (.aload_n 0, 1) := by decide +kernel
theorem d_173_17 : decode prog_12_method_43_code 17 = .ok (.getfield 44, 3) := by decide +kernel
theorem d_173_20 : decode prog_12_method_43_code 20 = .ok (.iload_n 1, 1) := by decide +kernel
theorem d_173_21 : decode prog_12_method_43_code 21 = .ok (.iaload, 1) := by decide +kernel
theorem d_173_22 : decode prog_12_method_43_code 22 = .ok (.iconst 1, 1) := by decide +kernel
theorem d_173_23 : decode prog_12_method_43_code 23 = .ok (.isub, 1) := by decide +kernel
theorem d_173_24 : decode prog_12_method_43_code 24 = .ok (.istore 7, 2) := by decide +kernel
theorem d_173_26 : decode prog_12_method_43_code 26 = .ok (.aload_n 0, 1) := by decide +kernel
theorem d_173_27 : decode prog_12_method_43_code 27 = .ok (.iload 5, 2) := by decide +kernel
theorem d_173_29 : decode prog_12_method_43_code 29 = .ok (.iload 6, 2) := by decide +kernel
theorem d_173_31 : decode prog_12_method_43_code 31 = .ok (.iload_n 2, 1) := by decide +kernel
theorem d_173_32 : decode prog_12_method_43_code 32 = .ok (.iload 4, 2) := by decide +kernel
theorem d_173_34 : decode prog_12_method_43_code 34 = .ok (.invokevirtual 319, 3) := by decide +kernel
theorem d_173_37 : decode prog_12_method_43_code 37 = .ok (.ifCond .eq 20, 3) := by decide +kernel
theorem d_173_40 : decode prog_12_method_43_code 40 = .ok (.aload_n 0, 1) := by decide +kernel
theorem d_173_41 : decode prog_12_method_43_code 41 = .ok (.iload 6, 2) := by decide +kernel
theorem d_173_43 : decode prog_12_method_43_code 43 = .ok (.iload 7, 2) := by decide +kernel
theorem d_173_45 : decode prog_12_method_43_code 45 = .ok (.invokevirtual 323, 3) := by decide +kernel
theorem d_173_48 : decode prog_12_method_43_code 48 = .ok (.iload_n 3, 1) := by decide +kernel
theorem d_173_49 : decode prog_12_method_43_code 49 = .ok (.iconst (-1), 1) := by decide +kernel
theorem d_173_50 : decode prog_12_method_43_code 50 = .ok (.ixor, 1) := by decide +kernel
theorem d_173_51 : decode prog_12_method_43_code 51 = .ok (.iand, 1) := by decide +kernel
theorem d_173_52 : decode prog_12_method_43_code 52 = .ok (.ifCond .ne 5, 3) := by decide +kernel
theorem d_173_55 : decode prog_12_method_43_code 55 = .ok (.iconst 0, 1) := by decide +kernel
theorem d_173_56 : decode prog_12_method_43_code 56 = .ok (.ireturn, 1) := by decide +kernel
theorem d_173_57 : decode prog_12_method_43_code 57 = .ok (.aload_n 0, 1) := by decide +kernel
theorem d_173_58 : decode prog_12_method_43_code 58 = .ok (.iload 6, 2) := by decide +kernel
theorem d_173_60 : decode prog_12_method_43_code 60 = .ok (.iload 7, 2) := by decide +kernel
theorem d_173_62 : decode prog_12_method_43_code 62 = .ok (.iload_n 2, 1) := by decide +kernel
theorem d_173_63 : decode prog_12_method_43_code 63 = .ok (.iload 4, 2) := by decide +kernel
theorem d_173_65 : decode prog_12_method_43_code 65 = .ok (.invokevirtual 319, 3) := by decide +kernel
theorem d_173_68 : decode prog_12_method_43_code 68 = .ok (.ifCond .eq 22, 3) := by decide +kernel
theorem d_173_71 : decode prog_12_method_43_code 71 = .ok (.aload_n 0, 1) := by decide +kernel
theorem d_173_72 : decode prog_12_method_43_code 72 = .ok (.iload 5, 2) := by decide +kernel
theorem d_173_74 : decode prog_12_method_43_code 74 = .ok (.iload 6, 2) := by decide +kernel
theorem d_173_76 : decode prog_12_method_43_code 76 = .ok (.invokevirtual 323, 3) := by decide +kernel
theorem d_173_79 : decode prog_12_method_43_code 79 = .ok (.iload_n 3, 1) := by decide +kernel
theorem d_173_80 : decode prog_12_method_43_code 80 = .ok (.iconst (-1), 1) := by decide +kernel
theorem d_173_81 : decode prog_12_method_43_code 81 = .ok (.ixor, 1) := by decide +kernel
theorem d_173_82 : decode prog_12_method_43_code 82 = .ok (.iand, 1) := by decide +kernel
theorem d_173_83 : decode prog_12_method_43_code 83 = .ok (.ifCond .ne 7, 3) := by decide +kernel
theorem d_173_86 : decode prog_12_method_43_code 86 = .ok (.iconst 1, 1) := by decide +kernel
theorem d_173_87 : decode prog_12_method_43_code 87 = .ok (.goto 4, 3) := by decide +kernel
theorem d_173_90 : decode prog_12_method_43_code 90 = .ok (.iconst (-1), 1) := by decide +kernel
theorem d_173_91 : decode prog_12_method_43_code 91 = .ok (.ireturn, 1) := by decide +kernel
set_option maxRecDepth 20000 in
theorem ok_173 : ∀ r ∈ tb_173, sm_ok 173 r := List.forall_mem_cons.mpr ⟨d_173_0, List.forall_mem_cons.mpr ⟨⟨d_173_1, Or.inl pf_259⟩, List.forall_mem_cons.mpr ⟨d_173_4, List.forall_mem_cons.mpr ⟨d_173_5, List.forall_mem_cons.mpr ⟨d_173_6, List.forall_mem_cons.mpr ⟨d_173_8, List.forall_mem_cons.mpr ⟨⟨d_173_9, Or.inl pf_263⟩, List.forall_mem_cons.mpr ⟨d_173_12, List.forall_mem_cons.mpr ⟨d_173_13, List.forall_mem_cons.mpr ⟨d_173_14, List.forall_mem_cons.mpr ⟨d_173_16, List.forall_mem_cons.mpr ⟨⟨d_173_17, Or.inl pf_262⟩, List.forall_mem_cons.mpr ⟨d_173_20, List.forall_mem_cons.mpr ⟨d_173_21, List.forall_mem_cons.mpr ⟨d_173_22, List.forall_mem_cons.mpr ⟨d_173_23, List.forall_mem_cons.mpr ⟨d_173_24, List.forall_mem_cons.mpr ⟨d_173_26, List.forall_mem_cons.mpr ⟨d_173_27, List.forall_mem_cons.mpr ⟨d_173_29, List.forall_mem_cons.mpr ⟨d_173_31, List.forall_mem_cons.mpr ⟨d_173_32, List.forall_mem_cons.mpr ⟨⟨d_173_34, ⟨mo_171, mi_171, se_171, pm_202⟩⟩, List.forall_mem_cons.mpr ⟨⟨d_173_37, (by decide)⟩, List.forall_mem_cons.mpr ⟨d_173_40, List.forall_mem_cons.mpr ⟨d_173_41, List.forall_mem_cons.mpr ⟨d_173_43, List.forall_mem_cons.mpr ⟨⟨d_173_45, ⟨mo_170, mi_170, se_170, pm_203⟩⟩, List.forall_mem_cons.mpr ⟨d_173_48, List.forall_mem_cons.mpr ⟨d_173_49, List.forall_mem_cons.mpr ⟨d_173_50, List.forall_mem_cons.mpr ⟨d_173_51, List.forall_mem_cons.mpr ⟨⟨d_173_52, (by decide)⟩, List.forall_mem_cons.mpr ⟨d_173_55, List.forall_mem_cons.mpr ⟨d_173_56, List.forall_mem_cons.mpr ⟨d_173_57, List.forall_mem_cons.mpr ⟨d_173_58, List.forall_mem_cons.mpr ⟨d_173_60, List.forall_mem_cons.mpr ⟨d_173_62, List.forall_mem_cons.mpr ⟨d_173_63, List.forall_mem_cons.mpr ⟨⟨d_173_65, ⟨mo_171, mi_171, se_171, pm_202⟩⟩, List.forall_mem_cons.mpr ⟨⟨d_173_68, (by decide)⟩, List.forall_mem_cons.mpr ⟨d_173_71, List.forall_mem_cons.mpr ⟨d_173_72, List.forall_mem_cons.mpr ⟨d_173_74, List.forall_mem_cons.mpr ⟨⟨d_173_76, ⟨mo_170, mi_170, se_170, pm_203⟩⟩, List.forall_mem_cons.mpr ⟨d_173_79, List.forall_mem_cons.mpr ⟨d_173_80, List.forall_mem_cons.mpr ⟨d_173_81, List.forall_mem_cons.mpr ⟨d_173_82, List.forall_mem_cons.mpr ⟨⟨d_173_83, (by decide)⟩, List.forall_mem_cons.mpr ⟨d_173_86, List.forall_mem_cons.mpr ⟨⟨d_173_87, (by decide)⟩, List.forall_mem_cons.mpr ⟨d_173_90, List.forall_mem_cons.mpr ⟨d_173_91, fun _ h => absurd h List.not_mem_nil⟩⟩⟩⟩⟩⟩⟩⟩⟩⟩⟩⟩⟩⟩⟩⟩⟩⟩⟩⟩⟩⟩⟩⟩⟩⟩⟩⟩⟩⟩⟩⟩⟩⟩⟩⟩⟩⟩⟩⟩⟩⟩⟩⟩⟩⟩⟩⟩⟩⟩⟩⟩⟩⟩⟩
theorem d_174_0 : decode prog_12_method_44_code 0 = .ok (.aload_n 0, 1) := by decide +kernel
theorem d_174_1 : decode prog_12_method_44_code 1 = .ok (.aload_n 0, 1) := by decide +kernel
theorem d_174_2 : decode prog_12_method_44_code 2 = .ok (.iload_n 1, 1) := by decide +kernel
theorem d_174_3 : decode prog_12_method_44_code 3 = .ok (.iload_n 2, 1) := by decide +kernel
theorem d_174_4 : decode prog_12_method_44_code 4 = .ok (.iconst 1, 1) := by decide +kernel
theorem d_174_5 : decode prog_12_method_44_code 5 = .ok (.invokevirtual 327, 3) := by decide +kernel
theorem d_174_8 : decode prog_12_method_44_code 8 = .ok (.putfield 331, 3) := by decide +kernel
theorem d_174_11 : decode prog_12_method_44_code 11 = .ok (.aload_n 0, 1) := by decide +kernel
theorem d_174_12 : decode prog_12_method_44_code 12 = .ok (.getfield 331, 3) := by decide +kernel
theorem d_174_15 : decode prog_12_method_44_code 15 = .ok (.ifCond .lt 5, 3) := by decide +kernel
theorem d_174_18 : decode prog_12_method_44_code 18 = .ok (.iconst 3, 1) := by decide +kernel
theorem d_174_19 : decode prog_12_method_44_code 19 = .ok (.ireturn, 1) := by decide +kernel
theorem d_174_20 : decode prog_12_method_44_code 20 = .ok (.aload_n 0, 1) := by decide +kernel
theorem d_174_21 : decode prog_12_method_44_code 21 = .ok (.aload_n 0, 1) := by decide +kernel
theorem d_174_22 : decode prog_12_method_44_code 22 = .ok (.iload_n 1, 1) := by decide +kernel
theorem d_174_23 : decode prog_12_method_44_code 23 = .ok (.iload_n 2, 1) := by decide +kernel
theorem d_174_24 : decode prog_12_method_44_code 24 = .ok (.iconst 0, 1) := by decide +kernel
theorem d_174_25 : decode prog_12_method_44_code 25 = .ok (.invokevirtual 327, 3) := by decide +kernel
theorem d_174_28 : decode prog_12_method_44_code 28 = .ok (.putfield 331, 3) := by decide +kernel
theorem d_174_31 : decode prog_12_method_44_code 31 = .ok (.aload_n 0, 1) := by decide +kernel
theorem d_174_32 : decode prog_12_method_44_code 32 = .ok (.getfield 331, 3) := by decide +kernel
theorem d_174_35 : decode prog_12_method_44_code 35 = .ok (.ifCond .lt 7, 3) := by decide +kernel
theorem d_174_38 : decode prog_12_method_44_code 38 = .ok (.iconst 2, 1) := by decide +kernel
theorem d_174_39 : decode prog_12_method_44_code 39 = .ok (.goto 4, 3) := by decide +kernel
theorem d_174_42 : decode prog_12_method_44_code 42 = .ok (.iconst 1, 1) := by decide +kernel
theorem d_174_43 : decode prog_12_method_44_code 43 = .ok (.ireturn, 1) := by decide +kernel
set_option maxRecDepth 20000 in
theorem ok_174 : ∀ r ∈ tb_174, sm_ok 174 r := List.forall_mem_cons.mpr ⟨d_174_0, List.forall_mem_cons.mpr ⟨d_174_1, List.forall_mem_cons.mpr ⟨d_174_2, List.forall_mem_cons.mpr ⟨d_174_3, List.forall_mem_cons.mpr ⟨d_174_4, List.forall_mem_cons.mpr ⟨⟨d_174_5, ⟨mo_172, mi_172, se_172, pm_204⟩⟩, List.forall_mem_cons.mpr ⟨⟨d_174_8, pf_303⟩, List.forall_mem_cons.mpr ⟨d_174_11, List.forall_mem_cons.mpr ⟨⟨d_174_12, Or.inl pf_304⟩, List.forall_mem_cons.mpr ⟨⟨d_174_15, (by decide)⟩, List.forall_mem_cons.mpr ⟨d_174_18, List.forall_mem_cons.mpr ⟨d_174_19, List.forall_mem_cons.mpr ⟨d_174_20, List.forall_mem_cons.mpr ⟨d_174_21, List.forall_mem_cons.mpr ⟨d_174_22, List.forall_mem_cons.mpr ⟨d_174_23, List.forall_mem_cons.mpr ⟨d_174_24, List.forall_mem_cons.mpr ⟨⟨d_174_25, ⟨mo_172, mi_172, se_172, pm_204⟩⟩, List.forall_mem_cons.mpr ⟨⟨d_174_28, pf_303⟩, List.forall_mem_cons.mpr ⟨d_174_31, List.forall_mem_cons.mpr ⟨⟨d_174_32, Or.inl pf_304⟩, List.forall_mem_cons.mpr ⟨⟨d_174_35, (by decide)⟩, List.forall_mem_cons.mpr ⟨d_174_38, List.forall_mem_cons.mpr ⟨⟨d_174_39, (by decide)⟩, List.forall_mem_cons.mpr ⟨d_174_42, List.forall_mem_cons.mpr ⟨d_174_43, fun _ h => absurd h List.not_mem_nil⟩⟩⟩⟩⟩⟩⟩⟩⟩⟩⟩⟩⟩⟩⟩⟩⟩⟩⟩⟩⟩⟩⟩⟩⟩⟩
theorem d_175_0 : decode prog_12_method_45_code 0 = .ok (.iload_n 2, 1) := by decide +kernel
theorem d_175_1 : decode prog_12_method_45_code 1 = .ok (.iconst 3, 1) := by decide +kernel
theorem d_175_2 : decode prog_12_method_45_code 2 = .ok (.if_icmp .ne 7, 3) := by decide +kernel
theorem d_175_5 : decode prog_12_method_45_code 5 = .ok (.iconst 1, 1) := by decide +kernel
theorem d_175_6 : decode prog_12_method_45_code 6 = .ok (.goto 27, 3) := by decide +kernel
theorem d_175_9 : decode prog_12_method_45_code 9 = .ok (.iload_n 2, 1) := by decide +kernel
theorem d_175_10 : decode prog_12_method_45_code 10 = .ok (.iconst 2, 1) := by decide +kernel
theorem d_175_11 : decode prog_12_method_45_code 11 = .ok (.if_icmp .ne 16, 3) := by decide +kernel
theorem d_175_14 : decode prog_12_method_45_code 14 = .ok (.aload_n 0, 1) := by decide +kernel
theorem d_175_15 : decode prog_12_method_45_code 15 = .ok (.getfield 53, 3) := by decide +kernel
theorem d_175_18 : decode prog_12_method_45_code 18 = .ok (.iload_n 1, 1) := by decide +kernel
theorem d_175_19 : decode prog_12_method_45_code 19 = .ok (.iaload, 1) := by decide +kernel
theorem d_175_20 : decode prog_12_method_45_code 20 = .ok (.iconst 1, 1) := by decide +kernel
theorem d_175_21 : decode prog_12_method_45_code 21 = .ok (.iadd, 1) := by decide +kernel
theorem d_175_22 : decode prog_12_method_45_code 22 = .ok (.iconst 2, 1) := by decide +kernel
theorem d_175_23 : decode prog_12_method_45_code 23 = .ok (.idiv, 1) := by decide +kernel
theorem d_175_24 : decode prog_12_method_45_code 24 = .ok (.goto 9, 3) := by decide +kernel
theorem d_175_27 : decode prog_12_method_45_code 27 = .ok (.aload_n 0, 1) := by decide +kernel
theorem d_175_28 : decode prog_12_method_45_code 28 = .ok (.getfield 53, 3) := by decide +kernel
theorem d_175_31 : decode prog_12_method_45_code 31 = .ok (.iload_n 1, 1) := by decide +kernel
theorem d_175_32 : decode prog_12_method_45_code 32 = .ok (.iaload, 1) := by decide +kernel
theorem d_175_33 : decode prog_12_method_45_code 33 = .ok (.ireturn, 1) := by decide +kernel
set_option maxRecDepth 20000 in
theorem ok_175 : ∀ r ∈ tb_175, sm_ok 175 r := List.forall_mem_cons.mpr ⟨d_175_0, List.forall_mem_cons.mpr ⟨d_175_1, List.forall_mem_cons.mpr ⟨⟨d_175_2, (by decide)⟩, List.forall_mem_cons.mpr ⟨d_175_5, List.forall_mem_cons.mpr ⟨⟨d_175_6, (by decide)⟩, List.forall_mem_cons.mpr ⟨d_175_9, List.forall_mem_cons.mpr ⟨d_175_10, List.forall_mem_cons.mpr ⟨⟨d_175_11, (by decide)⟩, List.forall_mem_cons.mpr ⟨d_175_14, List.forall_mem_cons.mpr ⟨⟨d_175_15, Or.inl pf_305⟩, List.forall_mem_cons.mpr ⟨d_175_18, List.forall_mem_cons.mpr ⟨d_175_19, List.forall_mem_cons.mpr ⟨d_175_20, List.forall_mem_cons.mpr ⟨d_175_21, List.forall_mem_cons.mpr ⟨d_175_22, List.forall_mem_cons.mpr ⟨d_175_23, List.forall_mem_cons.mpr ⟨⟨d_175_24, (by decide)⟩, List.forall_mem_cons.mpr ⟨d_175_27, List.forall_mem_cons.mpr ⟨⟨d_175_28, Or.inl pf_305⟩, List.forall_mem_cons.mpr ⟨d_175_31, List.forall_mem_cons.mpr ⟨d_175_32, List.forall_mem_cons.mpr ⟨d_175_33, fun _ h => absurd h List.not_mem_nil⟩⟩⟩⟩⟩⟩⟩⟩⟩⟩⟩⟩⟩⟩⟩⟩⟩⟩⟩⟩⟩⟩
theorem d_176_0 : decode prog_12_method_46_code 0 = .ok (.iload 4, 2) := by decide +kernel
theorem d_176_2 : decode prog_12_method_46_code 2 = .ok (.iconst 1, 1) := by decide +kernel
theorem d_176_3 : decode prog_12_method_46_code 3 = .ok (.if_icmp .ne 5, 3) := by decide +kernel
theorem d_176_6 : decode prog_12_method_46_code 6 = .ok (.iconst 1, 1) := by decide +kernel
theorem d_176_7 : decode prog_12_method_46_code 7 = .ok (.ireturn, 1) := by decide +kernel
theorem d_176_8 : decode prog_12_method_46_code 8 = .ok (.aload_n 0, 1) := by decide +kernel
theorem d_176_9 : decode prog_12_method_46_code 9 = .ok (.iload_n 3, 1) := by decide +kernel
theorem d_176_10 : decode prog_12_method_46_code 10 = .ok (.iload_n 1, 1) := by decide +kernel
theorem d_176_11 : decode prog_12_method_46_code 11 = .ok (.iload 5, 2) := by decide +kernel
theorem d_176_13 : decode prog_12_method_46_code 13 = .ok (.iload 4, 2) := by decide +kernel
theorem d_176_15 : decode prog_12_method_46_code 15 = .ok (.iconst 3, 1) := by decide +kernel
theorem d_176_16 : decode prog_12_method_46_code 16 = .ok (.if_icmp .ne 7, 3) := by decide +kernel
theorem d_176_19 : decode prog_12_method_46_code 19 = .ok (.iconst 1, 1) := by decide +kernel
theorem d_176_20 : decode prog_12_method_46_code 20 = .ok (.goto 4, 3) := by decide +kernel
theorem d_176_23 : decode prog_12_method_46_code 23 = .ok (.iconst 0, 1) := by decide +kernel
theorem d_176_24 : decode prog_12_method_46_code 24 = .ok (.invokevirtual 315, 3) := by decide +kernel
theorem d_176_27 : decode prog_12_method_46_code 27 = .ok (.istore 6, 2) := by decide +kernel
theorem d_176_29 : decode prog_12_method_46_code 29 = .ok (.aload_n 0, 1) := by decide +kernel
theorem d_176_30 : decode prog_12_method_46_code 30 = .ok (.getfield 41, 3) := by decide +kernel
theorem d_176_33 : decode prog_12_method_46_code 33 = .ok (.iload_n 3, 1) := by decide +kernel
theorem d_176_34 : decode prog_12_method_46_code 34 = .ok (.iaload, 1) := by decide +kernel
theorem d_176_35 : decode prog_12_method_46_code 35 = .ok (.istore 7, 2) := by decide +kernel
theorem d_176_37 : decode prog_12_method_46_code 37 = .ok (.aload_n 0, 1) := by decide +kernel
theorem d_176_38 : decode prog_12_method_46_code 38 = .ok (.getfield 47, 3) := by decide +kernel
theorem d_176_41 : decode prog_12_method_46_code 41 = .ok (.iload_n 3, 1) := by decide +kernel
theorem d_176_42 : decode prog_12_method_46_code 42 = .ok (.iaload, 1) := by decide +kernel
theorem d_176_43 : decode prog_12_method_46_code 43 = .ok (.istore 8, 2) := by decide +kernel
theorem d_176_45 : decode prog_12_method_46_code 45 = .ok (.aload_n 0, 1) := by decide +kernel
theorem d_176_46 : decode prog_12_method_46_code 46 = .ok (.getfield 44, 3) := by decide +kernel
theorem d_176_49 : decode prog_12_method_46_code 49 = .ok (.iload_n 3, 1) := by decide +kernel
theorem d_176_50 : decode prog_12_method_46_code 50 = .ok (.iaload, 1) := by decide +kernel
theorem d_176_51 : decode prog_12_method_46_code 51 = .ok (.iconst 1, 1) := by decide +kernel
theorem d_176_52 : decode prog_12_method_46_code 52 = .ok (.isub, 1) := by decide +kernel
theorem d_176_53 : decode prog_12_method_46_code 53 = .ok (.istore 9, 2) := by decide +kernel
theorem d_176_55 : decode prog_12_method_46_code 55 = .ok (.iload 6, 2) := by decide +kernel
theorem d_176_57 : decode prog_12_method_46_code 57 = .ok (.ifCond .ne 15, 3) := by decide +kernel
theorem d_176_60 : decode prog_12_method_46_code 60 = .ok (.aload_n 0, 1) := by decide +kernel
theorem d_176_61 : decode prog_12_method_46_code 61 = .ok (.getfield 23, 3) := by decide +kernel
theorem d_176_64 : decode prog_12_method_46_code 64 = .ok (.iload 7, 2) := by decide +kernel
theorem d_176_66 : decode prog_12_method_46_code 66 = .ok (.iaload, 1) := by decide +kernel
theorem d_176_67 : decode prog_12_method_46_code 67 = .ok (.iconst 4, 1) := by decide +kernel
theorem d_176_68 : decode prog_12_method_46_code 68 = .ok (.irem, 1) := by decide +kernel
theorem d_176_69 : decode prog_12_method_46_code 69 = .ok (.goto 12, 3) := by decide +kernel
theorem d_176_72 : decode prog_12_method_46_code 72 = .ok (.aload_n 0, 1) := by decide +kernel
theorem d_176_73 : decode prog_12_method_46_code 73 = .ok (.getfield 23, 3) := by decide +kernel
theorem d_176_76 : decode prog_12_method_46_code 76 = .ok (.iload 8, 2) := by decide +kernel
theorem d_176_78 : decode prog_12_method_46_code 78 = .ok (.iaload, 1) := by decide +kernel
theorem d_176_79 : decode prog_12_method_46_code 79 = .ok (.iconst 4, 1) := by decide +kernel
theorem d_176_80 : decode prog_12_method_46_code 80 = .ok (.irem, 1) := by decide +kernel
theorem d_176_81 : decode prog_12_method_46_code 81 = .ok (.istore 10, 2) := by decide +kernel
theorem d_176_83 : decode prog_12_method_46_code 83 = .ok (.iload 6, 2) := by decide +kernel
theorem d_176_85 : decode prog_12_method_46_code 85 = .ok (.ifCond .ne 14, 3) := by decide +kernel
theorem d_176_88 : decode prog_12_method_46_code 88 = .ok (.aload_n 0, 1) := by decide +kernel
theorem d_176_89 : decode prog_12_method_46_code 89 = .ok (.iload 8, 2) := by decide +kernel
theorem d_176_91 : decode prog_12_method_46_code 91 = .ok (.iload 9, 2) := by decide +kernel
theorem d_176_93 : decode prog_12_method_46_code 93 = .ok (.invokevirtual 311, 3) := by decide +kernel
theorem d_176_96 : decode prog_12_method_46_code 96 = .ok (.goto 11, 3) := by decide +kernel
theorem d_176_99 : decode prog_12_method_46_code 99 = .ok (.aload_n 0, 1) := by decide +kernel
theorem d_176_100 : decode prog_12_method_46_code 100 = .ok (.iload 7, 2) := by decide +kernel
theorem d_176_102 : decode prog_12_method_46_code 102 = .ok (.iload 8, 2) := by decide +kernel
theorem d_176_104 : decode prog_12_method_46_code 104 = .ok (.invokevirtual 311, 3) := by decide +kernel
theorem d_176_107 : decode prog_12_method_46_code 107 = .ok (.lstore 11, 2) := by decide +kernel
theorem d_176_109 : decode prog_12_method_46_code 109 = .ok (.lload 11, 2) := by decide +kernel
theorem d_176_111 : decode prog_12_method_46_code 111 = .ok (.ldc2_w 305, 3) := by decide +kernel
theorem d_176_114 : decode prog_12_method_46_code 114 = .ok (.lcmp, 1) := by decide +kernel
theorem d_176_115 : decode prog_12_method_46_code 115 = .ok (.ifCond .eq 29, 3) := by decide +kernel
theorem d_176_118 : decode prog_12_method_46_code 118 = .ok (.aload_n 0, 1) := by decide +kernel
theorem d_176_119 : decode prog_12_method_46_code 119 = .ok (.getfield 56, 3) := by decide +kernel
theorem d_176_122 : decode prog_12_method_46_code 122 = .ok (.bipush 80, 2) := by decide +kernel
theorem d_176_124 : decode prog_12_method_46_code 124 = .ok (.iload_n 1, 1) := by decide +kernel
theorem d_176_125 : decode prog_12_method_46_code 125 = .ok (.imul, 1) := by decide +kernel
theorem d_176_126 : decode prog_12_method_46_code 126 = .ok (.iconst 4, 1) := by decide +kernel
theorem d_176_127 : decode prog_12_method_46_code 127 = .ok (.iload_n 2, 1) := by decide +kernel
theorem d_176_128 : decode prog_12_method_46_code 128 = .ok (.imul, 1) := by decide +kernel
theorem d_176_129 : decode prog_12_method_46_code 129 = .ok (.iadd, 1) := by decide +kernel
theorem d_176_130 : decode prog_12_method_46_code 130 = .ok (.iload 10, 2) := by decide +kernel
theorem d_176_132 : decode prog_12_method_46_code 132 = .ok (.iadd, 1) := by decide +kernel
theorem d_176_133 : decode prog_12_method_46_code 133 = .ok (.laload, 1) := by decide +kernel
theorem d_176_134 : decode prog_12_method_46_code 134 = .ok (.lload 11, 2) := by decide +kernel
theorem d_176_136 : decode prog_12_method_46_code 136 = .ok (.lcmp, 1) := by decide +kernel
theorem d_176_137 : decode prog_12_method_46_code 137 = .ok (.ifCond .ne 7, 3) := by decide +kernel
theorem d_176_140 : decode prog_12_method_46_code 140 = .ok (.iconst 1, 1) := by decide +kernel
theorem d_176_141 : decode prog_12_method_46_code 141 = .ok (.goto 4, 3) := by decide +kernel
theorem d_176_144 : decode prog_12_method_46_code 144 = .ok (.iconst 0, 1) := by decide +kernel
theorem d_176_145 : decode prog_12_method_46_code 145 = .ok (.ireturn, 1) := by decide +kernel
set_option maxRecDepth 20000 in
theorem ok_176 : ∀ r ∈ tb_176, sm_ok 176 r := List.forall_mem_cons.mpr ⟨d_176_0, List.forall_mem_cons.mpr ⟨d_176_2, List.forall_mem_cons.mpr ⟨⟨d_176_3, (by decide)⟩, List.forall_mem_cons.mpr ⟨d_176_6, List.forall_mem_cons.mpr ⟨d_176_7, List.forall_mem_cons.mpr ⟨d_176_8, List.forall_mem_cons.mpr ⟨d_176_9, List.forall_mem_cons.mpr ⟨d_176_10, List.forall_mem_cons.mpr ⟨d_176_11, List.forall_mem_cons.mpr ⟨d_176_13, List.forall_mem_cons.mpr ⟨d_176_15, List.forall_mem_cons.mpr ⟨⟨d_176_16, (by decide)⟩, List.forall_mem_cons.mpr ⟨d_176_19, List.forall_mem_cons.mpr ⟨⟨d_176_20, (by decide)⟩, List.forall_mem_cons.mpr ⟨d_176_23, List.forall_mem_cons.mpr ⟨⟨d_176_24, ⟨mo_173, mi_173, se_173, pm_201⟩⟩, List.forall_mem_cons.mpr ⟨d_176_27, List.forall_mem_cons.mpr ⟨d_176_29, List.forall_mem_cons.mpr ⟨⟨d_176_30, Or.inl pf_259⟩, List.forall_mem_cons.mpr ⟨d_176_33, List.forall_mem_cons.mpr ⟨d_176_34, List.forall_mem_cons.mpr ⟨d_176_35, List.forall_mem_cons.mpr ⟨d_176_37, List.forall_mem_cons.mpr ⟨⟨d_176_38, Or.inl pf_263⟩, List.forall_mem_cons.mpr ⟨d_176_41, List.forall_mem_cons.mpr ⟨d_176_42, List.forall_mem_cons.mpr ⟨d_176_43, List.forall_mem_cons.mpr ⟨d_176_45, List.forall_mem_cons.mpr ⟨⟨d_176_46, Or.inl pf_262⟩, List.forall_mem_cons.mpr ⟨d_176_49, List.forall_mem_cons.mpr ⟨d_176_50, List.forall_mem_cons.mpr ⟨d_176_51, List.forall_mem_cons.mpr ⟨d_176_52, List.forall_mem_cons.mpr ⟨d_176_53, List.forall_mem_cons.mpr ⟨d_176_55, List.forall_mem_cons.mpr ⟨⟨d_176_57, (by decide)⟩, List.forall_mem_cons.mpr ⟨d_176_60, List.forall_mem_cons.mpr ⟨⟨d_176_61, Or.inl pf_245⟩, List.forall_mem_cons.mpr ⟨d_176_64, List.forall_mem_cons.mpr ⟨d_176_66, List.forall_mem_cons.mpr ⟨d_176_67, List.forall_mem_cons.mpr ⟨d_176_68, List.forall_mem_cons.mpr ⟨⟨d_176_69, (by decide)⟩, List.forall_mem_cons.mpr ⟨d_176_72, List.forall_mem_cons.mpr ⟨⟨d_176_73, Or.inl pf_245⟩, List.forall_mem_cons.mpr ⟨d_176_76, List.forall_mem_cons.mpr ⟨d_176_78, List.forall_mem_cons.mpr ⟨d_176_79, List.forall_mem_cons.mpr ⟨d_176_80, List.forall_mem_cons.mpr ⟨d_176_81, List.forall_mem_cons.mpr ⟨d_176_83, List.forall_mem_cons.mpr ⟨⟨d_176_85, (by decide)⟩, List.forall_mem_cons.mpr ⟨d_176_88, List.forall_mem_cons.mpr ⟨d_176_89, List.forall_mem_cons.mpr ⟨d_176_91, List.forall_mem_cons.mpr ⟨⟨d_176_93, ⟨mo_167, mi_167, se_167, pm_200⟩⟩, List.forall_mem_cons.mpr ⟨⟨d_176_96, (by decide)⟩, List.forall_mem_cons.mpr ⟨d_176_99, List.forall_mem_cons.mpr ⟨d_176_100, List.forall_mem_cons.mpr ⟨d_176_102, List.forall_mem_cons.mpr ⟨⟨d_176_104, ⟨mo_167, mi_167, se_167, pm_200⟩⟩, List.forall_mem_cons.mpr ⟨d_176_107, List.forall_mem_cons.mpr ⟨d_176_109, List.forall_mem_cons.mpr ⟨⟨d_176_111, (fun _ h => Option.some.inj h ▸ wd_447)⟩, List.forall_mem_cons.mpr ⟨d_176_114, List.forall_mem_cons.mpr ⟨⟨d_176_115, (by decide)⟩, List.forall_mem_cons.mpr ⟨d_176_118, List.forall_mem_cons.mpr ⟨⟨d_176_119, Or.inl pf_300⟩, List.forall_mem_cons.mpr ⟨d_176_122, List.forall_mem_cons.mpr ⟨d_176_124, List.forall_mem_cons.mpr ⟨d_176_125, List.forall_mem_cons.mpr ⟨d_176_126, List.forall_mem_cons.mpr ⟨d_176_127, List.forall_mem_cons.mpr ⟨d_176_128, List.forall_mem_cons.mpr ⟨d_176_129, List.forall_mem_cons.mpr ⟨d_176_130, List.forall_mem_cons.mpr ⟨d_176_132, List.forall_mem_cons.mpr ⟨d_176_133, List.forall_mem_cons.mpr ⟨d_176_134, List.forall_mem_cons.mpr ⟨d_176_136, List.forall_mem_cons.mpr ⟨⟨d_176_137, (by decide)⟩, List.forall_mem_cons.mpr ⟨d_176_140, List.forall_mem_cons.mpr ⟨⟨d_176_141, (by decide)⟩, List.forall_mem_cons.mpr ⟨d_176_144, List.forall_mem_cons.mpr ⟨d_176_145, fun _ h => absurd h List.not_mem_nil⟩⟩⟩⟩⟩⟩⟩⟩⟩⟩⟩⟩⟩⟩⟩⟩⟩⟩⟩⟩⟩⟩⟩⟩⟩⟩⟩⟩⟩⟩⟩⟩⟩⟩⟩⟩⟩⟩⟩⟩⟩⟩⟩⟩⟩⟩⟩⟩⟩⟩⟩⟩⟩⟩⟩⟩⟩⟩⟩⟩⟩⟩⟩⟩⟩⟩⟩⟩⟩⟩⟩⟩⟩⟩⟩⟩⟩⟩⟩⟩⟩⟩⟩⟩⟩
theorem d_177_0 : decode prog_12_method_47_code 0 = .ok (.aload_n 0, 1) := by decide +kernel
theorem d_177_1 : decode prog_12_method_47_code 1 = .ok (.aload_n 0, 1) := by decide +kernel
theorem d_177_2 : decode prog_12_method_47_code 2 = .ok (.iload_n 1, 1) := by decide +kernel
theorem d_177_3 : decode prog_12_method_47_code 3 = .ok (.iconst 0, 1) := by decide +kernel
theorem d_177_4 : decode prog_12_method_47_code 4 = .ok (.invokevirtual 334, 3) := by decide +kernel
theorem d_177_7 : decode prog_12_method_47_code 7 = .ok (.putfield 245, 3) := by decide +kernel
theorem d_177_10 : decode prog_12_method_47_code 10 = .ok (.aload_n 0, 1) := by decide +kernel
theorem d_177_11 : decode prog_12_method_47_code 11 = .ok (.getfield 331, 3) := by decide +kernel
theorem d_177_14 : decode prog_12_method_47_code 14 = .ok (.istore_n 2, 1) := by decide +kernel
theorem d_177_15 : decode prog_12_method_47_code 15 = .ok (.aload_n 0, 1) := by decide +kernel
theorem d_177_16 : decode prog_12_method_47_code 16 = .ok (.iconst 0, 1) := by decide +kernel
theorem d_177_17 : decode prog_12_method_47_code 17 = .ok (.putfield 242, 3) := by decide +kernel
theorem d_177_20 : decode prog_12_method_47_code 20 = .ok (.iconst 0, 1) := by decide +kernel
theorem d_177_21 : decode prog_12_method_47_code 21 = .ok (.istore_n 3, 1) := by decide +kernel
theorem d_177_22 : decode prog_12_method_47_code 22 = .ok (.iload_n 3, 1) := by decide +kernel
theorem d_177_23 : decode prog_12_method_47_code 23 = .ok (.aload_n 0, 1) := by decide +kernel
theorem d_177_24 : decode prog_12_method_47_code 24 = .ok (.getfield 53, 3) := by decide +kernel
theorem d_177_27 : decode prog_12_method_47_code 27 = .ok (.iload_n 1, 1) := by decide +kernel
theorem d_177_28 : decode prog_12_method_47_code 28 = .ok (.iaload, 1) := by decide +kernel
theorem d_177_29 : decode prog_12_method_47_code 29 = .ok (.if_icmp .ge 41, 3) := by decide +kernel
theorem d_177_32 : decode prog_12_method_47_code 32 = .ok (.aload_n 0, 1) := by decide +kernel
theorem d_177_33 : decode prog_12_method_47_code 33 = .ok (.aload_n 0, 1) := by decide +kernel
theorem d_177_34 : decode prog_12_method_47_code 34 = .ok (.iload_n 1, 1) := by decide +kernel
theorem d_177_35 : decode prog_12_method_47_code 35 = .ok (.iload_n 3, 1) := by decide +kernel
theorem d_177_36 : decode prog_12_method_47_code 36 = .ok (.iload_n 2, 1) := by decide +kernel
theorem d_177_37 : decode prog_12_method_47_code 37 = .ok (.aload_n 0, 1) := by decide +kernel
theorem d_177_38 : decode prog_12_method_47_code 38 = .ok (.getfield 245, 3) := by decide +kernel
theorem d_177_41 : decode prog_12_method_47_code 41 = .ok (.iconst 0, 1) := by decide +kernel
theorem d_177_42 : decode prog_12_method_47_code 42 = .ok (.invokevirtual 337, 3) := by decide +kernel
theorem d_177_45 : decode prog_12_method_47_code 45 = .ok (.ifCond .eq 12, 3) := by decide +kernel
theorem d_177_48 : decode prog_12_method_47_code 48 = .ok (.aload_n 0, 1) := by decide +kernel
theorem d_177_49 : decode prog_12_method_47_code 49 = .ok (.getfield 242, 3) := by decide +kernel
theorem d_177_52 : decode prog_12_method_47_code 52 = .ok (.iconst 1, 1) := by decide +kernel
theorem d_177_53 : decode prog_12_method_47_code 53 = .ok (.iadd, 1) := by decide +kernel
theorem d_177_54 : decode prog_12_method_47_code 54 = .ok (.goto 7, 3) := by decide +kernel
theorem d_177_57 : decode prog_12_method_47_code 57 = .ok (.aload_n 0, 1) := by decide +kernel
theorem d_177_58 : decode prog_12_method_47_code 58 = .ok (.getfield 242, 3) := by decide +kernel
theorem d_177_61 : decode prog_12_method_47_code 61 = .ok (.putfield 242, 3) := by decide +kernel
theorem d_177_64 : decode prog_12_method_47_code 64 = .ok (.iinc 3 1, 3) := by decide +kernel
theorem d_177_67 : decode prog_12_method_47_code 67 = .ok (.goto (-45), 3) := by decide +kernel
theorem d_177_70 : decode prog_12_method_47_code 70 = .ok (.return_, 1) := by decide +kernel
set_option maxRecDepth 20000 in
theorem ok_177 : ∀ r ∈ tb_177, sm_ok 177 r := List.forall_mem_cons.mpr ⟨d_177_0, List.forall_mem_cons.mpr ⟨d_177_1, List.forall_mem_cons.mpr ⟨d_177_2, List.forall_mem_cons.mpr ⟨d_177_3, List.forall_mem_cons.mpr ⟨⟨d_177_4, ⟨mo_174, mi_174, se_174, pm_205⟩⟩, List.forall_mem_cons.mpr ⟨⟨d_177_7, pf_290⟩, List.forall_mem_cons.mpr ⟨d_177_10, List.forall_mem_cons.mpr ⟨⟨d_177_11, Or.inl pf_304⟩, List.forall_mem_cons.mpr ⟨d_177_14, List.forall_mem_cons.mpr ⟨d_177_15, List.forall_mem_cons.mpr ⟨d_177_16, List.forall_mem_cons.mpr ⟨⟨d_177_17, pf_289⟩, List.forall_mem_cons.mpr ⟨d_177_20, List.forall_mem_cons.mpr ⟨d_177_21, List.forall_mem_cons.mpr ⟨d_177_22, List.forall_mem_cons.mpr ⟨d_177_23, List.forall_mem_cons.mpr ⟨⟨d_177_24, Or.inl pf_305⟩, List.forall_mem_cons.mpr ⟨d_177_27, List.forall_mem_cons.mpr ⟨d_177_28, List.forall_mem_cons.mpr ⟨⟨d_177_29, (by decide)⟩, List.forall_mem_cons.mpr ⟨d_177_32, List.forall_mem_cons.mpr ⟨d_177_33, List.forall_mem_cons.mpr ⟨d_177_34, List.forall_mem_cons.mpr ⟨d_177_35, List.forall_mem_cons.mpr ⟨d_177_36, List.forall_mem_cons.mpr ⟨d_177_37, List.forall_mem_cons.mpr ⟨⟨d_177_38, Or.inl pf_306⟩, List.forall_mem_cons.mpr ⟨d_177_41, List.forall_mem_cons.mpr ⟨⟨d_177_42, ⟨mo_176, mi_176, se_176, pm_206⟩⟩, List.forall_mem_cons.mpr ⟨⟨d_177_45, (by decide)⟩, List.forall_mem_cons.mpr ⟨d_177_48, List.forall_mem_cons.mpr ⟨⟨d_177_49, Or.inl pf_307⟩, List.forall_mem_cons.mpr ⟨d_177_52, List.forall_mem_cons.mpr ⟨d_177_53, List.forall_mem_cons.mpr ⟨⟨d_177_54, (by decide)⟩, List.forall_mem_cons.mpr ⟨d_177_57, List.forall_mem_cons.mpr ⟨⟨d_177_58, Or.inl pf_307⟩, List.forall_mem_cons.mpr ⟨⟨d_177_61, pf_289⟩, List.forall_mem_cons.mpr ⟨d_177_64, List.forall_mem_cons.mpr ⟨⟨d_177_67, (by decide)⟩, List.forall_mem_cons.mpr ⟨d_177_70, fun _ h => absurd h List.not_mem_nil⟩⟩⟩⟩⟩⟩⟩⟩⟩⟩⟩⟩⟩⟩⟩⟩⟩⟩⟩⟩⟩⟩⟩⟩⟩⟩⟩⟩⟩⟩⟩⟩⟩⟩⟩⟩⟩⟩⟩⟩⟩
theorem d_178_0 : decode prog_12_method_48_code 0 = .ok (.aload_n 0, 1) := by decide +kernel
theorem d_178_1 : decode prog_12_method_48_code 1 = .ok (.getfield 32, 3) := by decide +kernel
theorem d_178_4 : decode prog_12_method_48_code 4 = .ok (.iconst 0, 1) := by decide +kernel
theorem d_178_5 : decode prog_12_method_48_code 5 = .ok (.iaload, 1) := by decide +kernel
theorem d_178_6 : decode prog_12_method_48_code 6 = .ok (.istore_n 1, 1) := by decide +kernel
theorem d_178_7 : decode prog_12_method_48_code 7 = .ok (.aload_n 0, 1) := by decide +kernel
theorem d_178_8 : decode prog_12_method_48_code 8 = .ok (.getfield 32, 3) := by decide +kernel
theorem d_178_11 : decode prog_12_method_48_code 11 = .ok (.iconst 1, 1) := by decide +kernel
theorem d_178_12 : decode prog_12_method_48_code 12 = .ok (.iaload, 1) := by decide +kernel
theorem d_178_13 : decode prog_12_method_48_code 13 = .ok (.istore_n 2, 1) := by decide +kernel
theorem d_178_14 : decode prog_12_method_48_code 14 = .ok (.aload_n 0, 1) := by decide +kernel
theorem d_178_15 : decode prog_12_method_48_code 15 = .ok (.iload_n 1, 1) := by decide +kernel
theorem d_178_16 : decode prog_12_method_48_code 16 = .ok (.iconst 0, 1) := by decide +kernel
theorem d_178_17 : decode prog_12_method_48_code 17 = .ok (.invokevirtual 334, 3) := by decide +kernel
theorem d_178_20 : decode prog_12_method_48_code 20 = .ok (.istore_n 3, 1) := by decide +kernel
theorem d_178_21 : decode prog_12_method_48_code 21 = .ok (.aload_n 0, 1) := by decide +kernel
theorem d_178_22 : decode prog_12_method_48_code 22 = .ok (.iload_n 2, 1) := by decide +kernel
theorem d_178_23 : decode prog_12_method_48_code 23 = .ok (.iconst 1, 1) := by decide +kernel
theorem d_178_24 : decode prog_12_method_48_code 24 = .ok (.iload_n 1, 1) := by decide +kernel
theorem d_178_25 : decode prog_12_method_48_code 25 = .ok (.ishl, 1) := by decide +kernel
theorem d_178_26 : decode prog_12_method_48_code 26 = .ok (.invokevirtual 334, 3) := by decide +kernel
theorem d_178_29 : decode prog_12_method_48_code 29 = .ok (.istore 4, 2) := by decide +kernel
theorem d_178_31 : decode prog_12_method_48_code 31 = .ok (.aload_n 0, 1) := by decide +kernel
theorem d_178_32 : decode prog_12_method_48_code 32 = .ok (.iload_n 2, 1) := by decide +kernel
theorem d_178_33 : decode prog_12_method_48_code 33 = .ok (.iconst 0, 1) := by decide +kernel
theorem d_178_34 : decode prog_12_method_48_code 34 = .ok (.invokevirtual 334, 3) := by decide +kernel
theorem d_178_37 : decode prog_12_method_48_code 37 = .ok (.istore 5, 2) := by decide +kernel
theorem d_178_39 : decode prog_12_method_48_code 39 = .ok (.aload_n 0, 1) := by decide +kernel
theorem d_178_40 : decode prog_12_method_48_code 40 = .ok (.iload_n 1, 1) := by decide +kernel
theorem d_178_41 : decode prog_12_method_48_code 41 = .ok (.iconst 1, 1) := by decide +kernel
theorem d_178_42 : decode prog_12_method_48_code 42 = .ok (.iload_n 2, 1) := by decide +kernel
theorem d_178_43 : decode prog_12_method_48_code 43 = .ok (.ishl, 1) := by decide +kernel
theorem d_178_44 : decode prog_12_method_48_code 44 = .ok (.invokevirtual 334, 3) := by decide +kernel
theorem d_178_47 : decode prog_12_method_48_code 47 = .ok (.istore 6, 2) := by decide +kernel
theorem d_178_49 : decode prog_12_method_48_code 49 = .ok (.aload_n 0, 1) := by decide +kernel
theorem d_178_50 : decode prog_12_method_48_code 50 = .ok (.iload_n 1, 1) := by decide +kernel
theorem d_178_51 : decode prog_12_method_48_code 51 = .ok (.iload_n 3, 1) := by decide +kernel
theorem d_178_52 : decode prog_12_method_48_code 52 = .ok (.invokevirtual 341, 3) := by decide +kernel
theorem d_178_55 : decode prog_12_method_48_code 55 = .ok (.aload_n 0, 1) := by decide +kernel
theorem d_178_56 : decode prog_12_method_48_code 56 = .ok (.iload_n 1, 1) := by decide +kernel
theorem d_178_57 : decode prog_12_method_48_code 57 = .ok (.iload_n 3, 1) := by decide +kernel
theorem d_178_58 : decode prog_12_method_48_code 58 = .ok (.invokevirtual 341, 3) := by decide +kernel
theorem d_178_61 : decode prog_12_method_48_code 61 = .ok (.aload_n 0, 1) := by decide +kernel
theorem d_178_62 : decode prog_12_method_48_code 62 = .ok (.iload_n 2, 1) := by decide +kernel
theorem d_178_63 : decode prog_12_method_48_code 63 = .ok (.iload 4, 2) := by decide +kernel
theorem d_178_65 : decode prog_12_method_48_code 65 = .ok (.invokevirtual 341, 3) := by decide +kernel
theorem d_178_68 : decode prog_12_method_48_code 68 = .ok (.imul, 1) := by decide +kernel
theorem d_178_69 : decode prog_12_method_48_code 69 = .ok (.iadd, 1) := by decide +kernel
theorem d_178_70 : decode prog_12_method_48_code 70 = .ok (.istore 7, 2) := by decide +kernel
theorem d_178_72 : decode prog_12_method_48_code 72 = .ok (.aload_n 0, 1) := by decide +kernel
theorem d_178_73 : decode prog_12_method_48_code 73 = .ok (.iload_n 2, 1) := by decide +kernel
theorem d_178_74 : decode prog_12_method_48_code 74 = .ok (.iload 5, 2) := by decide +kernel
theorem d_178_76 : decode prog_12_method_48_code 76 = .ok (.invokevirtual 341, 3) := by decide +kernel
theorem d_178_79 : decode prog_12_method_48_code 79 = .ok (.aload_n 0, 1) := by decide +kernel
theorem d_178_80 : decode prog_12_method_48_code 80 = .ok (.iload_n 2, 1) := by decide +kernel
theorem d_178_81 : decode prog_12_method_48_code 81 = .ok (.iload 5, 2) := by decide +kernel
theorem d_178_83 : decode prog_12_method_48_code 83 = .ok (.invokevirtual 341, 3) := by decide +kernel
theorem d_178_86 : decode prog_12_method_48_code 86 = .ok (.aload_n 0, 1) := by decide +kernel
theorem d_178_87 : decode prog_12_method_48_code 87 = .ok (.iload_n 1, 1) := by decide +kernel
theorem d_178_88 : decode prog_12_method_48_code 88 = .ok (.iload 6, 2) := by decide +kernel
theorem d_178_90 : decode prog_12_method_48_code 90 = .ok (.invokevirtual 341, 3) := by decide +kernel
theorem d_178_93 : decode prog_12_method_48_code 93 = .ok (.imul, 1) := by decide +kernel
theorem d_178_94 : decode prog_12_method_48_code 94 = .ok (.iadd, 1) := by decide +kernel
theorem d_178_95 : decode prog_12_method_48_code 95 = .ok (.istore 8, 2) := by decide +kernel
theorem d_178_97 : decode prog_12_method_48_code 97 = .ok (.iload 8, 2) := by decide +kernel
theorem d_178_99 : decode prog_12_method_48_code 99 = .ok (.iload 7, 2) := by decide +kernel
theorem d_178_101 : decode prog_12_method_48_code 101 = .ok (.if_icmp .ge 7, 3) := by decide +kernel
theorem d_178_104 : decode prog_12_method_48_code 104 = .ok (.iconst 1, 1) := by decide +kernel
theorem d_178_105 : decode prog_12_method_48_code 105 = .ok (.goto 4, 3) := by decide +kernel
theorem d_178_108 : decode prog_12_method_48_code 108 = .ok (.iconst 0, 1) := by decide +kernel
theorem d_178_109 : decode prog_12_method_48_code 109 = .ok (.istore 9, 2) := by decide +kernel
theorem d_178_111 : decode prog_12_method_48_code 111 = .ok (.aload_n 0, 1) := by decide +kernel
theorem d_178_112 : decode prog_12_method_48_code 112 = .ok (.iload 9, 2) := by decide +kernel
theorem d_178_114 : decode prog_12_method_48_code 114 = .ok (.ifCond .eq 16, 3) := by decide +kernel
theorem d_178_117 : decode prog_12_method_48_code 117 = .ok (.iload 5, 2) := by decide +kernel
theorem d_178_119 : decode prog_12_method_48_code 119 = .ok (.iconst 4, 1) := by decide +kernel
theorem d_178_120 : decode prog_12_method_48_code 120 = .ok (.iload 6, 2) := by decide +kernel
theorem d_178_122 : decode prog_12_method_48_code 122 = .ok (.imul, 1) := by decide +kernel
theorem d_178_123 : decode prog_12_method_48_code 123 = .ok (.iadd, 1) := by decide +kernel
theorem d_178_124 : decode prog_12_method_48_code 124 = .ok (.bipush 16, 2) := by decide +kernel
theorem d_178_126 : decode prog_12_method_48_code 126 = .ok (.iadd, 1) := by decide +kernel
theorem d_178_127 : decode prog_12_method_48_code 127 = .ok (.goto 9, 3) := by decide +kernel
theorem d_178_130 : decode prog_12_method_48_code 130 = .ok (.iload_n 3, 1) := by decide +kernel
theorem d_178_131 : decode prog_12_method_48_code 131 = .ok (.iconst 4, 1) := by decide +kernel
theorem d_178_132 : decode prog_12_method_48_code 132 = .ok (.iload 4, 2) := by decide +kernel
theorem d_178_134 : decode prog_12_method_48_code 134 = .ok (.imul, 1) := by decide +kernel
theorem d_178_135 : decode prog_12_method_48_code 135 = .ok (.iadd, 1) := by decide +kernel
theorem d_178_136 : decode prog_12_method_48_code 136 = .ok (.putfield 245, 3) := by decide +kernel
theorem d_178_139 : decode prog_12_method_48_code 139 = .ok (.iload 9, 2) := by decide +kernel
theorem d_178_141 : decode prog_12_method_48_code 141 = .ok (.ifCond .eq 12, 3) := by decide +kernel
theorem d_178_144 : decode prog_12_method_48_code 144 = .ok (.aload_n 0, 1) := by decide +kernel
theorem d_178_145 : decode prog_12_method_48_code 145 = .ok (.iload_n 2, 1) := by decide +kernel
theorem d_178_146 : decode prog_12_method_48_code 146 = .ok (.iload_n 1, 1) := by decide +kernel
theorem d_178_147 : decode prog_12_method_48_code 147 = .ok (.invokevirtual 344, 3) := by decide +kernel
theorem d_178_150 : decode prog_12_method_48_code 150 = .ok (.goto 9, 3) := by decide +kernel
theorem d_178_153 : decode prog_12_method_48_code 153 = .ok (.aload_n 0, 1) := by decide +kernel
theorem d_178_154 : decode prog_12_method_48_code 154 = .ok (.iload_n 1, 1) := by decide +kernel
theorem d_178_155 : decode prog_12_method_48_code 155 = .ok (.iload_n 2, 1) := by decide +kernel
theorem d_178_156 : decode prog_12_method_48_code 156 = .ok (.invokevirtual 344, 3) := by decide +kernel
theorem d_178_159 : decode prog_12_method_48_code 159 = .ok (.return_, 1) := by decide +kernel
set_option maxRecDepth 20000 in
theorem ok_178 : ∀ r ∈ tb_178, sm_ok 178 r := List.forall_mem_cons.mpr ⟨d_178_0, List.forall_mem_cons.mpr ⟨⟨d_178_1, Or.inl pf_279⟩, List.forall_mem_cons.mpr ⟨d_178_4, List.forall_mem_cons.mpr ⟨d_178_5, List.forall_mem_cons.mpr ⟨d_178_6, List.forall_mem_cons.mpr ⟨d_178_7, List.forall_mem_cons.mpr ⟨⟨d_178_8, Or.inl pf_279⟩, List.forall_mem_cons.mpr ⟨d_178_11, List.forall_mem_cons.mpr ⟨d_178_12, List.forall_mem_cons.mpr ⟨d_178_13, List.forall_mem_cons.mpr ⟨d_178_14, List.forall_mem_cons.mpr ⟨d_178_15, List.forall_mem_cons.mpr ⟨d_178_16, List.forall_mem_cons.mpr ⟨⟨d_178_17, ⟨mo_174, mi_174, se_174, pm_205⟩⟩, List.forall_mem_cons.mpr ⟨d_178_20, List.forall_mem_cons.mpr ⟨d_178_21, List.forall_mem_cons.mpr ⟨d_178_22, List.forall_mem_cons.mpr ⟨d_178_23, List.forall_mem_cons.mpr ⟨d_178_24, List.forall_mem_cons.mpr ⟨d_178_25, List.forall_mem_cons.mpr ⟨⟨d_178_26, ⟨mo_174, mi_174, se_174, pm_205⟩⟩, List.forall_mem_cons.mpr ⟨d_178_29, List.forall_mem_cons.mpr ⟨d_178_31, List.forall_mem_cons.mpr ⟨d_178_32, List.forall_mem_cons.mpr ⟨d_178_33, List.forall_mem_cons.mpr ⟨⟨d_178_34, ⟨mo_174, mi_174, se_174, pm_205⟩⟩, List.forall_mem_cons.mpr ⟨d_178_37, List.forall_mem_cons.mpr ⟨d_178_39, List.forall_mem_cons.mpr ⟨d_178_40, List.forall_mem_cons.mpr ⟨d_178_41, List.forall_mem_cons.mpr ⟨d_178_42, List.forall_mem_cons.mpr ⟨d_178_43, List.forall_mem_cons.mpr ⟨⟨d_178_44, ⟨mo_174, mi_174, se_174, pm_205⟩⟩, List.forall_mem_cons.mpr ⟨d_178_47, List.forall_mem_cons.mpr ⟨d_178_49, List.forall_mem_cons.mpr ⟨d_178_50, List.forall_mem_cons.mpr ⟨d_178_51, List.forall_mem_cons.mpr ⟨⟨d_178_52, ⟨mo_175, mi_175, se_175, pm_207⟩⟩, List.forall_mem_cons.mpr ⟨d_178_55, List.forall_mem_cons.mpr ⟨d_178_56, List.forall_mem_cons.mpr ⟨d_178_57, List.forall_mem_cons.mpr ⟨⟨d_178_58, ⟨mo_175, mi_175, se_175, pm_207⟩⟩, List.forall_mem_cons.mpr ⟨d_178_61, List.forall_mem_cons.mpr ⟨d_178_62, List.forall_mem_cons.mpr ⟨d_178_63, List.forall_mem_cons.mpr ⟨⟨d_178_65, ⟨mo_175, mi_175, se_175, pm_207⟩⟩, List.forall_mem_cons.mpr ⟨d_178_68, List.forall_mem_cons.mpr ⟨d_178_69, List.forall_mem_cons.mpr ⟨d_178_70, List.forall_mem_cons.mpr ⟨d_178_72, List.forall_mem_cons.mpr ⟨d_178_73, List.forall_mem_cons.mpr ⟨d_178_74, List.forall_mem_cons.mpr ⟨⟨d_178_76, ⟨mo_175, mi_175, se_175, pm_207⟩⟩, List.forall_mem_cons.mpr ⟨d_178_79, List.forall_mem_cons.mpr ⟨d_178_80, List.forall_mem_cons.mpr ⟨d_178_81, List.forall_mem_cons.mpr ⟨⟨d_178_83, ⟨mo_175, mi_175, se_175, pm_207⟩⟩, List.forall_mem_cons.mpr ⟨d_178_86, List.forall_mem_cons.mpr ⟨d_178_87, List.forall_mem_cons.mpr ⟨d_178_88, List.forall_mem_cons.mpr ⟨⟨d_178_90, ⟨mo_175, mi_175, se_175, pm_207⟩⟩, List.forall_mem_cons.mpr ⟨d_178_93, List.forall_mem_cons.mpr ⟨d_178_94, List.forall_mem_cons.mpr ⟨d_178_95, List.forall_mem_cons.mpr ⟨d_178_97, List.forall_mem_cons.mpr ⟨d_178_99, List.forall_mem_cons.mpr ⟨⟨d_178_101, (by decide)⟩, List.forall_mem_cons.mpr ⟨d_178_104, List.forall_mem_cons.mpr ⟨⟨d_178_105, (by decide)⟩, List.forall_mem_cons.mpr ⟨d_178_108, List.forall_mem_cons.mpr ⟨d_178_109, List.forall_mem_cons.mpr ⟨d_178_111, List.forall_mem_cons.mpr ⟨d_178_112, List.forall_mem_cons.mpr ⟨⟨d_178_114, (by decide)⟩, List.forall_mem_cons.mpr ⟨d_178_117, List.forall_mem_cons.mpr ⟨d_178_119, List.forall_mem_cons.mpr ⟨d_178_120, List.forall_mem_cons.mpr ⟨d_178_122, List.forall_mem_cons.mpr ⟨d_178_123, List.forall_mem_cons.mpr ⟨d_178_124, List.forall_mem_cons.mpr ⟨d_178_126, List.forall_mem_cons.mpr ⟨⟨d_178_127, (by decide)⟩, List.forall_mem_cons.mpr ⟨d_178_130, List.forall_mem_cons.mpr ⟨d_178_131, List.forall_mem_cons.mpr ⟨d_178_132, List.forall_mem_cons.mpr ⟨d_178_134, List.forall_mem_cons.mpr ⟨d_178_135, List.forall_mem_cons.mpr ⟨⟨d_178_136, pf_290⟩, List.forall_mem_cons.mpr ⟨d_178_139, List.forall_mem_cons.mpr ⟨⟨d_178_141, (by decide)⟩, List.forall_mem_cons.mpr ⟨d_178_144, List.forall_mem_cons.mpr ⟨d_178_145, List.forall_mem_cons.mpr ⟨d_178_146, List.forall_mem_cons.mpr ⟨⟨d_178_147, ⟨mo_179, mi_179, se_179, pm_208⟩⟩, List.forall_mem_cons.mpr ⟨⟨d_178_150, (by decide)⟩, List.forall_mem_cons.mpr ⟨d_178_153, List.forall_mem_cons.mpr ⟨d_178_154, List.forall_mem_cons.mpr ⟨d_178_155, List.forall_mem_cons.mpr ⟨⟨d_178_156, ⟨mo_179, mi_179, se_179, pm_208⟩⟩, List.forall_mem_cons.mpr ⟨d_178_159, fun _ h => absurd h List.not_mem_nil⟩⟩⟩⟩⟩⟩⟩⟩⟩⟩⟩⟩⟩⟩⟩⟩⟩⟩⟩⟩⟩⟩⟩⟩⟩⟩⟩⟩⟩⟩⟩⟩⟩⟩⟩⟩⟩⟩⟩⟩⟩⟩⟩⟩⟩⟩⟩⟩⟩⟩⟩⟩⟩⟩⟩⟩⟩⟩⟩⟩⟩⟩⟩⟩⟩⟩⟩⟩⟩⟩⟩⟩⟩⟩⟩⟩⟩⟩⟩⟩⟩⟩⟩⟩⟩⟩⟩⟩⟩⟩⟩⟩⟩⟩⟩⟩⟩⟩⟩⟩
theorem d_179_0 : decode prog_12_method_49_code 0 = .ok (.aload_n 0, 1) := by decide +kernel
theorem d_179_1 : decode prog_12_method_49_code 1 = .ok (.iload_n 1, 1) := by decide +kernel
theorem d_179_2 : decode prog_12_method_49_code 2 = .ok (.iconst 0, 1) := by decide +kernel
theorem d_179_3 : decode prog_12_method_49_code 3 = .ok (.invokevirtual 334, 3) := by decide +kernel
theorem d_179_6 : decode prog_12_method_49_code 6 = .ok (.istore_n 3, 1) := by decide +kernel
theorem d_179_7 : decode prog_12_method_49_code 7 = .ok (.aload_n 0, 1) := by decide +kernel
theorem d_179_8 : decode prog_12_method_49_code 8 = .ok (.getfield 331, 3) := by decide +kernel
theorem d_179_11 : decode prog_12_method_49_code 11 = .ok (.istore 4, 2) := by decide +kernel
theorem d_179_13 : decode prog_12_method_49_code 13 = .ok (.aload_n 0, 1) := by decide +kernel
theorem d_179_14 : decode prog_12_method_49_code 14 = .ok (.iload_n 2, 1) := by decide +kernel
theorem d_179_15 : decode prog_12_method_49_code 15 = .ok (.iconst 1, 1) := by decide +kernel
theorem d_179_16 : decode prog_12_method_49_code 16 = .ok (.iload_n 1, 1) := by decide +kernel
theorem d_179_17 : decode prog_12_method_49_code 17 = .ok (.ishl, 1) := by decide +kernel
theorem d_179_18 : decode prog_12_method_49_code 18 = .ok (.invokevirtual 334, 3) := by decide +kernel
theorem d_179_21 : decode prog_12_method_49_code 21 = .ok (.istore 5, 2) := by decide +kernel
theorem d_179_23 : decode prog_12_method_49_code 23 = .ok (.aload_n 0, 1) := by decide +kernel
theorem d_179_24 : decode prog_12_method_49_code 24 = .ok (.getfield 331, 3) := by decide +kernel
theorem d_179_27 : decode prog_12_method_49_code 27 = .ok (.istore 6, 2) := by decide +kernel
theorem d_179_29 : decode prog_12_method_49_code 29 = .ok (.aload_n 0, 1) := by decide +kernel
theorem d_179_30 : decode prog_12_method_49_code 30 = .ok (.iconst 0, 1) := by decide +kernel
theorem d_179_31 : decode prog_12_method_49_code 31 = .ok (.putfield 242, 3) := by decide +kernel
theorem d_179_34 : decode prog_12_method_49_code 34 = .ok (.iconst 0, 1) := by decide +kernel
theorem d_179_35 : decode prog_12_method_49_code 35 = .ok (.istore 7, 2) := by decide +kernel
theorem d_179_37 : decode prog_12_method_49_code 37 = .ok (.iload 7, 2) := by decide +kernel
theorem d_179_39 : decode prog_12_method_49_code 39 = .ok (.aload_n 0, 1) := by decide +kernel
theorem d_179_40 : decode prog_12_method_49_code 40 = .ok (.getfield 53, 3) := by decide +kernel
theorem d_179_43 : decode prog_12_method_49_code 43 = .ok (.iload_n 1, 1) := by decide +kernel
theorem d_179_44 : decode prog_12_method_49_code 44 = .ok (.iaload, 1) := by decide +kernel
theorem d_179_45 : decode prog_12_method_49_code 45 = .ok (.if_icmp .ge 182, 3) := by decide +kernel
theorem d_179_48 : decode prog_12_method_49_code 48 = .ok (.aload_n 0, 1) := by decide +kernel
theorem d_179_49 : decode prog_12_method_49_code 49 = .ok (.iload_n 1, 1) := by decide +kernel
theorem d_179_50 : decode prog_12_method_49_code 50 = .ok (.iload 7, 2) := by decide +kernel
theorem d_179_52 : decode prog_12_method_49_code 52 = .ok (.iload 4, 2) := by decide +kernel
theorem d_179_54 : decode prog_12_method_49_code 54 = .ok (.iload_n 3, 1) := by decide +kernel
theorem d_179_55 : decode prog_12_method_49_code 55 = .ok (.iconst 0, 1) := by decide +kernel
theorem d_179_56 : decode prog_12_method_49_code 56 = .ok (.invokevirtual 337, 3) := by decide +kernel
theorem d_179_59 : decode prog_12_method_49_code 59 = .ok (.ifCond .eq 162, 3) := by decide +kernel
theorem d_179_62 : decode prog_12_method_49_code 62 = .ok (.aload_n 0, 1) := by decide +kernel
theorem d_179_63 : decode prog_12_method_49_code 63 = .ok (.dup, 1) := by decide +kernel
theorem d_179_64 : decode prog_12_method_49_code 64 = .ok (.getfield 242, 3) := by decide +kernel
theorem d_179_67 : decode prog_12_method_49_code 67 = .ok (.iconst 1, 1) := by decide +kernel
theorem d_179_68 : decode prog_12_method_49_code 68 = .ok (.iadd, 1) := by decide +kernel
theorem d_179_69 : decode prog_12_method_49_code 69 = .ok (.putfield 242, 3) := by decide +kernel
theorem d_179_72 : decode prog_12_method_49_code 72 = .ok (.aload_n 0, 1) := by decide +kernel
theorem d_179_73 : decode prog_12_method_49_code 73 = .ok (.getfield 64, 3) := by decide +kernel
theorem d_179_76 : decode prog_12_method_49_code 76 = .ok (.iload_n 1, 1) := by decide +kernel
theorem d_179_77 : decode prog_12_method_49_code 77 = .ok (.iload 7, 2) := by decide +kernel
theorem d_179_79 : decode prog_12_method_49_code 79 = .ok (.iastore, 1) := by decide +kernel
theorem d_179_80 : decode prog_12_method_49_code 80 = .ok (.iconst 1, 1) := by decide +kernel
theorem d_179_81 : decode prog_12_method_49_code 81 = .ok (.istore 8, 2) := by decide +kernel
theorem d_179_83 : decode prog_12_method_49_code 83 = .ok (.iconst 0, 1) := by decide +kernel
theorem d_179_84 : decode prog_12_method_49_code 84 = .ok (.istore 9, 2) := by decide +kernel
theorem d_179_86 : decode prog_12_method_49_code 86 = .ok (.iload 9, 2) := by decide +kernel
theorem d_179_88 : decode prog_12_method_49_code 88 = .ok (.aload_n 0, 1) := by decide +kernel
theorem d_179_89 : decode prog_12_method_49_code 89 = .ok (.getfield 179, 3) := by decide +kernel
theorem d_179_92 : decode prog_12_method_49_code 92 = .ok (.if_icmp .ge 70, 3) := by decide +kernel
theorem d_179_95 : decode prog_12_method_49_code 95 = .ok (.iload 8, 2) := by decide +kernel
theorem d_179_97 : decode prog_12_method_49_code 97 = .ok (.ifCond .eq 56, 3) := by decide +kernel
theorem d_179_100 : decode prog_12_method_49_code 100 = .ok (.aload_n 0, 1) := by decide +kernel
theorem d_179_101 : decode prog_12_method_49_code 101 = .ok (.aload_n 0, 1) := by decide +kernel
theorem d_179_102 : decode prog_12_method_49_code 102 = .ok (.getfield 41, 3) := by decide +kernel
theorem d_179_105 : decode prog_12_method_49_code 105 = .ok (.iload 9, 2) := by decide +kernel
theorem d_179_107 : decode prog_12_method_49_code 107 = .ok (.iaload, 1) := by decide +kernel
theorem d_179_108 : decode prog_12_method_49_code 108 = .ok (.aload_n 0, 1) := by decide +kernel
theorem d_179_109 : decode prog_12_method_49_code 109 = .ok (.getfield 44, 3) := by decide +kernel
theorem d_179_112 : decode prog_12_method_49_code 112 = .ok (.iload 9, 2) := by decide +kernel
theorem d_179_114 : decode prog_12_method_49_code 114 = .ok (.iaload, 1) := by decide +kernel
theorem d_179_115 : decode prog_12_method_49_code 115 = .ok (.invokevirtual 323, 3) := by decide +kernel
theorem d_179_118 : decode prog_12_method_49_code 118 = .ok (.iload_n 2, 1) := by decide +kernel
theorem d_179_119 : decode prog_12_method_49_code 119 = .ok (.ishr, 1) := by decide +kernel
theorem d_179_120 : decode prog_12_method_49_code 120 = .ok (.iconst 1, 1) := by decide +kernel
theorem d_179_121 : decode prog_12_method_49_code 121 = .ok (.iand, 1) := by decide +kernel
theorem d_179_122 : decode prog_12_method_49_code 122 = .ok (.iconst 1, 1) := by decide +kernel
theorem d_179_123 : decode prog_12_method_49_code 123 = .ok (.if_icmp .eq 26, 3) := by decide +kernel
theorem d_179_126 : decode prog_12_method_49_code 126 = .ok (.aload_n 0, 1) := by decide +kernel
theorem d_179_127 : decode prog_12_method_49_code 127 = .ok (.aload_n 0, 1) := by decide +kernel
theorem d_179_128 : decode prog_12_method_49_code 128 = .ok (.getfield 41, 3) := by decide +kernel
theorem d_179_131 : decode prog_12_method_49_code 131 = .ok (.iload 9, 2) := by decide +kernel
theorem d_179_133 : decode prog_12_method_49_code 133 = .ok (.iaload, 1) := by decide +kernel
theorem d_179_134 : decode prog_12_method_49_code 134 = .ok (.aload_n 0, 1) := by decide +kernel
theorem d_179_135 : decode prog_12_method_49_code 135 = .ok (.getfield 44, 3) := by decide +kernel
theorem d_179_138 : decode prog_12_method_49_code 138 = .ok (.iload 9, 2) := by decide +kernel
theorem d_179_140 : decode prog_12_method_49_code 140 = .ok (.iaload, 1) := by decide +kernel
theorem d_179_141 : decode prog_12_method_49_code 141 = .ok (.invokevirtual 311, 3) := by decide +kernel
theorem d_179_144 : decode prog_12_method_49_code 144 = .ok (.lconst 1, 1) := by decide +kernel
theorem d_179_145 : decode prog_12_method_49_code 145 = .ok (.lcmp, 1) := by decide +kernel
theorem d_179_146 : decode prog_12_method_49_code 146 = .ok (.ifCond .ne 7, 3) := by decide +kernel
theorem d_179_149 : decode prog_12_method_49_code 149 = .ok (.iconst 1, 1) := by decide +kernel
theorem d_179_150 : decode prog_12_method_49_code 150 = .ok (.goto 4, 3) := by decide +kernel
theorem d_179_153 : decode prog_12_method_49_code 153 = .ok (.iconst 0, 1) := by decide +kernel
theorem d_179_154 : decode prog_12_method_49_code 154 = .ok (.istore 8, 2) := by decide +kernel
theorem d_179_156 : decode prog_12_method_49_code 156 = .ok (.iinc 9 1, 3) := by decide +kernel
theorem d_179_159 : decode prog_12_method_49_code 159 = .ok (.goto (-73), 3) := by decide +kernel
theorem d_179_162 : decode prog_12_method_49_code 162 = .ok (.iconst 0, 1) := by decide +kernel
theorem d_179_163 : decode prog_12_method_49_code 163 = .ok (.istore 9, 2) := by decide +kernel
theorem d_179_165 : decode prog_12_method_49_code 165 = .ok (.iload 9, 2) := by decide +kernel
theorem d_179_167 : decode prog_12_method_49_code 167 = .ok (.aload_n 0, 1) := by decide +kernel
theorem d_179_168 : decode prog_12_method_49_code 168 = .ok (.getfield 53, 3) := by decide +kernel
theorem d_179_171 : decode prog_12_method_49_code 171 = .ok (.iload_n 2, 1) := by decide +kernel
theorem d_179_172 : decode prog_12_method_49_code 172 = .ok (.iaload, 1) := by decide +kernel
theorem d_179_173 : decode prog_12_method_49_code 173 = .ok (.if_icmp .ge 48, 3) := by decide +kernel
theorem d_179_176 : decode prog_12_method_49_code 176 = .ok (.iload 8, 2) := by decide +kernel
theorem d_179_178 : decode prog_12_method_49_code 178 = .ok (.ifCond .eq 43, 3) := by decide +kernel
theorem d_179_181 : decode prog_12_method_49_code 181 = .ok (.aload_n 0, 1) := by decide +kernel
theorem d_179_182 : decode prog_12_method_49_code 182 = .ok (.aload_n 0, 1) := by decide +kernel
theorem d_179_183 : decode prog_12_method_49_code 183 = .ok (.iload_n 2, 1) := by decide +kernel
theorem d_179_184 : decode prog_12_method_49_code 184 = .ok (.iload 9, 2) := by decide +kernel
theorem d_179_186 : decode prog_12_method_49_code 186 = .ok (.iload 6, 2) := by decide +kernel
theorem d_179_188 : decode prog_12_method_49_code 188 = .ok (.iload 5, 2) := by decide +kernel
theorem d_179_190 : decode prog_12_method_49_code 190 = .ok (.iconst 1, 1) := by decide +kernel
theorem d_179_191 : decode prog_12_method_49_code 191 = .ok (.iload_n 1, 1) := by decide +kernel
theorem d_179_192 : decode prog_12_method_49_code 192 = .ok (.ishl, 1) := by decide +kernel
theorem d_179_193 : decode prog_12_method_49_code 193 = .ok (.invokevirtual 337, 3) := by decide +kernel
theorem d_179_196 : decode prog_12_method_49_code 196 = .ok (.ifCond .eq 12, 3) := by decide +kernel
theorem d_179_199 : decode prog_12_method_49_code 199 = .ok (.aload_n 0, 1) := by decide +kernel
theorem d_179_200 : decode prog_12_method_49_code 200 = .ok (.getfield 242, 3) := by decide +kernel
theorem d_179_203 : decode prog_12_method_49_code 203 = .ok (.iconst 1, 1) := by decide +kernel
theorem d_179_204 : decode prog_12_method_49_code 204 = .ok (.iadd, 1) := by decide +kernel
theorem d_179_205 : decode prog_12_method_49_code 205 = .ok (.goto 7, 3) := by decide +kernel
theorem d_179_208 : decode prog_12_method_49_code 208 = .ok (.aload_n 0, 1) := by decide +kernel
theorem d_179_209 : decode prog_12_method_49_code 209 = .ok (.getfield 242, 3) := by decide +kernel
theorem d_179_212 : decode prog_12_method_49_code 212 = .ok (.putfield 242, 3) := by decide +kernel
theorem d_179_215 : decode prog_12_method_49_code 215 = .ok (.iinc 9 1, 3) := by decide +kernel
theorem d_179_218 : decode prog_12_method_49_code 218 = .ok (.goto (-53), 3) := by decide +kernel
theorem d_179_221 : decode prog_12_method_49_code 221 = .ok (.iinc 7 1, 3) := by decide +kernel
theorem d_179_224 : decode prog_12_method_49_code 224 = .ok (.goto (-187), 3) := by decide +kernel
theorem d_179_227 : decode prog_12_method_49_code 227 = .ok (.return_, 1) := by decide +kernel
set_option maxRecDepth 20000 in
theorem ok_179 : ∀ r ∈ tb_179, sm_ok 179 r := List.forall_mem_cons.mpr ⟨d_179_0, List.forall_mem_cons.mpr ⟨d_179_1, List.forall_mem_cons.mpr ⟨d_179_2, List.forall_mem_cons.mpr ⟨⟨d_179_3, ⟨mo_174, mi_174, se_174, pm_205⟩⟩, List.forall_mem_cons.mpr ⟨d_179_6, List.forall_mem_cons.mpr ⟨d_179_7, List.forall_mem_cons.mpr ⟨⟨d_179_8, Or.inl pf_304⟩, List.forall_mem_cons.mpr ⟨d_179_11, List.forall_mem_cons.mpr ⟨d_179_13, List.forall_mem_cons.mpr ⟨d_179_14, List.forall_mem_cons.mpr ⟨d_179_15, List.forall_mem_cons.mpr ⟨d_179_16, List.forall_mem_cons.mpr ⟨d_179_17, List.forall_mem_cons.mpr ⟨⟨d_179_18, ⟨mo_174, mi_174, se_174, pm_205⟩⟩, List.forall_mem_cons.mpr ⟨d_179_21, List.forall_mem_cons.mpr ⟨d_179_23, List.forall_mem_cons.mpr ⟨⟨d_179_24, Or.inl pf_304⟩, List.forall_mem_cons.mpr ⟨d_179_27, List.forall_mem_cons.mpr ⟨d_179_29, List.forall_mem_cons.mpr ⟨d_179_30, List.forall_mem_cons.mpr ⟨⟨d_179_31, pf_289⟩, List.forall_mem_cons.mpr ⟨d_179_34, List.forall_mem_cons.mpr ⟨d_179_35, List.forall_mem_cons.mpr ⟨d_179_37, List.forall_mem_cons.mpr ⟨d_179_39, List.forall_mem_cons.mpr ⟨⟨d_179_40, Or.inl pf_305⟩, List.forall_mem_cons.mpr ⟨d_179_43, List.forall_mem_cons.mpr ⟨d_179_44, List.forall_mem_cons.mpr ⟨⟨d_179_45, (by decide)⟩, List.forall_mem_cons.mpr ⟨d_179_48, List.forall_mem_cons.mpr ⟨d_179_49, List.forall_mem_cons.mpr ⟨d_179_50, List.forall_mem_cons.mpr ⟨d_179_52, List.forall_mem_cons.mpr ⟨d_179_54, List.forall_mem_cons.mpr ⟨d_179_55, List.forall_mem_cons.mpr ⟨⟨d_179_56, ⟨mo_176, mi_176, se_176, pm_206⟩⟩, List.forall_mem_cons.mpr ⟨⟨d_179_59, (by decide)⟩, List.forall_mem_cons.mpr ⟨d_179_62, List.forall_mem_cons.mpr ⟨d_179_63, List.forall_mem_cons.mpr ⟨⟨d_179_64, Or.inl pf_307⟩, List.forall_mem_cons.mpr ⟨d_179_67, List.forall_mem_cons.mpr ⟨d_179_68, List.forall_mem_cons.mpr ⟨⟨d_179_69, pf_289⟩, List.forall_mem_cons.mpr ⟨d_179_72, List.forall_mem_cons.mpr ⟨⟨d_179_73, Or.inl pf_301⟩, List.forall_mem_cons.mpr ⟨d_179_76, List.forall_mem_cons.mpr ⟨d_179_77, List.forall_mem_cons.mpr ⟨d_179_79, List.forall_mem_cons.mpr ⟨d_179_80, List.forall_mem_cons.mpr ⟨d_179_81, List.forall_mem_cons.mpr ⟨d_179_83, List.forall_mem_cons.mpr ⟨d_179_84, List.forall_mem_cons.mpr ⟨d_179_86, List.forall_mem_cons.mpr ⟨d_179_88, List.forall_mem_cons.mpr ⟨⟨d_179_89, Or.inl pf_260⟩, List.forall_mem_cons.mpr ⟨⟨d_179_92, (by decide)⟩, List.forall_mem_cons.mpr ⟨d_179_95, List.forall_mem_cons.mpr ⟨⟨d_179_97, (by decide)⟩, List.forall_mem_cons.mpr ⟨d_179_100, List.forall_mem_cons.mpr ⟨d_179_101, List.forall_mem_cons.mpr ⟨⟨d_179_102, Or.inl pf_259⟩, List.forall_mem_cons.mpr ⟨d_179_105, List.forall_mem_cons.mpr ⟨d_179_107, List.forall_mem_cons.mpr ⟨d_179_108, List.forall_mem_cons.mpr ⟨⟨d_179_109, Or.inl pf_262⟩, List.forall_mem_cons.mpr ⟨d_179_112, List.forall_mem_cons.mpr ⟨d_179_114, List.forall_mem_cons.mpr ⟨⟨d_179_115, ⟨mo_170, mi_170, se_170, pm_203⟩⟩, List.forall_mem_cons.mpr ⟨d_179_118, List.forall_mem_cons.mpr ⟨d_179_119, List.forall_mem_cons.mpr ⟨d_179_120, List.forall_mem_cons.mpr ⟨d_179_121, List.forall_mem_cons.mpr ⟨d_179_122, List.forall_mem_cons.mpr ⟨⟨d_179_123, (by decide)⟩, List.forall_mem_cons.mpr ⟨d_179_126, List.forall_mem_cons.mpr ⟨d_179_127, List.forall_mem_cons.mpr ⟨⟨d_179_128, Or.inl pf_259⟩, List.forall_mem_cons.mpr ⟨d_179_131, List.forall_mem_cons.mpr ⟨d_179_133, List.forall_mem_cons.mpr ⟨d_179_134, List.forall_mem_cons.mpr ⟨⟨d_179_135, Or.inl pf_262⟩, List.forall_mem_cons.mpr ⟨d_179_138, List.forall_mem_cons.mpr ⟨d_179_140, List.forall_mem_cons.mpr ⟨⟨d_179_141, ⟨mo_167, mi_167, se_167, pm_200⟩⟩, List.forall_mem_cons.mpr ⟨d_179_144, List.forall_mem_cons.mpr ⟨d_179_145, List.forall_mem_cons.mpr ⟨⟨d_179_146, (by decide)⟩, List.forall_mem_cons.mpr ⟨d_179_149, List.forall_mem_cons.mpr ⟨⟨d_179_150, (by decide)⟩, List.forall_mem_cons.mpr ⟨d_179_153, List.forall_mem_cons.mpr ⟨d_179_154, List.forall_mem_cons.mpr ⟨d_179_156, List.forall_mem_cons.mpr ⟨⟨d_179_159, (by decide)⟩, List.forall_mem_cons.mpr ⟨d_179_162, List.forall_mem_cons.mpr ⟨d_179_163, List.forall_mem_cons.mpr ⟨d_179_165, List.forall_mem_cons.mpr ⟨d_179_167, List.forall_mem_cons.mpr ⟨⟨d_179_168, Or.inl pf_305⟩, List.forall_mem_cons.mpr ⟨d_179_171, List.forall_mem_cons.mpr ⟨d_179_172, List.forall_mem_cons.mpr ⟨⟨d_179_173, (by decide)⟩, List.forall_mem_cons.mpr ⟨d_179_176, List.forall_mem_cons.mpr ⟨⟨d_179_178, (by decide)⟩, List.forall_mem_cons.mpr ⟨d_179_181, List.forall_mem_cons.mpr ⟨d_179_182, List.forall_mem_cons.mpr ⟨d_179_183, List.forall_mem_cons.mpr ⟨d_179_184, List.forall_mem_cons.mpr ⟨d_179_186, List.forall_mem_cons.mpr ⟨d_179_188, List.forall_mem_cons.mpr ⟨d_179_190, List.forall_mem_cons.mpr ⟨d_179_191, List.forall_mem_cons.mpr ⟨d_179_192, List.forall_mem_cons.mpr ⟨⟨d_179_193, ⟨mo_176, mi_176, se_176, pm_206⟩⟩, List.forall_mem_cons.mpr ⟨⟨d_179_196, (by decide)⟩, List.forall_mem_cons.mpr ⟨d_179_199, List.forall_mem_cons.mpr ⟨⟨d_179_200, Or.inl pf_307⟩, List.forall_mem_cons.mpr ⟨d_179_203, List.forall_mem_cons.mpr ⟨d_179_204, List.forall_mem_cons.mpr ⟨⟨d_179_205, (by decide)⟩, List.forall_mem_cons.mpr ⟨d_179_208, List.forall_mem_cons.mpr ⟨⟨d_179_209, Or.inl pf_307⟩, List.forall_mem_cons.mpr ⟨⟨d_179_212, pf_289⟩, List.forall_mem_cons.mpr ⟨d_179_215, List.forall_mem_cons.mpr ⟨⟨d_179_218, (by decide)⟩, List.forall_mem_cons.mpr ⟨d_179_221, List.forall_mem_cons.mpr ⟨⟨d_179_224, (by decide)⟩, List.forall_mem_cons.mpr ⟨d_179_227, fun _ h => absurd h List.not_mem_nil⟩⟩⟩⟩⟩⟩⟩⟩⟩⟩⟩⟩⟩⟩⟩⟩⟩⟩⟩⟩⟩⟩⟩⟩⟩⟩⟩⟩⟩⟩⟩⟩⟩⟩⟩⟩⟩⟩⟩⟩⟩⟩⟩⟩⟩⟩⟩⟩⟩⟩⟩⟩⟩⟩⟩⟩⟩⟩⟩⟩⟩⟩⟩⟩⟩⟩⟩⟩⟩⟩⟩⟩⟩⟩⟩⟩⟩⟩⟩⟩⟩⟩⟩⟩⟩⟩⟩⟩⟩⟩⟩⟩⟩⟩⟩⟩⟩⟩⟩⟩⟩⟩⟩⟩⟩⟩⟩⟩⟩⟩⟩⟩⟩⟩⟩⟩⟩⟩⟩⟩⟩⟩⟩⟩⟩⟩⟩
theorem d_180_0 : decode prog_12_method_50_code 0 = .ok (.aload_n 0, 1) := by decide +kernel
theorem d_180_1 : decode prog_12_method_50_code 1 = .ok (.getfield 215, 3) := by decide +kernel
theorem d_180_4 : decode prog_12_method_50_code 4 = .ok (.aload_n 0, 1) := by decide +kernel
theorem d_180_5 : decode prog_12_method_50_code 5 = .ok (.getfield 50, 3) := by decide +kernel
theorem d_180_8 : decode prog_12_method_50_code 8 = .ok (.iload_n 1, 1) := by decide +kernel
theorem d_180_9 : decode prog_12_method_50_code 9 = .ok (.iaload, 1) := by decide +kernel
theorem d_180_10 : decode prog_12_method_50_code 10 = .ok (.if_icmp .eq 5, 3) := by decide +kernel
theorem d_180_13 : decode prog_12_method_50_code 13 = .ok (.iconst 3, 1) := by decide +kernel
theorem d_180_14 : decode prog_12_method_50_code 14 = .ok (.ireturn, 1) := by decide +kernel
theorem d_180_15 : decode prog_12_method_50_code 15 = .ok (.aload_n 0, 1) := by decide +kernel
theorem d_180_16 : decode prog_12_method_50_code 16 = .ok (.getfield 53, 3) := by decide +kernel
theorem d_180_19 : decode prog_12_method_50_code 19 = .ok (.iload_n 1, 1) := by decide +kernel
theorem d_180_20 : decode prog_12_method_50_code 20 = .ok (.iaload, 1) := by decide +kernel
theorem d_180_21 : decode prog_12_method_50_code 21 = .ok (.istore_n 2, 1) := by decide +kernel
theorem d_180_22 : decode prog_12_method_50_code 22 = .ok (.iconst 0, 1) := by decide +kernel
theorem d_180_23 : decode prog_12_method_50_code 23 = .ok (.istore_n 3, 1) := by decide +kernel
theorem d_180_24 : decode prog_12_method_50_code 24 = .ok (.iload_n 3, 1) := by decide +kernel
theorem d_180_25 : decode prog_12_method_50_code 25 = .ok (.aload_n 0, 1) := by decide +kernel
theorem d_180_26 : decode prog_12_method_50_code 26 = .ok (.getfield 215, 3) := by decide +kernel
theorem d_180_29 : decode prog_12_method_50_code 29 = .ok (.if_icmp .ge 31, 3) := by decide +kernel
theorem d_180_32 : decode prog_12_method_50_code 32 = .ok (.aload_n 0, 1) := by decide +kernel
theorem d_180_33 : decode prog_12_method_50_code 33 = .ok (.getfield 70, 3) := by decide +kernel
theorem d_180_36 : decode prog_12_method_50_code 36 = .ok (.iload_n 3, 1) := by decide +kernel
theorem d_180_37 : decode prog_12_method_50_code 37 = .ok (.aload_n 0, 1) := by decide +kernel
theorem d_180_38 : decode prog_12_method_50_code 38 = .ok (.aload_n 0, 1) := by decide +kernel
theorem d_180_39 : decode prog_12_method_50_code 39 = .ok (.getfield 35, 3) := by decide +kernel
theorem d_180_42 : decode prog_12_method_50_code 42 = .ok (.iload_n 3, 1) := by decide +kernel
theorem d_180_43 : decode prog_12_method_50_code 43 = .ok (.iaload, 1) := by decide +kernel
theorem d_180_44 : decode prog_12_method_50_code 44 = .ok (.aload_n 0, 1) := by decide +kernel
theorem d_180_45 : decode prog_12_method_50_code 45 = .ok (.getfield 38, 3) := by decide +kernel
theorem d_180_48 : decode prog_12_method_50_code 48 = .ok (.iload_n 3, 1) := by decide +kernel
theorem d_180_49 : decode prog_12_method_50_code 49 = .ok (.iaload, 1) := by decide +kernel
theorem d_180_50 : decode prog_12_method_50_code 50 = .ok (.invokevirtual 311, 3) := by decide +kernel
theorem d_180_53 : decode prog_12_method_50_code 53 = .ok (.lastore, 1) := by decide +kernel
theorem d_180_54 : decode prog_12_method_50_code 54 = .ok (.iinc 3 1, 3) := by decide +kernel
theorem d_180_57 : decode prog_12_method_50_code 57 = .ok (.goto (-33), 3) := by decide +kernel
theorem d_180_60 : decode prog_12_method_50_code 60 = .ok (.aload_n 0, 1) := by decide +kernel
theorem d_180_61 : decode prog_12_method_50_code 61 = .ok (.getfield 70, 3) := by decide +kernel
theorem d_180_64 : decode prog_12_method_50_code 64 = .ok (.iconst 0, 1) := by decide +kernel
theorem d_180_65 : decode prog_12_method_50_code 65 = .ok (.laload, 1) := by decide +kernel
theorem d_180_66 : decode prog_12_method_50_code 66 = .ok (.ldc2_w 305, 3) := by decide +kernel
theorem d_180_69 : decode prog_12_method_50_code 69 = .ok (.lcmp, 1) := by decide +kernel
theorem d_180_70 : decode prog_12_method_50_code 70 = .ok (.ifCond .ne 7, 3) := by decide +kernel
theorem d_180_73 : decode prog_12_method_50_code 73 = .ok (.iconst 1, 1) := by decide +kernel
theorem d_180_74 : decode prog_12_method_50_code 74 = .ok (.goto 4, 3) := by decide +kernel
theorem d_180_77 : decode prog_12_method_50_code 77 = .ok (.iconst 0, 1) := by decide +kernel
theorem d_180_78 : decode prog_12_method_50_code 78 = .ok (.istore_n 3, 1) := by decide +kernel
theorem d_180_79 : decode prog_12_method_50_code 79 = .ok (.iconst 0, 1) := by decide +kernel
theorem d_180_80 : decode prog_12_method_50_code 80 = .ok (.istore 4, 2) := by decide +kernel
theorem d_180_82 : decode prog_12_method_50_code 82 = .ok (.iload 4, 2) := by decide +kernel
theorem d_180_84 : decode prog_12_method_50_code 84 = .ok (.iload_n 2, 1) := by decide +kernel
theorem d_180_85 : decode prog_12_method_50_code 85 = .ok (.if_icmp .ge 43, 3) := by decide +kernel
theorem d_180_88 : decode prog_12_method_50_code 88 = .ok (.iload_n 3, 1) := by decide +kernel
theorem d_180_89 : decode prog_12_method_50_code 89 = .ok (.ifCond .ne 27, 3) := by decide +kernel
theorem d_180_92 : decode prog_12_method_50_code 92 = .ok (.aload_n 0, 1) := by decide +kernel
theorem d_180_93 : decode prog_12_method_50_code 93 = .ok (.getfield 56, 3) := by decide +kernel
theorem d_180_96 : decode prog_12_method_50_code 96 = .ok (.bipush 80, 2) := by decide +kernel
theorem d_180_98 : decode prog_12_method_50_code 98 = .ok (.iload_n 1, 1) := by decide +kernel
theorem d_180_99 : decode prog_12_method_50_code 99 = .ok (.imul, 1) := by decide +kernel
theorem d_180_100 : decode prog_12_method_50_code 100 = .ok (.iconst 4, 1) := by decide +kernel
theorem d_180_101 : decode prog_12_method_50_code 101 = .ok (.iload 4, 2) := by decide +kernel
theorem d_180_103 : decode prog_12_method_50_code 103 = .ok (.imul, 1) := by decide +kernel
theorem d_180_104 : decode prog_12_method_50_code 104 = .ok (.iadd, 1) := by decide +kernel
theorem d_180_105 : decode prog_12_method_50_code 105 = .ok (.laload, 1) := by decide +kernel
theorem d_180_106 : decode prog_12_method_50_code 106 = .ok (.aload_n 0, 1) := by decide +kernel
theorem d_180_107 : decode prog_12_method_50_code 107 = .ok (.getfield 70, 3) := by decide +kernel
theorem d_180_110 : decode prog_12_method_50_code 110 = .ok (.iconst 0, 1) := by decide +kernel
theorem d_180_111 : decode prog_12_method_50_code 111 = .ok (.laload, 1) := by decide +kernel
theorem d_180_112 : decode prog_12_method_50_code 112 = .ok (.lcmp, 1) := by decide +kernel
theorem d_180_113 : decode prog_12_method_50_code 113 = .ok (.ifCond .ne 7, 3) := by decide +kernel
theorem d_180_116 : decode prog_12_method_50_code 116 = .ok (.iconst 1, 1) := by decide +kernel
theorem d_180_117 : decode prog_12_method_50_code 117 = .ok (.goto 4, 3) := by decide +kernel
theorem d_180_120 : decode prog_12_method_50_code 120 = .ok (.iconst 0, 1) := by decide +kernel
theorem d_180_121 : decode prog_12_method_50_code 121 = .ok (.istore_n 3, 1) := by decide +kernel
theorem d_180_122 : decode prog_12_method_50_code 122 = .ok (.iinc 4 1, 3) := by decide +kernel
theorem d_180_125 : decode prog_12_method_50_code 125 = .ok (.goto (-43), 3) := by decide +kernel
theorem d_180_128 : decode prog_12_method_50_code 128 = .ok (.iload_n 3, 1) := by decide +kernel
theorem d_180_129 : decode prog_12_method_50_code 129 = .ok (.ifCond .eq 5, 3) := by decide +kernel
theorem d_180_132 : decode prog_12_method_50_code 132 = .ok (.iconst 4, 1) := by decide +kernel
theorem d_180_133 : decode prog_12_method_50_code 133 = .ok (.ireturn, 1) := by decide +kernel
theorem d_180_134 : decode prog_12_method_50_code 134 = .ok (.iload_n 2, 1) := by decide +kernel
theorem d_180_135 : decode prog_12_method_50_code 135 = .ok (.bipush 20, 2) := by decide +kernel
theorem d_180_137 : decode prog_12_method_50_code 137 = .ok (.if_icmp .ne 5, 3) := by decide +kernel
theorem d_180_140 : decode prog_12_method_50_code 140 = .ok (.iconst 5, 1) := by decide +kernel
theorem d_180_141 : decode prog_12_method_50_code 141 = .ok (.ireturn, 1) := by decide +kernel
theorem d_180_142 : decode prog_12_method_50_code 142 = .ok (.iconst 0, 1) := by decide +kernel
theorem d_180_143 : decode prog_12_method_50_code 143 = .ok (.istore 4, 2) := by decide +kernel
theorem d_180_145 : decode prog_12_method_50_code 145 = .ok (.iload 4, 2) := by decide +kernel
theorem d_180_147 : decode prog_12_method_50_code 147 = .ok (.aload_n 0, 1) := by decide +kernel
theorem d_180_148 : decode prog_12_method_50_code 148 = .ok (.getfield 215, 3) := by decide +kernel
theorem d_180_151 : decode prog_12_method_50_code 151 = .ok (.if_icmp .ge 32, 3) := by decide +kernel
theorem d_180_154 : decode prog_12_method_50_code 154 = .ok (.aload_n 0, 1) := by decide +kernel
theorem d_180_155 : decode prog_12_method_50_code 155 = .ok (.getfield 56, 3) := by decide +kernel
theorem d_180_158 : decode prog_12_method_50_code 158 = .ok (.bipush 80, 2) := by decide +kernel
theorem d_180_160 : decode prog_12_method_50_code 160 = .ok (.iload_n 1, 1) := by decide +kernel
theorem d_180_161 : decode prog_12_method_50_code 161 = .ok (.imul, 1) := by decide +kernel
theorem d_180_162 : decode prog_12_method_50_code 162 = .ok (.iconst 4, 1) := by decide +kernel
theorem d_180_163 : decode prog_12_method_50_code 163 = .ok (.iload_n 2, 1) := by decide +kernel
theorem d_180_164 : decode prog_12_method_50_code 164 = .ok (.imul, 1) := by decide +kernel
theorem d_180_165 : decode prog_12_method_50_code 165 = .ok (.iadd, 1) := by decide +kernel
theorem d_180_166 : decode prog_12_method_50_code 166 = .ok (.iload 4, 2) := by decide +kernel
theorem d_180_168 : decode prog_12_method_50_code 168 = .ok (.iadd, 1) := by decide +kernel
theorem d_180_169 : decode prog_12_method_50_code 169 = .ok (.aload_n 0, 1) := by decide +kernel
theorem d_180_170 : decode prog_12_method_50_code 170 = .ok (.getfield 70, 3) := by decide +kernel
theorem d_180_173 : decode prog_12_method_50_code 173 = .ok (.iload 4, 2) := by decide +kernel
theorem d_180_175 : decode prog_12_method_50_code 175 = .ok (.laload, 1) := by decide +kernel
theorem d_180_176 : decode prog_12_method_50_code 176 = .ok (.lastore, 1) := by decide +kernel
theorem d_180_177 : decode prog_12_method_50_code 177 = .ok (.iinc 4 1, 3) := by decide +kernel
theorem d_180_180 : decode prog_12_method_50_code 180 = .ok (.goto (-35), 3) := by decide +kernel
theorem d_180_183 : decode prog_12_method_50_code 183 = .ok (.aload_n 0, 1) := by decide +kernel
theorem d_180_184 : decode prog_12_method_50_code 184 = .ok (.getfield 53, 3) := by decide +kernel
theorem d_180_187 : decode prog_12_method_50_code 187 = .ok (.iload_n 1, 1) := by decide +kernel
theorem d_180_188 : decode prog_12_method_50_code 188 = .ok (.dup2, 1) := by decide +kernel
theorem d_180_189 : decode prog_12_method_50_code 189 = .ok (.iaload, 1) := by decide +kernel
theorem d_180_190 : decode prog_12_method_50_code 190 = .ok (.iconst 1, 1) := by decide +kernel
theorem d_180_191 : decode prog_12_method_50_code 191 = .ok (.iadd, 1) := by decide +kernel
theorem d_180_192 : decode prog_12_method_50_code 192 = .ok (.iastore, 1) := by decide +kernel
theorem d_180_193 : decode prog_12_method_50_code 193 = .ok (.aload_n 0, 1) := by decide +kernel
theorem d_180_194 : decode prog_12_method_50_code 194 = .ok (.iconst 1, 1) := by decide +kernel
theorem d_180_195 : decode prog_12_method_50_code 195 = .ok (.putfield 236, 3) := by decide +kernel
theorem d_180_198 : decode prog_12_method_50_code 198 = .ok (.iconst 0, 1) := by decide +kernel
theorem d_180_199 : decode prog_12_method_50_code 199 = .ok (.ireturn, 1) := by decide +kernel
set_option maxRecDepth 20000 in
theorem ok_180 : ∀ r ∈ tb_180, sm_ok 180 r := List.forall_mem_cons.mpr ⟨d_180_0, List.forall_mem_cons.mpr ⟨⟨d_180_1, Or.inl pf_275⟩, List.forall_mem_cons.mpr ⟨d_180_4, List.forall_mem_cons.mpr ⟨⟨d_180_5, Or.inl pf_295⟩, List.forall_mem_cons.mpr ⟨d_180_8, List.forall_mem_cons.mpr ⟨d_180_9, List.forall_mem_cons.mpr ⟨⟨d_180_10, (by decide)⟩, List.forall_mem_cons.mpr ⟨d_180_13, List.forall_mem_cons.mpr ⟨d_180_14, List.forall_mem_cons.mpr ⟨d_180_15, List.forall_mem_cons.mpr ⟨⟨d_180_16, Or.inl pf_305⟩, List.forall_mem_cons.mpr ⟨d_180_19, List.forall_mem_cons.mpr ⟨d_180_20, List.forall_mem_cons.mpr ⟨d_180_21, List.forall_mem_cons.mpr ⟨d_180_22, List.forall_mem_cons.mpr ⟨d_180_23, List.forall_mem_cons.mpr ⟨d_180_24, List.forall_mem_cons.mpr ⟨d_180_25, List.forall_mem_cons.mpr ⟨⟨d_180_26, Or.inl pf_275⟩, List.forall_mem_cons.mpr ⟨⟨d_180_29, (by decide)⟩, List.forall_mem_cons.mpr ⟨d_180_32, List.forall_mem_cons.mpr ⟨⟨d_180_33, Or.inl pf_308⟩, List.forall_mem_cons.mpr ⟨d_180_36, List.forall_mem_cons.mpr ⟨d_180_37, List.forall_mem_cons.mpr ⟨d_180_38, List.forall_mem_cons.mpr ⟨⟨d_180_39, Or.inl pf_276⟩, List.forall_mem_cons.mpr ⟨d_180_42, List.forall_mem_cons.mpr ⟨d_180_43, List.forall_mem_cons.mpr ⟨d_180_44, List.forall_mem_cons.mpr ⟨⟨d_180_45, Or.inl pf_277⟩, List.forall_mem_cons.mpr ⟨d_180_48, List.forall_mem_cons.mpr ⟨d_180_49, List.forall_mem_cons.mpr ⟨⟨d_180_50, ⟨mo_167, mi_167, se_167, pm_200⟩⟩, List.forall_mem_cons.mpr ⟨d_180_53, List.forall_mem_cons.mpr ⟨d_180_54, List.forall_mem_cons.mpr ⟨⟨d_180_57, (by decide)⟩, List.forall_mem_cons.mpr ⟨d_180_60, List.forall_mem_cons.mpr ⟨⟨d_180_61, Or.inl pf_308⟩, List.forall_mem_cons.mpr ⟨d_180_64, List.forall_mem_cons.mpr ⟨d_180_65, List.forall_mem_cons.mpr ⟨⟨d_180_66, (fun _ h => Option.some.inj h ▸ wd_447)⟩, List.forall_mem_cons.mpr ⟨d_180_69, List.forall_mem_cons.mpr ⟨⟨d_180_70, (by decide)⟩, List.forall_mem_cons.mpr ⟨d_180_73, List.forall_mem_cons.mpr ⟨⟨d_180_74, (by decide)⟩, List.forall_mem_cons.mpr ⟨d_180_77, List.forall_mem_cons.mpr ⟨d_180_78, List.forall_mem_cons.mpr ⟨d_180_79, List.forall_mem_cons.mpr ⟨d_180_80, List.forall_mem_cons.mpr ⟨d_180_82, List.forall_mem_cons.mpr ⟨d_180_84, List.forall_mem_cons.mpr ⟨⟨d_180_85, (by decide)⟩, List.forall_mem_cons.mpr ⟨d_180_88, List.forall_mem_cons.mpr ⟨⟨d_180_89, (by decide)⟩, List.forall_mem_cons.mpr ⟨d_180_92, List.forall_mem_cons.mpr ⟨⟨d_180_93, Or.inl pf_300⟩, List.forall_mem_cons.mpr ⟨d_180_96, List.forall_mem_cons.mpr ⟨d_180_98, List.forall_mem_cons.mpr ⟨d_180_99, List.forall_mem_cons.mpr ⟨d_180_100, List.forall_mem_cons.mpr ⟨d_180_101, List.forall_mem_cons.mpr ⟨d_180_103, List.forall_mem_cons.mpr ⟨d_180_104, List.forall_mem_cons.mpr ⟨d_180_105, List.forall_mem_cons.mpr ⟨d_180_106, List.forall_mem_cons.mpr ⟨⟨d_180_107, Or.inl pf_308⟩, List.forall_mem_cons.mpr ⟨d_180_110, List.forall_mem_cons.mpr ⟨d_180_111, List.forall_mem_cons.mpr ⟨d_180_112, List.forall_mem_cons.mpr ⟨⟨d_180_113, (by decide)⟩, List.forall_mem_cons.mpr ⟨d_180_116, List.forall_mem_cons.mpr ⟨⟨d_180_117, (by decide)⟩, List.forall_mem_cons.mpr ⟨d_180_120, List.forall_mem_cons.mpr ⟨d_180_121, List.forall_mem_cons.mpr ⟨d_180_122, List.forall_mem_cons.mpr ⟨⟨d_180_125, (by decide)⟩, List.forall_mem_cons.mpr ⟨d_180_128, List.forall_mem_cons.mpr ⟨⟨d_180_129, (by decide)⟩, List.forall_mem_cons.mpr ⟨d_180_132, List.forall_mem_cons.mpr ⟨d_180_133, List.forall_mem_cons.mpr ⟨d_180_134, List.forall_mem_cons.mpr ⟨d_180_135, List.forall_mem_cons.mpr ⟨⟨d_180_137, (by decide)⟩, List.forall_mem_cons.mpr ⟨d_180_140, List.forall_mem_cons.mpr ⟨d_180_141, List.forall_mem_cons.mpr ⟨d_180_142, List.forall_mem_cons.mpr ⟨d_180_143, List.forall_mem_cons.mpr ⟨d_180_145, List.forall_mem_cons.mpr ⟨d_180_147, List.forall_mem_cons.mpr ⟨⟨d_180_148, Or.inl pf_275⟩, List.forall_mem_cons.mpr ⟨⟨d_180_151, (by decide)⟩, List.forall_mem_cons.mpr ⟨d_180_154, List.forall_mem_cons.mpr ⟨⟨d_180_155, Or.inl pf_300⟩, List.forall_mem_cons.mpr ⟨d_180_158, List.forall_mem_cons.mpr ⟨d_180_160, List.forall_mem_cons.mpr ⟨d_180_161, List.forall_mem_cons.mpr ⟨d_180_162, List.forall_mem_cons.mpr ⟨d_180_163, List.forall_mem_cons.mpr ⟨d_180_164, List.forall_mem_cons.mpr ⟨d_180_165, List.forall_mem_cons.mpr ⟨d_180_166, List.forall_mem_cons.mpr ⟨d_180_168, List.forall_mem_cons.mpr ⟨d_180_169, List.forall_mem_cons.mpr ⟨⟨d_180_170, Or.inl pf_308⟩, List.forall_mem_cons.mpr ⟨d_180_173, List.forall_mem_cons.mpr ⟨d_180_175, List.forall_mem_cons.mpr ⟨d_180_176, List.forall_mem_cons.mpr ⟨d_180_177, List.forall_mem_cons.mpr ⟨⟨d_180_180, (by decide)⟩, List.forall_mem_cons.mpr ⟨d_180_183, List.forall_mem_cons.mpr ⟨⟨d_180_184, Or.inl pf_305⟩, List.forall_mem_cons.mpr ⟨d_180_187, List.forall_mem_cons.mpr ⟨d_180_188, List.forall_mem_cons.mpr ⟨d_180_189, List.forall_mem_cons.mpr ⟨d_180_190, List.forall_mem_cons.mpr ⟨d_180_191, List.forall_mem_cons.mpr ⟨d_180_192, List.forall_mem_cons.mpr ⟨d_180_193, List.forall_mem_cons.mpr ⟨d_180_194, List.forall_mem_cons.mpr ⟨⟨d_180_195, pf_287⟩, List.forall_mem_cons.mpr ⟨d_180_198, List.forall_mem_cons.mpr ⟨d_180_199, fun _ h => absurd h List.not_mem_nil⟩⟩⟩⟩⟩⟩⟩⟩⟩⟩⟩⟩⟩⟩⟩⟩⟩⟩⟩⟩⟩⟩⟩⟩⟩⟩⟩⟩⟩⟩⟩⟩⟩⟩⟩⟩⟩⟩⟩⟩⟩⟩⟩⟩⟩⟩⟩⟩⟩⟩⟩⟩⟩⟩⟩⟩⟩⟩⟩⟩⟩⟩⟩⟩⟩⟩⟩⟩⟩⟩⟩⟩⟩⟩⟩⟩⟩⟩⟩⟩⟩⟩⟩⟩⟩⟩⟩⟩⟩⟩⟩⟩⟩⟩⟩⟩⟩⟩⟩⟩⟩⟩⟩⟩⟩⟩⟩⟩⟩⟩⟩⟩⟩⟩⟩⟩⟩⟩⟩⟩⟩⟩
theorem d_181_0 : decode prog_12_method_51_code 0 = .ok (.iconst 0, 1) := by decide +kernel
theorem d_181_1 : decode prog_12_method_51_code 1 = .ok (.istore_n 2, 1) := by decide +kernel
theorem d_181_2 : decode prog_12_method_51_code 2 = .ok (.iload_n 2, 1) := by decide +kernel
theorem d_181_3 : decode prog_12_method_51_code 3 = .ok (.aload_n 0, 1) := by decide +kernel
theorem d_181_4 : decode prog_12_method_51_code 4 = .ok (.getfield 53, 3) := by decide +kernel
theorem d_181_7 : decode prog_12_method_51_code 7 = .ok (.iload_n 1, 1) := by decide +kernel
theorem d_181_8 : decode prog_12_method_51_code 8 = .ok (.iaload, 1) := by decide +kernel
theorem d_181_9 : decode prog_12_method_51_code 9 = .ok (.if_icmp .ge 90, 3) := by decide +kernel
theorem d_181_12 : decode prog_12_method_51_code 12 = .ok (.aload_n 0, 1) := by decide +kernel
theorem d_181_13 : decode prog_12_method_51_code 13 = .ok (.getfield 64, 3) := by decide +kernel
theorem d_181_16 : decode prog_12_method_51_code 16 = .ok (.iload_n 1, 1) := by decide +kernel
theorem d_181_17 : decode prog_12_method_51_code 17 = .ok (.iload_n 2, 1) := by decide +kernel
theorem d_181_18 : decode prog_12_method_51_code 18 = .ok (.iastore, 1) := by decide +kernel
theorem d_181_19 : decode prog_12_method_51_code 19 = .ok (.aload_n 0, 1) := by decide +kernel
theorem d_181_20 : decode prog_12_method_51_code 20 = .ok (.getfield 73, 3) := by decide +kernel
theorem d_181_23 : decode prog_12_method_51_code 23 = .ok (.iload_n 2, 1) := by decide +kernel
theorem d_181_24 : decode prog_12_method_51_code 24 = .ok (.aload_n 0, 1) := by decide +kernel
theorem d_181_25 : decode prog_12_method_51_code 25 = .ok (.invokevirtual 347, 3) := by decide +kernel
theorem d_181_28 : decode prog_12_method_51_code 28 = .ok (.bastore, 1) := by decide +kernel
theorem d_181_29 : decode prog_12_method_51_code 29 = .ok (.aload_n 0, 1) := by decide +kernel
theorem d_181_30 : decode prog_12_method_51_code 30 = .ok (.getfield 70, 3) := by decide +kernel
theorem d_181_33 : decode prog_12_method_51_code 33 = .ok (.iload_n 2, 1) := by decide +kernel
theorem d_181_34 : decode prog_12_method_51_code 34 = .ok (.aload_n 0, 1) := by decide +kernel
theorem d_181_35 : decode prog_12_method_51_code 35 = .ok (.getfield 56, 3) := by decide +kernel
theorem d_181_38 : decode prog_12_method_51_code 38 = .ok (.bipush 80, 2) := by decide +kernel
theorem d_181_40 : decode prog_12_method_51_code 40 = .ok (.iload_n 1, 1) := by decide +kernel
theorem d_181_41 : decode prog_12_method_51_code 41 = .ok (.imul, 1) := by decide +kernel
theorem d_181_42 : decode prog_12_method_51_code 42 = .ok (.iconst 4, 1) := by decide +kernel
theorem d_181_43 : decode prog_12_method_51_code 43 = .ok (.iload_n 2, 1) := by decide +kernel
theorem d_181_44 : decode prog_12_method_51_code 44 = .ok (.imul, 1) := by decide +kernel
theorem d_181_45 : decode prog_12_method_51_code 45 = .ok (.iadd, 1) := by decide +kernel
theorem d_181_46 : decode prog_12_method_51_code 46 = .ok (.aload_n 0, 1) := by decide +kernel
theorem d_181_47 : decode prog_12_method_51_code 47 = .ok (.getfield 230, 3) := by decide +kernel
theorem d_181_50 : decode prog_12_method_51_code 50 = .ok (.iconst 4, 1) := by decide +kernel
theorem d_181_51 : decode prog_12_method_51_code 51 = .ok (.irem, 1) := by decide +kernel
theorem d_181_52 : decode prog_12_method_51_code 52 = .ok (.iadd, 1) := by decide +kernel
theorem d_181_53 : decode prog_12_method_51_code 53 = .ok (.laload, 1) := by decide +kernel
theorem d_181_54 : decode prog_12_method_51_code 54 = .ok (.lastore, 1) := by decide +kernel
theorem d_181_55 : decode prog_12_method_51_code 55 = .ok (.aload_n 0, 1) := by decide +kernel
theorem d_181_56 : decode prog_12_method_51_code 56 = .ok (.getfield 73, 3) := by decide +kernel
theorem d_181_59 : decode prog_12_method_51_code 59 = .ok (.iload_n 2, 1) := by decide +kernel
theorem d_181_60 : decode prog_12_method_51_code 60 = .ok (.baload, 1) := by decide +kernel
theorem d_181_61 : decode prog_12_method_51_code 61 = .ok (.ifCond .eq 32, 3) := by decide +kernel
theorem d_181_64 : decode prog_12_method_51_code 64 = .ok (.aload_n 0, 1) := by decide +kernel
theorem d_181_65 : decode prog_12_method_51_code 65 = .ok (.getfield 215, 3) := by decide +kernel
theorem d_181_68 : decode prog_12_method_51_code 68 = .ok (.ifCond .le 25, 3) := by decide +kernel
theorem d_181_71 : decode prog_12_method_51_code 71 = .ok (.aload_n 0, 1) := by decide +kernel
theorem d_181_72 : decode prog_12_method_51_code 72 = .ok (.getfield 70, 3) := by decide +kernel
theorem d_181_75 : decode prog_12_method_51_code 75 = .ok (.iload_n 2, 1) := by decide +kernel
theorem d_181_76 : decode prog_12_method_51_code 76 = .ok (.aload_n 0, 1) := by decide +kernel
theorem d_181_77 : decode prog_12_method_51_code 77 = .ok (.aload_n 0, 1) := by decide +kernel
theorem d_181_78 : decode prog_12_method_51_code 78 = .ok (.getfield 35, 3) := by decide +kernel
theorem d_181_81 : decode prog_12_method_51_code 81 = .ok (.iconst 0, 1) := by decide +kernel
theorem d_181_82 : decode prog_12_method_51_code 82 = .ok (.iaload, 1) := by decide +kernel
theorem d_181_83 : decode prog_12_method_51_code 83 = .ok (.aload_n 0, 1) := by decide +kernel
theorem d_181_84 : decode prog_12_method_51_code 84 = .ok (.getfield 38, 3) := by decide +kernel
theorem d_181_87 : decode prog_12_method_51_code 87 = .ok (.iconst 0, 1) := by decide +kernel
theorem d_181_88 : decode prog_12_method_51_code 88 = .ok (.iaload, 1) := by decide +kernel
theorem d_181_89 : decode prog_12_method_51_code 89 = .ok (.invokevirtual 311, 3) := by decide +kernel
theorem d_181_92 : decode prog_12_method_51_code 92 = .ok (.lastore, 1) := by decide +kernel
theorem d_181_93 : decode prog_12_method_51_code 93 = .ok (.iinc 2 1, 3) := by decide +kernel
theorem d_181_96 : decode prog_12_method_51_code 96 = .ok (.goto (-94), 3) := by decide +kernel
theorem d_181_99 : decode prog_12_method_51_code 99 = .ok (.return_, 1) := by decide +kernel
set_option maxRecDepth 20000 in
theorem ok_181 : ∀ r ∈ tb_181, sm_ok 181 r := List.forall_mem_cons.mpr ⟨d_181_0, List.forall_mem_cons.mpr ⟨d_181_1, List.forall_mem_cons.mpr ⟨d_181_2, List.forall_mem_cons.mpr ⟨d_181_3, List.forall_mem_cons.mpr ⟨⟨d_181_4, Or.inl pf_305⟩, List.forall_mem_cons.mpr ⟨d_181_7, List.forall_mem_cons.mpr ⟨d_181_8, List.forall_mem_cons.mpr ⟨⟨d_181_9, (by decide)⟩, List.forall_mem_cons.mpr ⟨d_181_12, List.forall_mem_cons.mpr ⟨⟨d_181_13, Or.inl pf_301⟩, List.forall_mem_cons.mpr ⟨d_181_16, List.forall_mem_cons.mpr ⟨d_181_17, List.forall_mem_cons.mpr ⟨d_181_18, List.forall_mem_cons.mpr ⟨d_181_19, List.forall_mem_cons.mpr ⟨⟨d_181_20, Or.inl pf_309⟩, List.forall_mem_cons.mpr ⟨d_181_23, List.forall_mem_cons.mpr ⟨d_181_24, List.forall_mem_cons.mpr ⟨⟨d_181_25, ⟨mo_169, mi_169, se_169, pm_209⟩⟩, List.forall_mem_cons.mpr ⟨d_181_28, List.forall_mem_cons.mpr ⟨d_181_29, List.forall_mem_cons.mpr ⟨⟨d_181_30, Or.inl pf_308⟩, List.forall_mem_cons.mpr ⟨d_181_33, List.forall_mem_cons.mpr ⟨d_181_34, List.forall_mem_cons.mpr ⟨⟨d_181_35, Or.inl pf_300⟩, List.forall_mem_cons.mpr ⟨d_181_38, List.forall_mem_cons.mpr ⟨d_181_40, List.forall_mem_cons.mpr ⟨d_181_41, List.forall_mem_cons.mpr ⟨d_181_42, List.forall_mem_cons.mpr ⟨d_181_43, List.forall_mem_cons.mpr ⟨d_181_44, List.forall_mem_cons.mpr ⟨d_181_45, List.forall_mem_cons.mpr ⟨d_181_46, List.forall_mem_cons.mpr ⟨⟨d_181_47, Or.inl pf_296⟩, List.forall_mem_cons.mpr ⟨d_181_50, List.forall_mem_cons.mpr ⟨d_181_51, List.forall_mem_cons.mpr ⟨d_181_52, List.forall_mem_cons.mpr ⟨d_181_53, List.forall_mem_cons.mpr ⟨d_181_54, List.forall_mem_cons.mpr ⟨d_181_55, List.forall_mem_cons.mpr ⟨⟨d_181_56, Or.inl pf_309⟩, List.forall_mem_cons.mpr ⟨d_181_59, List.forall_mem_cons.mpr ⟨d_181_60, List.forall_mem_cons.mpr ⟨⟨d_181_61, (by decide)⟩, List.forall_mem_cons.mpr ⟨d_181_64, List.forall_mem_cons.mpr ⟨⟨d_181_65, Or.inl pf_275⟩, List.forall_mem_cons.mpr ⟨⟨d_181_68, (by decide)⟩, List.forall_mem_cons.mpr ⟨d_181_71, List.forall_mem_cons.mpr ⟨⟨d_181_72, Or.inl pf_308⟩, List.forall_mem_cons.mpr ⟨d_181_75, List.forall_mem_cons.mpr ⟨d_181_76, List.forall_mem_cons.mpr ⟨d_181_77, List.forall_mem_cons.mpr ⟨⟨d_181_78, Or.inl pf_276⟩, List.forall_mem_cons.mpr ⟨d_181_81, List.forall_mem_cons.mpr ⟨d_181_82, List.forall_mem_cons.mpr ⟨d_181_83, List.forall_mem_cons.mpr ⟨⟨d_181_84, Or.inl pf_277⟩, List.forall_mem_cons.mpr ⟨d_181_87, List.forall_mem_cons.mpr ⟨d_181_88, List.forall_mem_cons.mpr ⟨⟨d_181_89, ⟨mo_167, mi_167, se_167, pm_200⟩⟩, List.forall_mem_cons.mpr ⟨d_181_92, List.forall_mem_cons.mpr ⟨d_181_93, List.forall_mem_cons.mpr ⟨⟨d_181_96, (by decide)⟩, List.forall_mem_cons.mpr ⟨d_181_99, fun _ h => absurd h List.not_mem_nil⟩⟩⟩⟩⟩⟩⟩⟩⟩⟩⟩⟩⟩⟩⟩⟩⟩⟩⟩⟩⟩⟩⟩⟩⟩⟩⟩⟩⟩⟩⟩⟩⟩⟩⟩⟩⟩⟩⟩⟩⟩⟩⟩⟩⟩⟩⟩⟩⟩⟩⟩⟩⟩⟩⟩⟩⟩⟩⟩⟩⟩⟩⟩
