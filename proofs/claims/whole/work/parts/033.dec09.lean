/-! DECODE ROWS, by program -/
theorem d_211_0 : decode prog_16_method_22_code 0 = .ok (.iload_n 1, 1) := by decide +kernel
theorem d_211_1 : decode prog_16_method_22_code 1 = .ok (.invokestatic 88, 3) := by decide +kernel
theorem d_211_4 : decode prog_16_method_22_code 4 = .ok (.ifCond .ne 5, 3) := by decide +kernel
theorem d_211_7 : decode prog_16_method_22_code 7 = .ok (.iconst (-1), 1) := by decide +kernel
theorem d_211_8 : decode prog_16_method_22_code 8 = .ok (.ireturn, 1) := by decide +kernel
theorem d_211_9 : decode prog_16_method_22_code 9 = .ok (.iload_n 2, 1) := by decide +kernel
theorem d_211_10 : decode prog_16_method_22_code 10 = .ok (.iconst 0, 1) := by decide +kernel
theorem d_211_11 : decode prog_16_method_22_code 11 = .ok (.invokestatic 92, 3) := by decide +kernel
theorem d_211_14 : decode prog_16_method_22_code 14 = .ok (.istore_n 2, 1) := by decide +kernel
theorem d_211_15 : decode prog_16_method_22_code 15 = .ok (.iload_n 3, 1) := by decide +kernel
theorem d_211_16 : decode prog_16_method_22_code 16 = .ok (.aload_n 0, 1) := by decide +kernel
theorem d_211_17 : decode prog_16_method_22_code 17 = .ok (.arraylength, 1) := by decide +kernel
theorem d_211_18 : decode prog_16_method_22_code 18 = .ok (.invokestatic 38, 3) := by decide +kernel
theorem d_211_21 : decode prog_16_method_22_code 21 = .ok (.istore_n 3, 1) := by decide +kernel
theorem d_211_22 : decode prog_16_method_22_code 22 = .ok (.iload_n 2, 1) := by decide +kernel
theorem d_211_23 : decode prog_16_method_22_code 23 = .ok (.iload_n 3, 1) := by decide +kernel
theorem d_211_24 : decode prog_16_method_22_code 24 = .ok (.if_icmp .lt 5, 3) := by decide +kernel
theorem d_211_27 : decode prog_16_method_22_code 27 = .ok (.iconst (-1), 1) := by decide +kernel
theorem d_211_28 : decode prog_16_method_22_code 28 = .ok (.ireturn, 1) := by decide +kernel
theorem d_211_29 : decode prog_16_method_22_code 29 = .ok (.aload_n 0, 1) := by decide +kernel
theorem d_211_30 : decode prog_16_method_22_code 30 = .ok (.iload_n 1, 1) := by decide +kernel
theorem d_211_31 : decode prog_16_method_22_code 31 = .ok (.iload_n 2, 1) := by decide +kernel
theorem d_211_32 : decode prog_16_method_22_code 32 = .ok (.iload_n 3, 1) := by decide +kernel
theorem d_211_33 : decode prog_16_method_22_code 33 = .ok (.invokestatic 95, 3) := by decide +kernel
theorem d_211_36 : decode prog_16_method_22_code 36 = .ok (.ireturn, 1) := by decide +kernel
set_option maxRecDepth 20000 in
theorem ok_211 : ∀ r ∈ tb_211, sm_ok 211 r := List.forall_mem_cons.mpr ⟨d_211_0, List.forall_mem_cons.mpr ⟨⟨d_211_1, (Or.inl ⟨(by decide), mo_209, ms_209, pm_226⟩)⟩, List.forall_mem_cons.mpr ⟨⟨d_211_4, (by decide)⟩, List.forall_mem_cons.mpr ⟨d_211_7, List.forall_mem_cons.mpr ⟨d_211_8, List.forall_mem_cons.mpr ⟨d_211_9, List.forall_mem_cons.mpr ⟨d_211_10, List.forall_mem_cons.mpr ⟨⟨d_211_11, (Or.inl ⟨(by decide), mo_198, ms_198, pm_227⟩)⟩, List.forall_mem_cons.mpr ⟨d_211_14, List.forall_mem_cons.mpr ⟨d_211_15, List.forall_mem_cons.mpr ⟨d_211_16, List.forall_mem_cons.mpr ⟨d_211_17, List.forall_mem_cons.mpr ⟨⟨d_211_18, (Or.inl ⟨(by decide), mo_200, ms_200, pm_228⟩)⟩, List.forall_mem_cons.mpr ⟨d_211_21, List.forall_mem_cons.mpr ⟨d_211_22, List.forall_mem_cons.mpr ⟨d_211_23, List.forall_mem_cons.mpr ⟨⟨d_211_24, (by decide)⟩, List.forall_mem_cons.mpr ⟨d_211_27, List.forall_mem_cons.mpr ⟨d_211_28, List.forall_mem_cons.mpr ⟨d_211_29, List.forall_mem_cons.mpr ⟨d_211_30, List.forall_mem_cons.mpr ⟨d_211_31, List.forall_mem_cons.mpr ⟨d_211_32, List.forall_mem_cons.mpr ⟨⟨d_211_33, (Or.inl ⟨(by decide), mo_212, ms_212, pm_229⟩)⟩, List.forall_mem_cons.mpr ⟨d_211_36, fun _ h => absurd h List.not_mem_nil⟩⟩⟩⟩⟩⟩⟩⟩⟩⟩⟩⟩⟩⟩⟩⟩⟩⟩⟩⟩⟩⟩⟩⟩⟩
theorem d_212_0 : decode prog_16_method_23_code 0 = .ok (.iload_n 1, 1) := by decide +kernel
theorem d_212_1 : decode prog_16_method_23_code 1 = .ok (.i2b, 1) := by decide +kernel
theorem d_212_2 : decode prog_16_method_23_code 2 = .ok (.istore 4, 2) := by decide +kernel
theorem d_212_4 : decode prog_16_method_23_code 4 = .ok (.iload_n 2, 1) := by decide +kernel
theorem d_212_5 : decode prog_16_method_23_code 5 = .ok (.istore 5, 2) := by decide +kernel
theorem d_212_7 : decode prog_16_method_23_code 7 = .ok (.iload 5, 2) := by decide +kernel
theorem d_212_9 : decode prog_16_method_23_code 9 = .ok (.iload_n 3, 1) := by decide +kernel
theorem d_212_10 : decode prog_16_method_23_code 10 = .ok (.if_icmp .ge 21, 3) := by decide +kernel
theorem d_212_13 : decode prog_16_method_23_code 13 = .ok (.aload_n 0, 1) := by decide +kernel
theorem d_212_14 : decode prog_16_method_23_code 14 = .ok (.iload 5, 2) := by decide +kernel
theorem d_212_16 : decode prog_16_method_23_code 16 = .ok (.baload, 1) := by decide +kernel
theorem d_212_17 : decode prog_16_method_23_code 17 = .ok (.iload 4, 2) := by decide +kernel
theorem d_212_19 : decode prog_16_method_23_code 19 = .ok (.if_icmp .ne 6, 3) := by decide +kernel
theorem d_212_22 : decode prog_16_method_23_code 22 = .ok (.iload 5, 2) := by decide +kernel
theorem d_212_24 : decode prog_16_method_23_code 24 = .ok (.ireturn, 1) := by decide +kernel
theorem d_212_25 : decode prog_16_method_23_code 25 = .ok (.iinc 5 1, 3) := by decide +kernel
theorem d_212_28 : decode prog_16_method_23_code 28 = .ok (.goto (-21), 3) := by decide +kernel
theorem d_212_31 : decode prog_16_method_23_code 31 = .ok (.iconst (-1), 1) := by decide +kernel
theorem d_212_32 : decode prog_16_method_23_code 32 = .ok (.ireturn, 1) := by decide +kernel
set_option maxRecDepth 20000 in
theorem ok_212 : ∀ r ∈ tb_212, sm_ok 212 r := List.forall_mem_cons.mpr ⟨d_212_0, List.forall_mem_cons.mpr ⟨d_212_1, List.forall_mem_cons.mpr ⟨d_212_2, List.forall_mem_cons.mpr ⟨d_212_4, List.forall_mem_cons.mpr ⟨d_212_5, List.forall_mem_cons.mpr ⟨d_212_7, List.forall_mem_cons.mpr ⟨d_212_9, List.forall_mem_cons.mpr ⟨⟨d_212_10, (by decide)⟩, List.forall_mem_cons.mpr ⟨d_212_13, List.forall_mem_cons.mpr ⟨d_212_14, List.forall_mem_cons.mpr ⟨d_212_16, List.forall_mem_cons.mpr ⟨d_212_17, List.forall_mem_cons.mpr ⟨⟨d_212_19, (by decide)⟩, List.forall_mem_cons.mpr ⟨d_212_22, List.forall_mem_cons.mpr ⟨d_212_24, List.forall_mem_cons.mpr ⟨d_212_25, List.forall_mem_cons.mpr ⟨⟨d_212_28, (by decide)⟩, List.forall_mem_cons.mpr ⟨d_212_31, List.forall_mem_cons.mpr ⟨d_212_32, fun _ h => absurd h List.not_mem_nil⟩⟩⟩⟩⟩⟩⟩⟩⟩⟩⟩⟩⟩⟩⟩⟩⟩⟩⟩
theorem d_213_0 : decode prog_19_method_11_code 0 = .ok (.iload_n 0, 1) := by decide +kernel
theorem d_213_1 : decode prog_19_method_11_code 1 = .ok (.ifCond .lt 8, 3) := by decide +kernel
theorem d_213_4 : decode prog_19_method_11_code 4 = .ok (.iload_n 0, 1) := by decide +kernel
theorem d_213_5 : decode prog_19_method_11_code 5 = .ok (.iload_n 1, 1) := by decide +kernel
theorem d_213_6 : decode prog_19_method_11_code 6 = .ok (.if_icmp .lt 10, 3) := by decide +kernel
theorem d_213_9 : decode prog_19_method_11_code 9 = .ok (.aload_n 2, 1) := by decide +kernel
theorem d_213_10 : decode prog_19_method_11_code 10 = .ok (.iload_n 0, 1) := by decide +kernel
theorem d_213_11 : decode prog_19_method_11_code 11 = .ok (.iload_n 1, 1) := by decide +kernel
theorem d_213_16 : decode prog_19_method_11_code 16 = .ok (.iload_n 0, 1) := by decide +kernel
theorem d_213_17 : decode prog_19_method_11_code 17 = .ok (.ireturn, 1) := by decide +kernel
set_option maxRecDepth 20000 in
theorem ok_213 : ∀ r ∈ tb_213, sm_ok 213 r := List.forall_mem_cons.mpr ⟨d_213_0, List.forall_mem_cons.mpr ⟨⟨d_213_1, (by decide)⟩, List.forall_mem_cons.mpr ⟨d_213_4, List.forall_mem_cons.mpr ⟨d_213_5, List.forall_mem_cons.mpr ⟨⟨d_213_6, (by decide)⟩, List.forall_mem_cons.mpr ⟨d_213_9, List.forall_mem_cons.mpr ⟨d_213_10, List.forall_mem_cons.mpr ⟨d_213_11, List.forall_mem_cons.mpr ⟨d_213_16, List.forall_mem_cons.mpr ⟨d_213_17, fun _ h => absurd h List.not_mem_nil⟩⟩⟩⟩⟩⟩⟩⟩⟩⟩
