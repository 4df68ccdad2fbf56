/-! DECODE ROWS, by program -/
theorem d_209_0 : decode prog_19_method_11_code 0 = .ok (.iload_n 0, 1) := by decide +kernel
theorem d_209_1 : decode prog_19_method_11_code 1 = .ok (.ifCond .lt 8, 3) := by decide +kernel
theorem d_209_4 : decode prog_19_method_11_code 4 = .ok (.iload_n 0, 1) := by decide +kernel
theorem d_209_5 : decode prog_19_method_11_code 5 = .ok (.iload_n 1, 1) := by decide +kernel
theorem d_209_6 : decode prog_19_method_11_code 6 = .ok (.if_icmp .lt 10, 3) := by decide +kernel
theorem d_209_9 : decode prog_19_method_11_code 9 = .ok (.aload_n 2, 1) := by decide +kernel
theorem d_209_10 : decode prog_19_method_11_code 10 = .ok (.iload_n 0, 1) := by decide +kernel
theorem d_209_11 : decode prog_19_method_11_code 11 = .ok (.iload_n 1, 1) := by decide +kernel
theorem d_209_16 : decode prog_19_method_11_code 16 = .ok (.iload_n 0, 1) := by decide +kernel
theorem d_209_17 : decode prog_19_method_11_code 17 = .ok (.ireturn, 1) := by decide +kernel
set_option maxRecDepth 20000 in
theorem ok_209 : ∀ r ∈ tb_209, sm_ok 209 r := List.forall_mem_cons.mpr ⟨d_209_0, List.forall_mem_cons.mpr ⟨⟨d_209_1, (by decide)⟩, List.forall_mem_cons.mpr ⟨d_209_4, List.forall_mem_cons.mpr ⟨d_209_5, List.forall_mem_cons.mpr ⟨⟨d_209_6, (by decide)⟩, List.forall_mem_cons.mpr ⟨d_209_9, List.forall_mem_cons.mpr ⟨d_209_10, List.forall_mem_cons.mpr ⟨d_209_11, List.forall_mem_cons.mpr ⟨d_209_16, List.forall_mem_cons.mpr ⟨d_209_17, fun _ h => absurd h List.not_mem_nil⟩⟩⟩⟩⟩⟩⟩⟩⟩⟩
