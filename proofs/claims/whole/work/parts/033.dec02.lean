/-! DECODE ROWS, by program -/
theorem d_58_0 : decode prog_8_method_1_code 0 = .ok (.aload_n 0, 1) := by decide +kernel
theorem d_58_1 : decode prog_8_method_1_code 1 = .ok (.invokespecial 3, 3) := by decide +kernel
theorem d_58_4 : decode prog_8_method_1_code 4 = .ok (.aload_n 0, 1) := by decide +kernel
theorem d_58_5 : decode prog_8_method_1_code 5 = .ok (.bipush 80, 2) := by decide +kernel
theorem d_58_7 : decode prog_8_method_1_code 7 = .ok (.newarray .int, 2) := by decide +kernel
theorem d_58_9 : decode prog_8_method_1_code 9 = .ok (.putfield 9, 3) := by decide +kernel
theorem d_58_12 : decode prog_8_method_1_code 12 = .ok (.aload_n 0, 1) := by decide +kernel
theorem d_58_13 : decode prog_8_method_1_code 13 = .ok (.bipush 80, 2) := by decide +kernel
theorem d_58_15 : decode prog_8_method_1_code 15 = .ok (.newarray .int, 2) := by decide +kernel
theorem d_58_17 : decode prog_8_method_1_code 17 = .ok (.putfield 15, 3) := by decide +kernel
theorem d_58_20 : decode prog_8_method_1_code 20 = .ok (.aload_n 0, 1) := by decide +kernel
theorem d_58_21 : decode prog_8_method_1_code 21 = .ok (.bipush 80, 2) := by decide +kernel
theorem d_58_23 : decode prog_8_method_1_code 23 = .ok (.newarray .int, 2) := by decide +kernel
theorem d_58_25 : decode prog_8_method_1_code 25 = .ok (.putfield 18, 3) := by decide +kernel
theorem d_58_28 : decode prog_8_method_1_code 28 = .ok (.aload_n 0, 1) := by decide +kernel
theorem d_58_29 : decode prog_8_method_1_code 29 = .ok (.bipush 80, 2) := by decide +kernel
theorem d_58_31 : decode prog_8_method_1_code 31 = .ok (.newarray .int, 2) := by decide +kernel
theorem d_58_33 : decode prog_8_method_1_code 33 = .ok (.putfield 21, 3) := by decide +kernel
theorem d_58_36 : decode prog_8_method_1_code 36 = .ok (.return_, 1) := by decide +kernel
set_option maxRecDepth 20000 in
theorem ok_58 : ∀ r ∈ tb_58, sm_ok 58 r := List.forall_mem_cons.mpr ⟨d_58_0, List.forall_mem_cons.mpr ⟨⟨d_58_1, (Or.inl ⟨rfl, wd_166, wd_34, wd_35⟩)⟩, List.forall_mem_cons.mpr ⟨d_58_4, List.forall_mem_cons.mpr ⟨d_58_5, List.forall_mem_cons.mpr ⟨⟨d_58_7, ⟨wd_133, Or.inl ⟨rfl, rfl⟩⟩⟩, List.forall_mem_cons.mpr ⟨⟨d_58_9, pf_67 rfl⟩, List.forall_mem_cons.mpr ⟨d_58_12, List.forall_mem_cons.mpr ⟨d_58_13, List.forall_mem_cons.mpr ⟨⟨d_58_15, ⟨wd_133, Or.inl ⟨rfl, rfl⟩⟩⟩, List.forall_mem_cons.mpr ⟨⟨d_58_17, pf_68 rfl⟩, List.forall_mem_cons.mpr ⟨d_58_20, List.forall_mem_cons.mpr ⟨d_58_21, List.forall_mem_cons.mpr ⟨⟨d_58_23, ⟨wd_133, Or.inl ⟨rfl, rfl⟩⟩⟩, List.forall_mem_cons.mpr ⟨⟨d_58_25, pf_69 rfl⟩, List.forall_mem_cons.mpr ⟨d_58_28, List.forall_mem_cons.mpr ⟨d_58_29, List.forall_mem_cons.mpr ⟨⟨d_58_31, ⟨wd_133, Or.inl ⟨rfl, rfl⟩⟩⟩, List.forall_mem_cons.mpr ⟨⟨d_58_33, pf_70 rfl⟩, List.forall_mem_cons.mpr ⟨d_58_36, fun _ h => absurd h List.not_mem_nil⟩⟩⟩⟩⟩⟩⟩⟩⟩⟩⟩⟩⟩⟩⟩⟩⟩⟩⟩
theorem d_59_0 : decode prog_8_method_2_code 0 = .ok (.aload_n 0, 1) := by decide +kernel
theorem d_59_1 : decode prog_8_method_2_code 1 = .ok (.iconst 0, 1) := by decide +kernel
theorem d_59_2 : decode prog_8_method_2_code 2 = .ok (.putfield 26, 3) := by decide +kernel
theorem d_59_5 : decode prog_8_method_2_code 5 = .ok (.aload_n 0, 1) := by decide +kernel
theorem d_59_6 : decode prog_8_method_2_code 6 = .ok (.iconst 0, 1) := by decide +kernel
theorem d_59_7 : decode prog_8_method_2_code 7 = .ok (.putfield 30, 3) := by decide +kernel
theorem d_59_10 : decode prog_8_method_2_code 10 = .ok (.aload_n 0, 1) := by decide +kernel
theorem d_59_11 : decode prog_8_method_2_code 11 = .ok (.iconst (-1), 1) := by decide +kernel
theorem d_59_12 : decode prog_8_method_2_code 12 = .ok (.putfield 33, 3) := by decide +kernel
theorem d_59_15 : decode prog_8_method_2_code 15 = .ok (.aload_n 0, 1) := by decide +kernel
theorem d_59_16 : decode prog_8_method_2_code 16 = .ok (.iconst 0, 1) := by decide +kernel
theorem d_59_17 : decode prog_8_method_2_code 17 = .ok (.putfield 36, 3) := by decide +kernel
theorem d_59_20 : decode prog_8_method_2_code 20 = .ok (.aload_n 0, 1) := by decide +kernel
theorem d_59_21 : decode prog_8_method_2_code 21 = .ok (.iconst 0, 1) := by decide +kernel
theorem d_59_22 : decode prog_8_method_2_code 22 = .ok (.putfield 39, 3) := by decide +kernel
theorem d_59_25 : decode prog_8_method_2_code 25 = .ok (.aload_n 0, 1) := by decide +kernel
theorem d_59_26 : decode prog_8_method_2_code 26 = .ok (.iconst 0, 1) := by decide +kernel
theorem d_59_27 : decode prog_8_method_2_code 27 = .ok (.putfield 42, 3) := by decide +kernel
theorem d_59_30 : decode prog_8_method_2_code 30 = .ok (.aload_n 0, 1) := by decide +kernel
theorem d_59_31 : decode prog_8_method_2_code 31 = .ok (.iconst 0, 1) := by decide +kernel
theorem d_59_32 : decode prog_8_method_2_code 32 = .ok (.putfield 45, 3) := by decide +kernel
theorem d_59_35 : decode prog_8_method_2_code 35 = .ok (.aload_n 0, 1) := by decide +kernel
theorem d_59_36 : decode prog_8_method_2_code 36 = .ok (.iconst 0, 1) := by decide +kernel
theorem d_59_37 : decode prog_8_method_2_code 37 = .ok (.putfield 48, 3) := by decide +kernel
theorem d_59_40 : decode prog_8_method_2_code 40 = .ok (.aload_n 0, 1) := by decide +kernel
theorem d_59_41 : decode prog_8_method_2_code 41 = .ok (.iconst 0, 1) := by decide +kernel
theorem d_59_42 : decode prog_8_method_2_code 42 = .ok (.putfield 51, 3) := by decide +kernel
theorem d_59_45 : decode prog_8_method_2_code 45 = .ok (.aload_n 0, 1) := by decide +kernel
theorem d_59_46 : decode prog_8_method_2_code 46 = .ok (.iconst 0, 1) := by decide +kernel
theorem d_59_47 : decode prog_8_method_2_code 47 = .ok (.putfield 54, 3) := by decide +kernel
theorem d_59_50 : decode prog_8_method_2_code 50 = .ok (.aload_n 0, 1) := by decide +kernel
theorem d_59_51 : decode prog_8_method_2_code 51 = .ok (.iconst 0, 1) := by decide +kernel
theorem d_59_52 : decode prog_8_method_2_code 52 = .ok (.putfield 57, 3) := by decide +kernel
theorem d_59_55 : decode prog_8_method_2_code 55 = .ok (.aload_n 0, 1) := by decide +kernel
theorem d_59_56 : decode prog_8_method_2_code 56 = .ok (.ldc 63, 2) := by decide +kernel
theorem d_59_58 : decode prog_8_method_2_code 58 = .ok (.putfield 64, 3) := by decide +kernel
theorem d_59_61 : decode prog_8_method_2_code 61 = .ok (.aload_n 0, 1) := by decide +kernel
theorem d_59_62 : decode prog_8_method_2_code 62 = .ok (.iconst 0, 1) := by decide +kernel
theorem d_59_63 : decode prog_8_method_2_code 63 = .ok (.putfield 67, 3) := by decide +kernel
theorem d_59_66 : decode prog_8_method_2_code 66 = .ok (.return_, 1) := by decide +kernel
set_option maxRecDepth 20000 in
theorem ok_59 : ∀ r ∈ tb_59, sm_ok 59 r := List.forall_mem_cons.mpr ⟨d_59_0, List.forall_mem_cons.mpr ⟨d_59_1, List.forall_mem_cons.mpr ⟨⟨d_59_2, pf_71⟩, List.forall_mem_cons.mpr ⟨d_59_5, List.forall_mem_cons.mpr ⟨d_59_6, List.forall_mem_cons.mpr ⟨⟨d_59_7, pf_72⟩, List.forall_mem_cons.mpr ⟨d_59_10, List.forall_mem_cons.mpr ⟨d_59_11, List.forall_mem_cons.mpr ⟨⟨d_59_12, pf_73⟩, List.forall_mem_cons.mpr ⟨d_59_15, List.forall_mem_cons.mpr ⟨d_59_16, List.forall_mem_cons.mpr ⟨⟨d_59_17, pf_74⟩, List.forall_mem_cons.mpr ⟨d_59_20, List.forall_mem_cons.mpr ⟨d_59_21, List.forall_mem_cons.mpr ⟨⟨d_59_22, pf_75⟩, List.forall_mem_cons.mpr ⟨d_59_25, List.forall_mem_cons.mpr ⟨d_59_26, List.forall_mem_cons.mpr ⟨⟨d_59_27, pf_76⟩, List.forall_mem_cons.mpr ⟨d_59_30, List.forall_mem_cons.mpr ⟨d_59_31, List.forall_mem_cons.mpr ⟨⟨d_59_32, pf_77⟩, List.forall_mem_cons.mpr ⟨d_59_35, List.forall_mem_cons.mpr ⟨d_59_36, List.forall_mem_cons.mpr ⟨⟨d_59_37, pf_78⟩, List.forall_mem_cons.mpr ⟨d_59_40, List.forall_mem_cons.mpr ⟨d_59_41, List.forall_mem_cons.mpr ⟨⟨d_59_42, pf_79⟩, List.forall_mem_cons.mpr ⟨d_59_45, List.forall_mem_cons.mpr ⟨d_59_46, List.forall_mem_cons.mpr ⟨⟨d_59_47, pf_80⟩, List.forall_mem_cons.mpr ⟨d_59_50, List.forall_mem_cons.mpr ⟨d_59_51, List.forall_mem_cons.mpr ⟨⟨d_59_52, pf_81⟩, List.forall_mem_cons.mpr ⟨d_59_55, List.forall_mem_cons.mpr ⟨⟨d_59_56, ⟨(fun _ h => Option.some.inj h ▸ wd_182), fun h => absurd h (by decide)⟩⟩, List.forall_mem_cons.mpr ⟨⟨d_59_58, pf_82⟩, List.forall_mem_cons.mpr ⟨d_59_61, List.forall_mem_cons.mpr ⟨d_59_62, List.forall_mem_cons.mpr ⟨⟨d_59_63, pf_83⟩, List.forall_mem_cons.mpr ⟨d_59_66, fun _ h => absurd h List.not_mem_nil⟩⟩⟩⟩⟩⟩⟩⟩⟩⟩⟩⟩⟩⟩⟩⟩⟩⟩⟩⟩⟩⟩⟩⟩⟩⟩⟩⟩⟩⟩⟩⟩⟩⟩⟩⟩⟩⟩⟩⟩
theorem d_60_0 : decode prog_8_method_3_code 0 = .ok (.aload_n 0, 1) := by decide +kernel
theorem d_60_1 : decode prog_8_method_3_code 1 = .ok (.getfield 42, 3) := by decide +kernel
theorem d_60_4 : decode prog_8_method_3_code 4 = .ok (.bipush 80, 2) := by decide +kernel
theorem d_60_6 : decode prog_8_method_3_code 6 = .ok (.if_icmp .ge 23, 3) := by decide +kernel
theorem d_60_9 : decode prog_8_method_3_code 9 = .ok (.aload_n 0, 1) := by decide +kernel
theorem d_60_10 : decode prog_8_method_3_code 10 = .ok (.getfield 9, 3) := by decide +kernel
theorem d_60_13 : decode prog_8_method_3_code 13 = .ok (.aload_n 0, 1) := by decide +kernel
theorem d_60_14 : decode prog_8_method_3_code 14 = .ok (.getfield 42, 3) := by decide +kernel
theorem d_60_17 : decode prog_8_method_3_code 17 = .ok (.iload_n 1, 1) := by decide +kernel
theorem d_60_18 : decode prog_8_method_3_code 18 = .ok (.iastore, 1) := by decide +kernel
theorem d_60_19 : decode prog_8_method_3_code 19 = .ok (.aload_n 0, 1) := by decide +kernel
theorem d_60_20 : decode prog_8_method_3_code 20 = .ok (.dup, 1) := by decide +kernel
theorem d_60_21 : decode prog_8_method_3_code 21 = .ok (.getfield 42, 3) := by decide +kernel
theorem d_60_24 : decode prog_8_method_3_code 24 = .ok (.iconst 1, 1) := by decide +kernel
theorem d_60_25 : decode prog_8_method_3_code 25 = .ok (.iadd, 1) := by decide +kernel
theorem d_60_26 : decode prog_8_method_3_code 26 = .ok (.putfield 42, 3) := by decide +kernel
theorem d_60_29 : decode prog_8_method_3_code 29 = .ok (.return_, 1) := by decide +kernel
set_option maxRecDepth 20000 in
theorem ok_60 : ∀ r ∈ tb_60, sm_ok 60 r := List.forall_mem_cons.mpr ⟨d_60_0, List.forall_mem_cons.mpr ⟨⟨d_60_1, Or.inl pf_84⟩, List.forall_mem_cons.mpr ⟨d_60_4, List.forall_mem_cons.mpr ⟨⟨d_60_6, (by decide)⟩, List.forall_mem_cons.mpr ⟨d_60_9, List.forall_mem_cons.mpr ⟨⟨d_60_10, Or.inl pf_85⟩, List.forall_mem_cons.mpr ⟨d_60_13, List.forall_mem_cons.mpr ⟨⟨d_60_14, Or.inl pf_84⟩, List.forall_mem_cons.mpr ⟨d_60_17, List.forall_mem_cons.mpr ⟨d_60_18, List.forall_mem_cons.mpr ⟨d_60_19, List.forall_mem_cons.mpr ⟨d_60_20, List.forall_mem_cons.mpr ⟨⟨d_60_21, Or.inl pf_84⟩, List.forall_mem_cons.mpr ⟨d_60_24, List.forall_mem_cons.mpr ⟨d_60_25, List.forall_mem_cons.mpr ⟨⟨d_60_26, pf_76⟩, List.forall_mem_cons.mpr ⟨d_60_29, fun _ h => absurd h List.not_mem_nil⟩⟩⟩⟩⟩⟩⟩⟩⟩⟩⟩⟩⟩⟩⟩⟩⟩
theorem d_61_0 : decode prog_8_method_4_code 0 = .ok (.iload_n 1, 1) := by decide +kernel
theorem d_61_1 : decode prog_8_method_4_code 1 = .ok (.ifCond .le 22, 3) := by decide +kernel
theorem d_61_4 : decode prog_8_method_4_code 4 = .ok (.iload_n 1, 1) := by decide +kernel
theorem d_61_5 : decode prog_8_method_4_code 5 = .ok (.aload_n 0, 1) := by decide +kernel
theorem d_61_6 : decode prog_8_method_4_code 6 = .ok (.getfield 42, 3) := by decide +kernel
theorem d_61_9 : decode prog_8_method_4_code 9 = .ok (.if_icmp .gt 14, 3) := by decide +kernel
theorem d_61_12 : decode prog_8_method_4_code 12 = .ok (.aload_n 0, 1) := by decide +kernel
theorem d_61_13 : decode prog_8_method_4_code 13 = .ok (.getfield 9, 3) := by decide +kernel
theorem d_61_16 : decode prog_8_method_4_code 16 = .ok (.iload_n 1, 1) := by decide +kernel
theorem d_61_17 : decode prog_8_method_4_code 17 = .ok (.iconst 1, 1) := by decide +kernel
theorem d_61_18 : decode prog_8_method_4_code 18 = .ok (.isub, 1) := by decide +kernel
theorem d_61_19 : decode prog_8_method_4_code 19 = .ok (.iaload, 1) := by decide +kernel
theorem d_61_20 : decode prog_8_method_4_code 20 = .ok (.goto 4, 3) := by decide +kernel
theorem d_61_23 : decode prog_8_method_4_code 23 = .ok (.iconst 0, 1) := by decide +kernel
theorem d_61_24 : decode prog_8_method_4_code 24 = .ok (.ireturn, 1) := by decide +kernel
set_option maxRecDepth 20000 in
theorem ok_61 : ∀ r ∈ tb_61, sm_ok 61 r := List.forall_mem_cons.mpr ⟨d_61_0, List.forall_mem_cons.mpr ⟨⟨d_61_1, (by decide)⟩, List.forall_mem_cons.mpr ⟨d_61_4, List.forall_mem_cons.mpr ⟨d_61_5, List.forall_mem_cons.mpr ⟨⟨d_61_6, Or.inl pf_84⟩, List.forall_mem_cons.mpr ⟨⟨d_61_9, (by decide)⟩, List.forall_mem_cons.mpr ⟨d_61_12, List.forall_mem_cons.mpr ⟨⟨d_61_13, Or.inl pf_85⟩, List.forall_mem_cons.mpr ⟨d_61_16, List.forall_mem_cons.mpr ⟨d_61_17, List.forall_mem_cons.mpr ⟨d_61_18, List.forall_mem_cons.mpr ⟨d_61_19, List.forall_mem_cons.mpr ⟨⟨d_61_20, (by decide)⟩, List.forall_mem_cons.mpr ⟨d_61_23, List.forall_mem_cons.mpr ⟨d_61_24, fun _ h => absurd h List.not_mem_nil⟩⟩⟩⟩⟩⟩⟩⟩⟩⟩⟩⟩⟩⟩⟩
theorem d_62_0 : decode prog_8_method_5_code 0 = .ok (.iload_n 1, 1) := by decide +kernel
theorem d_62_1 : decode prog_8_method_5_code 1 = .ok (.ifCond .lt 20, 3) := by decide +kernel
theorem d_62_4 : decode prog_8_method_5_code 4 = .ok (.iload_n 1, 1) := by decide +kernel
theorem d_62_5 : decode prog_8_method_5_code 5 = .ok (.aload_n 0, 1) := by decide +kernel
theorem d_62_6 : decode prog_8_method_5_code 6 = .ok (.getfield 42, 3) := by decide +kernel
theorem d_62_9 : decode prog_8_method_5_code 9 = .ok (.if_icmp .ge 12, 3) := by decide +kernel
theorem d_62_12 : decode prog_8_method_5_code 12 = .ok (.aload_n 0, 1) := by decide +kernel
theorem d_62_13 : decode prog_8_method_5_code 13 = .ok (.getfield 9, 3) := by decide +kernel
theorem d_62_16 : decode prog_8_method_5_code 16 = .ok (.iload_n 1, 1) := by decide +kernel
theorem d_62_17 : decode prog_8_method_5_code 17 = .ok (.iaload, 1) := by decide +kernel
theorem d_62_18 : decode prog_8_method_5_code 18 = .ok (.goto 4, 3) := by decide +kernel
theorem d_62_21 : decode prog_8_method_5_code 21 = .ok (.iconst 0, 1) := by decide +kernel
theorem d_62_22 : decode prog_8_method_5_code 22 = .ok (.ireturn, 1) := by decide +kernel
set_option maxRecDepth 20000 in
theorem ok_62 : ∀ r ∈ tb_62, sm_ok 62 r := List.forall_mem_cons.mpr ⟨d_62_0, List.forall_mem_cons.mpr ⟨⟨d_62_1, (by decide)⟩, List.forall_mem_cons.mpr ⟨d_62_4, List.forall_mem_cons.mpr ⟨d_62_5, List.forall_mem_cons.mpr ⟨⟨d_62_6, Or.inl pf_84⟩, List.forall_mem_cons.mpr ⟨⟨d_62_9, (by decide)⟩, List.forall_mem_cons.mpr ⟨d_62_12, List.forall_mem_cons.mpr ⟨⟨d_62_13, Or.inl pf_85⟩, List.forall_mem_cons.mpr ⟨d_62_16, List.forall_mem_cons.mpr ⟨d_62_17, List.forall_mem_cons.mpr ⟨⟨d_62_18, (by decide)⟩, List.forall_mem_cons.mpr ⟨d_62_21, List.forall_mem_cons.mpr ⟨d_62_22, fun _ h => absurd h List.not_mem_nil⟩⟩⟩⟩⟩⟩⟩⟩⟩⟩⟩⟩⟩
theorem d_63_0 : decode prog_8_method_6_code 0 = .ok (.aload_n 0, 1) := by decide +kernel
theorem d_63_1 : decode prog_8_method_6_code 1 = .ok (.getfield 67, 3) := by decide +kernel
theorem d_63_4 : decode prog_8_method_6_code 4 = .ok (.bipush 80, 2) := by decide +kernel
theorem d_63_6 : decode prog_8_method_6_code 6 = .ok (.if_icmp .ge 43, 3) := by decide +kernel
theorem d_63_9 : decode prog_8_method_6_code 9 = .ok (.aload_n 0, 1) := by decide +kernel
theorem d_63_10 : decode prog_8_method_6_code 10 = .ok (.getfield 15, 3) := by decide +kernel
theorem d_63_13 : decode prog_8_method_6_code 13 = .ok (.aload_n 0, 1) := by decide +kernel
theorem d_63_14 : decode prog_8_method_6_code 14 = .ok (.getfield 67, 3) := by decide +kernel
theorem d_63_17 : decode prog_8_method_6_code 17 = .ok (.iload_n 1, 1) := by decide +kernel
theorem d_63_18 : decode prog_8_method_6_code 18 = .ok (.iastore, 1) := by decide +kernel
theorem d_63_19 : decode prog_8_method_6_code 19 = .ok (.aload_n 0, 1) := by decide +kernel
theorem d_63_20 : decode prog_8_method_6_code 20 = .ok (.getfield 18, 3) := by decide +kernel
theorem d_63_23 : decode prog_8_method_6_code 23 = .ok (.aload_n 0, 1) := by decide +kernel
theorem d_63_24 : decode prog_8_method_6_code 24 = .ok (.getfield 67, 3) := by decide +kernel
theorem d_63_27 : decode prog_8_method_6_code 27 = .ok (.iload_n 2, 1) := by decide +kernel
theorem d_63_28 : decode prog_8_method_6_code 28 = .ok (.iastore, 1) := by decide +kernel
theorem d_63_29 : decode prog_8_method_6_code 29 = .ok (.aload_n 0, 1) := by decide +kernel
theorem d_63_30 : decode prog_8_method_6_code 30 = .ok (.getfield 21, 3) := by decide +kernel
theorem d_63_33 : decode prog_8_method_6_code 33 = .ok (.aload_n 0, 1) := by decide +kernel
theorem d_63_34 : decode prog_8_method_6_code 34 = .ok (.getfield 67, 3) := by decide +kernel
theorem d_63_37 : decode prog_8_method_6_code 37 = .ok (.iload_n 3, 1) := by decide +kernel
theorem d_63_38 : decode prog_8_method_6_code 38 = .ok (.iastore, 1) := by decide +kernel
theorem d_63_39 : decode prog_8_method_6_code 39 = .ok (.aload_n 0, 1) := by decide +kernel
theorem d_63_40 : decode prog_8_method_6_code 40 = .ok (.dup, 1) := by decide +kernel
theorem d_63_41 : decode prog_8_method_6_code 41 = .ok (.getfield 67, 3) := by decide +kernel
theorem d_63_44 : decode prog_8_method_6_code 44 = .ok (.iconst 1, 1) := by decide +kernel
theorem d_63_45 : decode prog_8_method_6_code 45 = .ok (.iadd, 1) := by decide +kernel
theorem d_63_46 : decode prog_8_method_6_code 46 = .ok (.putfield 67, 3) := by decide +kernel
theorem d_63_49 : decode prog_8_method_6_code 49 = .ok (.return_, 1) := by decide +kernel
set_option maxRecDepth 20000 in
theorem ok_63 : ∀ r ∈ tb_63, sm_ok 63 r := List.forall_mem_cons.mpr ⟨d_63_0, List.forall_mem_cons.mpr ⟨⟨d_63_1, Or.inl pf_86⟩, List.forall_mem_cons.mpr ⟨d_63_4, List.forall_mem_cons.mpr ⟨⟨d_63_6, (by decide)⟩, List.forall_mem_cons.mpr ⟨d_63_9, List.forall_mem_cons.mpr ⟨⟨d_63_10, Or.inl pf_87⟩, List.forall_mem_cons.mpr ⟨d_63_13, List.forall_mem_cons.mpr ⟨⟨d_63_14, Or.inl pf_86⟩, List.forall_mem_cons.mpr ⟨d_63_17, List.forall_mem_cons.mpr ⟨d_63_18, List.forall_mem_cons.mpr ⟨d_63_19, List.forall_mem_cons.mpr ⟨⟨d_63_20, Or.inl pf_88⟩, List.forall_mem_cons.mpr ⟨d_63_23, List.forall_mem_cons.mpr ⟨⟨d_63_24, Or.inl pf_86⟩, List.forall_mem_cons.mpr ⟨d_63_27, List.forall_mem_cons.mpr ⟨d_63_28, List.forall_mem_cons.mpr ⟨d_63_29, List.forall_mem_cons.mpr ⟨⟨d_63_30, Or.inl pf_89⟩, List.forall_mem_cons.mpr ⟨d_63_33, List.forall_mem_cons.mpr ⟨⟨d_63_34, Or.inl pf_86⟩, List.forall_mem_cons.mpr ⟨d_63_37, List.forall_mem_cons.mpr ⟨d_63_38, List.forall_mem_cons.mpr ⟨d_63_39, List.forall_mem_cons.mpr ⟨d_63_40, List.forall_mem_cons.mpr ⟨⟨d_63_41, Or.inl pf_86⟩, List.forall_mem_cons.mpr ⟨d_63_44, List.forall_mem_cons.mpr ⟨d_63_45, List.forall_mem_cons.mpr ⟨⟨d_63_46, pf_83⟩, List.forall_mem_cons.mpr ⟨d_63_49, fun _ h => absurd h List.not_mem_nil⟩⟩⟩⟩⟩⟩⟩⟩⟩⟩⟩⟩⟩⟩⟩⟩⟩⟩⟩⟩⟩⟩⟩⟩⟩⟩⟩⟩⟩
theorem d_64_0 : decode prog_8_method_7_code 0 = .ok (.aload_n 0, 1) := by decide +kernel
theorem d_64_1 : decode prog_8_method_7_code 1 = .ok (.iconst 0, 1) := by decide +kernel
theorem d_64_2 : decode prog_8_method_7_code 2 = .ok (.putfield 67, 3) := by decide +kernel
theorem d_64_5 : decode prog_8_method_7_code 5 = .ok (.aload_n 0, 1) := by decide +kernel
theorem d_64_6 : decode prog_8_method_7_code 6 = .ok (.iload_n 1, 1) := by decide +kernel
theorem d_64_7 : decode prog_8_method_7_code 7 = .ok (.iconst (-1), 1) := by decide +kernel
theorem d_64_8 : decode prog_8_method_7_code 8 = .ok (.iload_n 2, 1) := by decide +kernel
theorem d_64_9 : decode prog_8_method_7_code 9 = .ok (.invokevirtual 70, 3) := by decide +kernel
theorem d_64_12 : decode prog_8_method_7_code 12 = .ok (.return_, 1) := by decide +kernel
set_option maxRecDepth 20000 in
theorem ok_64 : ∀ r ∈ tb_64, sm_ok 64 r := List.forall_mem_cons.mpr ⟨d_64_0, List.forall_mem_cons.mpr ⟨d_64_1, List.forall_mem_cons.mpr ⟨⟨d_64_2, pf_83⟩, List.forall_mem_cons.mpr ⟨d_64_5, List.forall_mem_cons.mpr ⟨d_64_6, List.forall_mem_cons.mpr ⟨d_64_7, List.forall_mem_cons.mpr ⟨d_64_8, List.forall_mem_cons.mpr ⟨⟨d_64_9, ⟨mo_63, mi_63, se_63, pm_84⟩⟩, List.forall_mem_cons.mpr ⟨d_64_12, fun _ h => absurd h List.not_mem_nil⟩⟩⟩⟩⟩⟩⟩⟩⟩
theorem d_65_0 : decode prog_8_method_8_code 0 = .ok (.aload_n 0, 1) := by decide +kernel
theorem d_65_1 : decode prog_8_method_8_code 1 = .ok (.getfield 26, 3) := by decide +kernel
theorem d_65_4 : decode prog_8_method_8_code 4 = .ok (.bipush 7, 2) := by decide +kernel
theorem d_65_6 : decode prog_8_method_8_code 6 = .ok (.if_icmp .eq 21, 3) := by decide +kernel
theorem d_65_9 : decode prog_8_method_8_code 9 = .ok (.aload_n 0, 1) := by decide +kernel
theorem d_65_10 : decode prog_8_method_8_code 10 = .ok (.getfield 26, 3) := by decide +kernel
theorem d_65_13 : decode prog_8_method_8_code 13 = .ok (.bipush 8, 2) := by decide +kernel
theorem d_65_15 : decode prog_8_method_8_code 15 = .ok (.if_icmp .eq 12, 3) := by decide +kernel
theorem d_65_18 : decode prog_8_method_8_code 18 = .ok (.aload_n 0, 1) := by decide +kernel
theorem d_65_19 : decode prog_8_method_8_code 19 = .ok (.getfield 26, 3) := by decide +kernel
theorem d_65_22 : decode prog_8_method_8_code 22 = .ok (.bipush 9, 2) := by decide +kernel
theorem d_65_24 : decode prog_8_method_8_code 24 = .ok (.if_icmp .ne 7, 3) := by decide +kernel
theorem d_65_27 : decode prog_8_method_8_code 27 = .ok (.iconst 1, 1) := by decide +kernel
theorem d_65_28 : decode prog_8_method_8_code 28 = .ok (.goto 4, 3) := by decide +kernel
theorem d_65_31 : decode prog_8_method_8_code 31 = .ok (.iconst 0, 1) := by decide +kernel
theorem d_65_32 : decode prog_8_method_8_code 32 = .ok (.ireturn, 1) := by decide +kernel
set_option maxRecDepth 20000 in
theorem ok_65 : ∀ r ∈ tb_65, sm_ok 65 r := List.forall_mem_cons.mpr ⟨d_65_0, List.forall_mem_cons.mpr ⟨⟨d_65_1, Or.inl pf_90⟩, List.forall_mem_cons.mpr ⟨d_65_4, List.forall_mem_cons.mpr ⟨⟨d_65_6, (by decide)⟩, List.forall_mem_cons.mpr ⟨d_65_9, List.forall_mem_cons.mpr ⟨⟨d_65_10, Or.inl pf_90⟩, List.forall_mem_cons.mpr ⟨d_65_13, List.forall_mem_cons.mpr ⟨⟨d_65_15, (by decide)⟩, List.forall_mem_cons.mpr ⟨d_65_18, List.forall_mem_cons.mpr ⟨⟨d_65_19, Or.inl pf_90⟩, List.forall_mem_cons.mpr ⟨d_65_22, List.forall_mem_cons.mpr ⟨⟨d_65_24, (by decide)⟩, List.forall_mem_cons.mpr ⟨d_65_27, List.forall_mem_cons.mpr ⟨⟨d_65_28, (by decide)⟩, List.forall_mem_cons.mpr ⟨d_65_31, List.forall_mem_cons.mpr ⟨d_65_32, fun _ h => absurd h List.not_mem_nil⟩⟩⟩⟩⟩⟩⟩⟩⟩⟩⟩⟩⟩⟩⟩⟩
theorem d_66_0 : decode prog_8_method_9_code 0 = .ok (.aload_n 0, 1) := by decide +kernel
theorem d_66_1 : decode prog_8_method_9_code 1 = .ok (.getfield 48, 3) := by decide +kernel
theorem d_66_4 : decode prog_8_method_9_code 4 = .ok (.aload_n 0, 1) := by decide +kernel
theorem d_66_5 : decode prog_8_method_9_code 5 = .ok (.getfield 45, 3) := by decide +kernel
theorem d_66_8 : decode prog_8_method_9_code 8 = .ok (.if_icmp .le 7, 3) := by decide +kernel
theorem d_66_11 : decode prog_8_method_9_code 11 = .ok (.iconst 1, 1) := by decide +kernel
theorem d_66_12 : decode prog_8_method_9_code 12 = .ok (.goto 4, 3) := by decide +kernel
theorem d_66_15 : decode prog_8_method_9_code 15 = .ok (.iconst 0, 1) := by decide +kernel
theorem d_66_16 : decode prog_8_method_9_code 16 = .ok (.ireturn, 1) := by decide +kernel
set_option maxRecDepth 20000 in
theorem ok_66 : ∀ r ∈ tb_66, sm_ok 66 r := List.forall_mem_cons.mpr ⟨d_66_0, List.forall_mem_cons.mpr ⟨⟨d_66_1, Or.inl pf_91⟩, List.forall_mem_cons.mpr ⟨d_66_4, List.forall_mem_cons.mpr ⟨⟨d_66_5, Or.inl pf_92⟩, List.forall_mem_cons.mpr ⟨⟨d_66_8, (by decide)⟩, List.forall_mem_cons.mpr ⟨d_66_11, List.forall_mem_cons.mpr ⟨⟨d_66_12, (by decide)⟩, List.forall_mem_cons.mpr ⟨d_66_15, List.forall_mem_cons.mpr ⟨d_66_16, fun _ h => absurd h List.not_mem_nil⟩⟩⟩⟩⟩⟩⟩⟩⟩
theorem d_67_0 : decode prog_8_method_10_code 0 = .ok (.aload_n 0, 1) := by decide +kernel
theorem d_67_1 : decode prog_8_method_10_code 1 = .ok (.getfield 54, 3) := by decide +kernel
theorem d_67_4 : decode prog_8_method_10_code 4 = .ok (.aload_n 0, 1) := by decide +kernel
theorem d_67_5 : decode prog_8_method_10_code 5 = .ok (.getfield 51, 3) := by decide +kernel
theorem d_67_8 : decode prog_8_method_10_code 8 = .ok (.if_icmp .le 7, 3) := by decide +kernel
theorem d_67_11 : decode prog_8_method_10_code 11 = .ok (.iconst 1, 1) := by decide +kernel
theorem d_67_12 : decode prog_8_method_10_code 12 = .ok (.goto 4, 3) := by decide +kernel
theorem d_67_15 : decode prog_8_method_10_code 15 = .ok (.iconst 0, 1) := by decide +kernel
theorem d_67_16 : decode prog_8_method_10_code 16 = .ok (.ireturn, 1) := by decide +kernel
set_option maxRecDepth 20000 in
theorem ok_67 : ∀ r ∈ tb_67, sm_ok 67 r := List.forall_mem_cons.mpr ⟨d_67_0, List.forall_mem_cons.mpr ⟨⟨d_67_1, Or.inl pf_93⟩, List.forall_mem_cons.mpr ⟨d_67_4, List.forall_mem_cons.mpr ⟨⟨d_67_5, Or.inl pf_94⟩, List.forall_mem_cons.mpr ⟨⟨d_67_8, (by decide)⟩, List.forall_mem_cons.mpr ⟨d_67_11, List.forall_mem_cons.mpr ⟨⟨d_67_12, (by decide)⟩, List.forall_mem_cons.mpr ⟨d_67_15, List.forall_mem_cons.mpr ⟨d_67_16, fun _ h => absurd h List.not_mem_nil⟩⟩⟩⟩⟩⟩⟩⟩⟩
theorem d_68_0 : decode prog_10_method_1_code 0 = .ok (.aload_n 0, 1) := by decide +kernel
theorem d_68_1 : decode prog_10_method_1_code 1 = .ok (.invokespecial 3, 3) := by decide +kernel
theorem d_68_4 : decode prog_10_method_1_code 4 = .ok (.aload_n 0, 1) := by decide +kernel
theorem d_68_5 : decode prog_10_method_1_code 5 = .ok (.bipush 80, 2) := by decide +kernel
theorem d_68_7 : decode prog_10_method_1_code 7 = .ok (.newarray .int, 2) := by decide +kernel
theorem d_68_9 : decode prog_10_method_1_code 9 = .ok (.putfield 9, 3) := by decide +kernel
theorem d_68_12 : decode prog_10_method_1_code 12 = .ok (.aload_n 0, 1) := by decide +kernel
theorem d_68_13 : decode prog_10_method_1_code 13 = .ok (.bipush 80, 2) := by decide +kernel
theorem d_68_15 : decode prog_10_method_1_code 15 = .ok (.newarray .int, 2) := by decide +kernel
theorem d_68_17 : decode prog_10_method_1_code 17 = .ok (.putfield 15, 3) := by decide +kernel
theorem d_68_20 : decode prog_10_method_1_code 20 = .ok (.return_, 1) := by decide +kernel
set_option maxRecDepth 20000 in
theorem ok_68 : ∀ r ∈ tb_68, sm_ok 68 r := List.forall_mem_cons.mpr ⟨d_68_0, List.forall_mem_cons.mpr ⟨⟨d_68_1, (Or.inl ⟨rfl, wd_186, wd_34, wd_35⟩)⟩, List.forall_mem_cons.mpr ⟨d_68_4, List.forall_mem_cons.mpr ⟨d_68_5, List.forall_mem_cons.mpr ⟨⟨d_68_7, ⟨wd_133, Or.inl ⟨rfl, rfl⟩⟩⟩, List.forall_mem_cons.mpr ⟨⟨d_68_9, pf_95 rfl⟩, List.forall_mem_cons.mpr ⟨d_68_12, List.forall_mem_cons.mpr ⟨d_68_13, List.forall_mem_cons.mpr ⟨⟨d_68_15, ⟨wd_133, Or.inl ⟨rfl, rfl⟩⟩⟩, List.forall_mem_cons.mpr ⟨⟨d_68_17, pf_96 rfl⟩, List.forall_mem_cons.mpr ⟨d_68_20, fun _ h => absurd h List.not_mem_nil⟩⟩⟩⟩⟩⟩⟩⟩⟩⟩⟩
theorem d_69_0 : decode prog_10_method_2_code 0 = .ok (.aload_n 0, 1) := by decide +kernel
theorem d_69_1 : decode prog_10_method_2_code 1 = .ok (.iconst 0, 1) := by decide +kernel
theorem d_69_2 : decode prog_10_method_2_code 2 = .ok (.putfield 18, 3) := by decide +kernel
theorem d_69_5 : decode prog_10_method_2_code 5 = .ok (.aload_n 0, 1) := by decide +kernel
theorem d_69_6 : decode prog_10_method_2_code 6 = .ok (.iconst 0, 1) := by decide +kernel
theorem d_69_7 : decode prog_10_method_2_code 7 = .ok (.putfield 22, 3) := by decide +kernel
theorem d_69_10 : decode prog_10_method_2_code 10 = .ok (.iconst 0, 1) := by decide +kernel
theorem d_69_11 : decode prog_10_method_2_code 11 = .ok (.istore_n 3, 1) := by decide +kernel
theorem d_69_12 : decode prog_10_method_2_code 12 = .ok (.iload_n 3, 1) := by decide +kernel
theorem d_69_13 : decode prog_10_method_2_code 13 = .ok (.iload_n 2, 1) := by decide +kernel
theorem d_69_14 : decode prog_10_method_2_code 14 = .ok (.if_icmp .ge 37, 3) := by decide +kernel
theorem d_69_17 : decode prog_10_method_2_code 17 = .ok (.aload_n 1, 1) := by decide +kernel
theorem d_69_18 : decode prog_10_method_2_code 18 = .ok (.iload_n 3, 1) := by decide +kernel
theorem d_69_19 : decode prog_10_method_2_code 19 = .ok (.caload, 1) := by decide +kernel
theorem d_69_20 : decode prog_10_method_2_code 20 = .ok (.bipush 32, 2) := by decide +kernel
theorem d_69_22 : decode prog_10_method_2_code 22 = .ok (.if_icmp .eq 23, 3) := by decide +kernel
theorem d_69_25 : decode prog_10_method_2_code 25 = .ok (.aload_n 1, 1) := by decide +kernel
theorem d_69_26 : decode prog_10_method_2_code 26 = .ok (.iload_n 3, 1) := by decide +kernel
theorem d_69_27 : decode prog_10_method_2_code 27 = .ok (.invokestatic 25, 3) := by decide +kernel
theorem d_69_30 : decode prog_10_method_2_code 30 = .ok (.ifCond .ne 15, 3) := by decide +kernel
theorem d_69_33 : decode prog_10_method_2_code 33 = .ok (.aload_n 0, 1) := by decide +kernel
theorem d_69_34 : decode prog_10_method_2_code 34 = .ok (.aload_n 1, 1) := by decide +kernel
theorem d_69_35 : decode prog_10_method_2_code 35 = .ok (.iload_n 3, 1) := by decide +kernel
theorem d_69_36 : decode prog_10_method_2_code 36 = .ok (.iload_n 2, 1) := by decide +kernel
theorem d_69_37 : decode prog_10_method_2_code 37 = .ok (.invokevirtual 29, 3) := by decide +kernel
theorem d_69_40 : decode prog_10_method_2_code 40 = .ok (.ifCond .ne 5, 3) := by decide +kernel
theorem d_69_43 : decode prog_10_method_2_code 43 = .ok (.iconst 0, 1) := by decide +kernel
theorem d_69_44 : decode prog_10_method_2_code 44 = .ok (.ireturn, 1) := by decide +kernel
theorem d_69_45 : decode prog_10_method_2_code 45 = .ok (.iinc 3 1, 3) := by decide +kernel
theorem d_69_48 : decode prog_10_method_2_code 48 = .ok (.goto (-36), 3) := by decide +kernel
theorem d_69_51 : decode prog_10_method_2_code 51 = .ok (.iconst 1, 1) := by decide +kernel
theorem d_69_52 : decode prog_10_method_2_code 52 = .ok (.ireturn, 1) := by decide +kernel
set_option maxRecDepth 20000 in
theorem ok_69 : ∀ r ∈ tb_69, sm_ok 69 r := List.forall_mem_cons.mpr ⟨d_69_0, List.forall_mem_cons.mpr ⟨d_69_1, List.forall_mem_cons.mpr ⟨⟨d_69_2, pf_97⟩, List.forall_mem_cons.mpr ⟨d_69_5, List.forall_mem_cons.mpr ⟨d_69_6, List.forall_mem_cons.mpr ⟨⟨d_69_7, pf_98⟩, List.forall_mem_cons.mpr ⟨d_69_10, List.forall_mem_cons.mpr ⟨d_69_11, List.forall_mem_cons.mpr ⟨d_69_12, List.forall_mem_cons.mpr ⟨d_69_13, List.forall_mem_cons.mpr ⟨⟨d_69_14, (by decide)⟩, List.forall_mem_cons.mpr ⟨d_69_17, List.forall_mem_cons.mpr ⟨d_69_18, List.forall_mem_cons.mpr ⟨d_69_19, List.forall_mem_cons.mpr ⟨d_69_20, List.forall_mem_cons.mpr ⟨⟨d_69_22, (by decide)⟩, List.forall_mem_cons.mpr ⟨d_69_25, List.forall_mem_cons.mpr ⟨d_69_26, List.forall_mem_cons.mpr ⟨⟨d_69_27, (Or.inl ⟨Nat.le_of_ble_eq_true rfl, mo_75, ms_75, pm_85⟩)⟩, List.forall_mem_cons.mpr ⟨⟨d_69_30, (by decide)⟩, List.forall_mem_cons.mpr ⟨d_69_33, List.forall_mem_cons.mpr ⟨d_69_34, List.forall_mem_cons.mpr ⟨d_69_35, List.forall_mem_cons.mpr ⟨d_69_36, List.forall_mem_cons.mpr ⟨⟨d_69_37, ⟨mo_76, mi_76, se_76, pm_86⟩⟩, List.forall_mem_cons.mpr ⟨⟨d_69_40, (by decide)⟩, List.forall_mem_cons.mpr ⟨d_69_43, List.forall_mem_cons.mpr ⟨d_69_44, List.forall_mem_cons.mpr ⟨d_69_45, List.forall_mem_cons.mpr ⟨⟨d_69_48, (by decide)⟩, List.forall_mem_cons.mpr ⟨d_69_51, List.forall_mem_cons.mpr ⟨d_69_52, fun _ h => absurd h List.not_mem_nil⟩⟩⟩⟩⟩⟩⟩⟩⟩⟩⟩⟩⟩⟩⟩⟩⟩⟩⟩⟩⟩⟩⟩⟩⟩⟩⟩⟩⟩⟩⟩⟩
theorem d_70_0 : decode prog_10_method_3_code 0 = .ok (.aload_n 0, 1) := by decide +kernel
theorem d_70_1 : decode prog_10_method_3_code 1 = .ok (.getfield 22, 3) := by decide +kernel
theorem d_70_4 : decode prog_10_method_3_code 4 = .ok (.aload_n 0, 1) := by decide +kernel
theorem d_70_5 : decode prog_10_method_3_code 5 = .ok (.getfield 18, 3) := by decide +kernel
theorem d_70_8 : decode prog_10_method_3_code 8 = .ok (.if_icmp .ge 15, 3) := by decide +kernel
theorem d_70_11 : decode prog_10_method_3_code 11 = .ok (.aload_n 0, 1) := by decide +kernel
theorem d_70_12 : decode prog_10_method_3_code 12 = .ok (.getfield 9, 3) := by decide +kernel
theorem d_70_15 : decode prog_10_method_3_code 15 = .ok (.aload_n 0, 1) := by decide +kernel
theorem d_70_16 : decode prog_10_method_3_code 16 = .ok (.getfield 22, 3) := by decide +kernel
theorem d_70_19 : decode prog_10_method_3_code 19 = .ok (.iaload, 1) := by decide +kernel
theorem d_70_20 : decode prog_10_method_3_code 20 = .ok (.goto 4, 3) := by decide +kernel
theorem d_70_23 : decode prog_10_method_3_code 23 = .ok (.iconst 0, 1) := by decide +kernel
theorem d_70_24 : decode prog_10_method_3_code 24 = .ok (.ireturn, 1) := by decide +kernel
set_option maxRecDepth 20000 in
theorem ok_70 : ∀ r ∈ tb_70, sm_ok 70 r := List.forall_mem_cons.mpr ⟨d_70_0, List.forall_mem_cons.mpr ⟨⟨d_70_1, Or.inl pf_99⟩, List.forall_mem_cons.mpr ⟨d_70_4, List.forall_mem_cons.mpr ⟨⟨d_70_5, Or.inl pf_100⟩, List.forall_mem_cons.mpr ⟨⟨d_70_8, (by decide)⟩, List.forall_mem_cons.mpr ⟨d_70_11, List.forall_mem_cons.mpr ⟨⟨d_70_12, Or.inl pf_101⟩, List.forall_mem_cons.mpr ⟨d_70_15, List.forall_mem_cons.mpr ⟨⟨d_70_16, Or.inl pf_99⟩, List.forall_mem_cons.mpr ⟨d_70_19, List.forall_mem_cons.mpr ⟨⟨d_70_20, (by decide)⟩, List.forall_mem_cons.mpr ⟨d_70_23, List.forall_mem_cons.mpr ⟨d_70_24, fun _ h => absurd h List.not_mem_nil⟩⟩⟩⟩⟩⟩⟩⟩⟩⟩⟩⟩⟩
theorem d_71_0 : decode prog_10_method_4_code 0 = .ok (.aload_n 0, 1) := by decide +kernel
theorem d_71_1 : decode prog_10_method_4_code 1 = .ok (.getfield 22, 3) := by decide +kernel
theorem d_71_4 : decode prog_10_method_4_code 4 = .ok (.aload_n 0, 1) := by decide +kernel
theorem d_71_5 : decode prog_10_method_4_code 5 = .ok (.getfield 18, 3) := by decide +kernel
theorem d_71_8 : decode prog_10_method_4_code 8 = .ok (.if_icmp .ge 16, 3) := by decide +kernel
theorem d_71_11 : decode prog_10_method_4_code 11 = .ok (.aload_n 0, 1) := by decide +kernel
theorem d_71_12 : decode prog_10_method_4_code 12 = .ok (.getfield 9, 3) := by decide +kernel
theorem d_71_15 : decode prog_10_method_4_code 15 = .ok (.aload_n 0, 1) := by decide +kernel
theorem d_71_16 : decode prog_10_method_4_code 16 = .ok (.getfield 22, 3) := by decide +kernel
theorem d_71_19 : decode prog_10_method_4_code 19 = .ok (.iaload, 1) := by decide +kernel
theorem d_71_20 : decode prog_10_method_4_code 20 = .ok (.iload_n 1, 1) := by decide +kernel
theorem d_71_21 : decode prog_10_method_4_code 21 = .ok (.if_icmp .eq 5, 3) := by decide +kernel
theorem d_71_24 : decode prog_10_method_4_code 24 = .ok (.iconst 0, 1) := by decide +kernel
theorem d_71_25 : decode prog_10_method_4_code 25 = .ok (.ireturn, 1) := by decide +kernel
theorem d_71_26 : decode prog_10_method_4_code 26 = .ok (.aload_n 0, 1) := by decide +kernel
theorem d_71_27 : decode prog_10_method_4_code 27 = .ok (.dup, 1) := by decide +kernel
theorem d_71_28 : decode prog_10_method_4_code 28 = .ok (.getfield 22, 3) := by decide +kernel
theorem d_71_31 : decode prog_10_method_4_code 31 = .ok (.iconst 1, 1) := by decide +kernel
theorem d_71_32 : decode prog_10_method_4_code 32 = .ok (.iadd, 1) := by decide +kernel
theorem d_71_33 : decode prog_10_method_4_code 33 = .ok (.putfield 22, 3) := by decide +kernel
theorem d_71_36 : decode prog_10_method_4_code 36 = .ok (.iconst 1, 1) := by decide +kernel
theorem d_71_37 : decode prog_10_method_4_code 37 = .ok (.ireturn, 1) := by decide +kernel
set_option maxRecDepth 20000 in
theorem ok_71 : ∀ r ∈ tb_71, sm_ok 71 r := List.forall_mem_cons.mpr ⟨d_71_0, List.forall_mem_cons.mpr ⟨⟨d_71_1, Or.inl pf_99⟩, List.forall_mem_cons.mpr ⟨d_71_4, List.forall_mem_cons.mpr ⟨⟨d_71_5, Or.inl pf_100⟩, List.forall_mem_cons.mpr ⟨⟨d_71_8, (by decide)⟩, List.forall_mem_cons.mpr ⟨d_71_11, List.forall_mem_cons.mpr ⟨⟨d_71_12, Or.inl pf_101⟩, List.forall_mem_cons.mpr ⟨d_71_15, List.forall_mem_cons.mpr ⟨⟨d_71_16, Or.inl pf_99⟩, List.forall_mem_cons.mpr ⟨d_71_19, List.forall_mem_cons.mpr ⟨d_71_20, List.forall_mem_cons.mpr ⟨⟨d_71_21, (by decide)⟩, List.forall_mem_cons.mpr ⟨d_71_24, List.forall_mem_cons.mpr ⟨d_71_25, List.forall_mem_cons.mpr ⟨d_71_26, List.forall_mem_cons.mpr ⟨d_71_27, List.forall_mem_cons.mpr ⟨⟨d_71_28, Or.inl pf_99⟩, List.forall_mem_cons.mpr ⟨d_71_31, List.forall_mem_cons.mpr ⟨d_71_32, List.forall_mem_cons.mpr ⟨⟨d_71_33, pf_98⟩, List.forall_mem_cons.mpr ⟨d_71_36, List.forall_mem_cons.mpr ⟨d_71_37, fun _ h => absurd h List.not_mem_nil⟩⟩⟩⟩⟩⟩⟩⟩⟩⟩⟩⟩⟩⟩⟩⟩⟩⟩⟩⟩⟩⟩
theorem d_72_0 : decode prog_10_method_5_code 0 = .ok (.aload_n 0, 1) := by decide +kernel
theorem d_72_1 : decode prog_10_method_5_code 1 = .ok (.getfield 22, 3) := by decide +kernel
theorem d_72_4 : decode prog_10_method_5_code 4 = .ok (.ifCond .le 17, 3) := by decide +kernel
theorem d_72_7 : decode prog_10_method_5_code 7 = .ok (.aload_n 0, 1) := by decide +kernel
theorem d_72_8 : decode prog_10_method_5_code 8 = .ok (.getfield 15, 3) := by decide +kernel
theorem d_72_11 : decode prog_10_method_5_code 11 = .ok (.aload_n 0, 1) := by decide +kernel
theorem d_72_12 : decode prog_10_method_5_code 12 = .ok (.getfield 22, 3) := by decide +kernel
theorem d_72_15 : decode prog_10_method_5_code 15 = .ok (.iconst 1, 1) := by decide +kernel
theorem d_72_16 : decode prog_10_method_5_code 16 = .ok (.isub, 1) := by decide +kernel
theorem d_72_17 : decode prog_10_method_5_code 17 = .ok (.iaload, 1) := by decide +kernel
theorem d_72_18 : decode prog_10_method_5_code 18 = .ok (.goto 4, 3) := by decide +kernel
theorem d_72_21 : decode prog_10_method_5_code 21 = .ok (.iconst 0, 1) := by decide +kernel
theorem d_72_22 : decode prog_10_method_5_code 22 = .ok (.ireturn, 1) := by decide +kernel
set_option maxRecDepth 20000 in
theorem ok_72 : ∀ r ∈ tb_72, sm_ok 72 r := List.forall_mem_cons.mpr ⟨d_72_0, List.forall_mem_cons.mpr ⟨⟨d_72_1, Or.inl pf_99⟩, List.forall_mem_cons.mpr ⟨⟨d_72_4, (by decide)⟩, List.forall_mem_cons.mpr ⟨d_72_7, List.forall_mem_cons.mpr ⟨⟨d_72_8, Or.inl pf_102⟩, List.forall_mem_cons.mpr ⟨d_72_11, List.forall_mem_cons.mpr ⟨⟨d_72_12, Or.inl pf_99⟩, List.forall_mem_cons.mpr ⟨d_72_15, List.forall_mem_cons.mpr ⟨d_72_16, List.forall_mem_cons.mpr ⟨d_72_17, List.forall_mem_cons.mpr ⟨⟨d_72_18, (by decide)⟩, List.forall_mem_cons.mpr ⟨d_72_21, List.forall_mem_cons.mpr ⟨d_72_22, fun _ h => absurd h List.not_mem_nil⟩⟩⟩⟩⟩⟩⟩⟩⟩⟩⟩⟩⟩
theorem d_73_0 : decode prog_10_method_6_code 0 = .ok (.iload_n 0, 1) := by decide +kernel
theorem d_73_1 : decode prog_10_method_6_code 1 = .ok (.bipush 97, 2) := by decide +kernel
theorem d_73_3 : decode prog_10_method_6_code 3 = .ok (.if_icmp .lt 13, 3) := by decide +kernel
theorem d_73_6 : decode prog_10_method_6_code 6 = .ok (.iload_n 0, 1) := by decide +kernel
theorem d_73_7 : decode prog_10_method_6_code 7 = .ok (.bipush 122, 2) := by decide +kernel
theorem d_73_9 : decode prog_10_method_6_code 9 = .ok (.if_icmp .gt 7, 3) := by decide +kernel
theorem d_73_12 : decode prog_10_method_6_code 12 = .ok (.iconst 1, 1) := by decide +kernel
theorem d_73_13 : decode prog_10_method_6_code 13 = .ok (.goto 4, 3) := by decide +kernel
theorem d_73_16 : decode prog_10_method_6_code 16 = .ok (.iconst 0, 1) := by decide +kernel
theorem d_73_17 : decode prog_10_method_6_code 17 = .ok (.ireturn, 1) := by decide +kernel
set_option maxRecDepth 20000 in
theorem ok_73 : ∀ r ∈ tb_73, sm_ok 73 r := List.forall_mem_cons.mpr ⟨d_73_0, List.forall_mem_cons.mpr ⟨d_73_1, List.forall_mem_cons.mpr ⟨⟨d_73_3, (by decide)⟩, List.forall_mem_cons.mpr ⟨d_73_6, List.forall_mem_cons.mpr ⟨d_73_7, List.forall_mem_cons.mpr ⟨⟨d_73_9, (by decide)⟩, List.forall_mem_cons.mpr ⟨d_73_12, List.forall_mem_cons.mpr ⟨⟨d_73_13, (by decide)⟩, List.forall_mem_cons.mpr ⟨d_73_16, List.forall_mem_cons.mpr ⟨d_73_17, fun _ h => absurd h List.not_mem_nil⟩⟩⟩⟩⟩⟩⟩⟩⟩⟩
theorem d_74_0 : decode prog_10_method_7_code 0 = .ok (.iload_n 0, 1) := by decide +kernel
theorem d_74_1 : decode prog_10_method_7_code 1 = .ok (.bipush 48, 2) := by decide +kernel
theorem d_74_3 : decode prog_10_method_7_code 3 = .ok (.if_icmp .lt 13, 3) := by decide +kernel
theorem d_74_6 : decode prog_10_method_7_code 6 = .ok (.iload_n 0, 1) := by decide +kernel
theorem d_74_7 : decode prog_10_method_7_code 7 = .ok (.bipush 57, 2) := by decide +kernel
theorem d_74_9 : decode prog_10_method_7_code 9 = .ok (.if_icmp .gt 7, 3) := by decide +kernel
theorem d_74_12 : decode prog_10_method_7_code 12 = .ok (.iconst 1, 1) := by decide +kernel
theorem d_74_13 : decode prog_10_method_7_code 13 = .ok (.goto 4, 3) := by decide +kernel
theorem d_74_16 : decode prog_10_method_7_code 16 = .ok (.iconst 0, 1) := by decide +kernel
theorem d_74_17 : decode prog_10_method_7_code 17 = .ok (.ireturn, 1) := by decide +kernel
set_option maxRecDepth 20000 in
theorem ok_74 : ∀ r ∈ tb_74, sm_ok 74 r := List.forall_mem_cons.mpr ⟨d_74_0, List.forall_mem_cons.mpr ⟨d_74_1, List.forall_mem_cons.mpr ⟨⟨d_74_3, (by decide)⟩, List.forall_mem_cons.mpr ⟨d_74_6, List.forall_mem_cons.mpr ⟨d_74_7, List.forall_mem_cons.mpr ⟨⟨d_74_9, (by decide)⟩, List.forall_mem_cons.mpr ⟨d_74_12, List.forall_mem_cons.mpr ⟨⟨d_74_13, (by decide)⟩, List.forall_mem_cons.mpr ⟨d_74_16, List.forall_mem_cons.mpr ⟨d_74_17, fun _ h => absurd h List.not_mem_nil⟩⟩⟩⟩⟩⟩⟩⟩⟩⟩
theorem d_75_0 : decode prog_10_method_8_code 0 = .ok (.iload_n 1, 1) := by decide +kernel
theorem d_75_1 : decode prog_10_method_8_code 1 = .ok (.ifCond .ne 5, 3) := by decide +kernel
theorem d_75_4 : decode prog_10_method_8_code 4 = .ok (.iconst 0, 1) := by decide +kernel
theorem d_75_5 : decode prog_10_method_8_code 5 = .ok (.ireturn, 1) := by decide +kernel
theorem d_75_6 : decode prog_10_method_8_code 6 = .ok (.aload_n 0, 1) := by decide +kernel
theorem d_75_7 : decode prog_10_method_8_code 7 = .ok (.iload_n 1, 1) := by decide +kernel
theorem d_75_8 : decode prog_10_method_8_code 8 = .ok (.caload, 1) := by decide +kernel
theorem d_75_9 : decode prog_10_method_8_code 9 = .ok (.invokestatic 33, 3) := by decide +kernel
theorem d_75_12 : decode prog_10_method_8_code 12 = .ok (.ifCond .eq 14, 3) := by decide +kernel
theorem d_75_15 : decode prog_10_method_8_code 15 = .ok (.aload_n 0, 1) := by decide +kernel
theorem d_75_16 : decode prog_10_method_8_code 16 = .ok (.iload_n 1, 1) := by decide +kernel
theorem d_75_17 : decode prog_10_method_8_code 17 = .ok (.iconst 1, 1) := by decide +kernel
theorem d_75_18 : decode prog_10_method_8_code 18 = .ok (.isub, 1) := by decide +kernel
theorem d_75_19 : decode prog_10_method_8_code 19 = .ok (.caload, 1) := by decide +kernel
theorem d_75_20 : decode prog_10_method_8_code 20 = .ok (.invokestatic 33, 3) := by decide +kernel
theorem d_75_23 : decode prog_10_method_8_code 23 = .ok (.ifCond .ne 23, 3) := by decide +kernel
theorem d_75_26 : decode prog_10_method_8_code 26 = .ok (.aload_n 0, 1) := by decide +kernel
theorem d_75_27 : decode prog_10_method_8_code 27 = .ok (.iload_n 1, 1) := by decide +kernel
theorem d_75_28 : decode prog_10_method_8_code 28 = .ok (.caload, 1) := by decide +kernel
theorem d_75_29 : decode prog_10_method_8_code 29 = .ok (.invokestatic 37, 3) := by decide +kernel
theorem d_75_32 : decode prog_10_method_8_code 32 = .ok (.ifCond .eq 18, 3) := by decide +kernel
theorem d_75_35 : decode prog_10_method_8_code 35 = .ok (.aload_n 0, 1) := by decide +kernel
theorem d_75_36 : decode prog_10_method_8_code 36 = .ok (.iload_n 1, 1) := by decide +kernel
theorem d_75_37 : decode prog_10_method_8_code 37 = .ok (.iconst 1, 1) := by decide +kernel
theorem d_75_38 : decode prog_10_method_8_code 38 = .ok (.isub, 1) := by decide +kernel
theorem d_75_39 : decode prog_10_method_8_code 39 = .ok (.caload, 1) := by decide +kernel
theorem d_75_40 : decode prog_10_method_8_code 40 = .ok (.invokestatic 37, 3) := by decide +kernel
theorem d_75_43 : decode prog_10_method_8_code 43 = .ok (.ifCond .eq 7, 3) := by decide +kernel
theorem d_75_46 : decode prog_10_method_8_code 46 = .ok (.iconst 1, 1) := by decide +kernel
theorem d_75_47 : decode prog_10_method_8_code 47 = .ok (.goto 4, 3) := by decide +kernel
theorem d_75_50 : decode prog_10_method_8_code 50 = .ok (.iconst 0, 1) := by decide +kernel
theorem d_75_51 : decode prog_10_method_8_code 51 = .ok (.ireturn, 1) := by decide +kernel
set_option maxRecDepth 20000 in
theorem ok_75 : ∀ r ∈ tb_75, sm_ok 75 r := List.forall_mem_cons.mpr ⟨d_75_0, List.forall_mem_cons.mpr ⟨⟨d_75_1, (by decide)⟩, List.forall_mem_cons.mpr ⟨d_75_4, List.forall_mem_cons.mpr ⟨d_75_5, List.forall_mem_cons.mpr ⟨d_75_6, List.forall_mem_cons.mpr ⟨d_75_7, List.forall_mem_cons.mpr ⟨d_75_8, List.forall_mem_cons.mpr ⟨⟨d_75_9, (Or.inl ⟨Nat.le_of_ble_eq_true rfl, mo_73, ms_73, pm_87⟩)⟩, List.forall_mem_cons.mpr ⟨⟨d_75_12, (by decide)⟩, List.forall_mem_cons.mpr ⟨d_75_15, List.forall_mem_cons.mpr ⟨d_75_16, List.forall_mem_cons.mpr ⟨d_75_17, List.forall_mem_cons.mpr ⟨d_75_18, List.forall_mem_cons.mpr ⟨d_75_19, List.forall_mem_cons.mpr ⟨⟨d_75_20, (Or.inl ⟨Nat.le_of_ble_eq_true rfl, mo_73, ms_73, pm_87⟩)⟩, List.forall_mem_cons.mpr ⟨⟨d_75_23, (by decide)⟩, List.forall_mem_cons.mpr ⟨d_75_26, List.forall_mem_cons.mpr ⟨d_75_27, List.forall_mem_cons.mpr ⟨d_75_28, List.forall_mem_cons.mpr ⟨⟨d_75_29, (Or.inl ⟨Nat.le_of_ble_eq_true rfl, mo_74, ms_74, pm_88⟩)⟩, List.forall_mem_cons.mpr ⟨⟨d_75_32, (by decide)⟩, List.forall_mem_cons.mpr ⟨d_75_35, List.forall_mem_cons.mpr ⟨d_75_36, List.forall_mem_cons.mpr ⟨d_75_37, List.forall_mem_cons.mpr ⟨d_75_38, List.forall_mem_cons.mpr ⟨d_75_39, List.forall_mem_cons.mpr ⟨⟨d_75_40, (Or.inl ⟨Nat.le_of_ble_eq_true rfl, mo_74, ms_74, pm_88⟩)⟩, List.forall_mem_cons.mpr ⟨⟨d_75_43, (by decide)⟩, List.forall_mem_cons.mpr ⟨d_75_46, List.forall_mem_cons.mpr ⟨⟨d_75_47, (by decide)⟩, List.forall_mem_cons.mpr ⟨d_75_50, List.forall_mem_cons.mpr ⟨d_75_51, fun _ h => absurd h List.not_mem_nil⟩⟩⟩⟩⟩⟩⟩⟩⟩⟩⟩⟩⟩⟩⟩⟩⟩⟩⟩⟩⟩⟩⟩⟩⟩⟩⟩⟩⟩⟩⟩⟩
theorem d_76_0 : decode prog_10_method_9_code 0 = .ok (.aload_n 1, 1) := by decide +kernel
theorem d_76_1 : decode prog_10_method_9_code 1 = .ok (.iload_n 2, 1) := by decide +kernel
theorem d_76_2 : decode prog_10_method_9_code 2 = .ok (.caload, 1) := by decide +kernel
theorem d_76_3 : decode prog_10_method_9_code 3 = .ok (.istore 4, 2) := by decide +kernel
theorem d_76_5 : decode prog_10_method_9_code 5 = .ok (.iload 4, 2) := by decide +kernel
theorem d_76_7 : decode prog_10_method_9_code 7 = .ok (.invokestatic 33, 3) := by decide +kernel
theorem d_76_10 : decode prog_10_method_9_code 10 = .ok (.ifCond .eq 11, 3) := by decide +kernel
theorem d_76_13 : decode prog_10_method_9_code 13 = .ok (.aload_n 0, 1) := by decide +kernel
theorem d_76_14 : decode prog_10_method_9_code 14 = .ok (.aload_n 1, 1) := by decide +kernel
theorem d_76_15 : decode prog_10_method_9_code 15 = .ok (.iload_n 2, 1) := by decide +kernel
theorem d_76_16 : decode prog_10_method_9_code 16 = .ok (.iload_n 3, 1) := by decide +kernel
theorem d_76_17 : decode prog_10_method_9_code 17 = .ok (.invokevirtual 40, 3) := by decide +kernel
theorem d_76_20 : decode prog_10_method_9_code 20 = .ok (.ireturn, 1) := by decide +kernel
theorem d_76_21 : decode prog_10_method_9_code 21 = .ok (.iload 4, 2) := by decide +kernel
theorem d_76_23 : decode prog_10_method_9_code 23 = .ok (.invokestatic 37, 3) := by decide +kernel
theorem d_76_26 : decode prog_10_method_9_code 26 = .ok (.ifCond .eq 11, 3) := by decide +kernel
theorem d_76_29 : decode prog_10_method_9_code 29 = .ok (.aload_n 0, 1) := by decide +kernel
theorem d_76_30 : decode prog_10_method_9_code 30 = .ok (.aload_n 1, 1) := by decide +kernel
theorem d_76_31 : decode prog_10_method_9_code 31 = .ok (.iload_n 2, 1) := by decide +kernel
theorem d_76_32 : decode prog_10_method_9_code 32 = .ok (.iload_n 3, 1) := by decide +kernel
theorem d_76_33 : decode prog_10_method_9_code 33 = .ok (.invokevirtual 43, 3) := by decide +kernel
theorem d_76_36 : decode prog_10_method_9_code 36 = .ok (.ireturn, 1) := by decide +kernel
theorem d_76_37 : decode prog_10_method_9_code 37 = .ok (.iload 4, 2) := by decide +kernel
theorem d_76_39 : decode prog_10_method_9_code 39 = .ok (.bipush 65, 2) := by decide +kernel
theorem d_76_41 : decode prog_10_method_9_code 41 = .ok (.if_icmp .lt 21, 3) := by decide +kernel
theorem d_76_44 : decode prog_10_method_9_code 44 = .ok (.iload 4, 2) := by decide +kernel
theorem d_76_46 : decode prog_10_method_9_code 46 = .ok (.bipush 67, 2) := by decide +kernel
theorem d_76_48 : decode prog_10_method_9_code 48 = .ok (.if_icmp .gt 14, 3) := by decide +kernel
theorem d_76_51 : decode prog_10_method_9_code 51 = .ok (.aload_n 0, 1) := by decide +kernel
theorem d_76_52 : decode prog_10_method_9_code 52 = .ok (.iconst 1, 1) := by decide +kernel
theorem d_76_53 : decode prog_10_method_9_code 53 = .ok (.iload 4, 2) := by decide +kernel
theorem d_76_55 : decode prog_10_method_9_code 55 = .ok (.bipush 65, 2) := by decide +kernel
theorem d_76_57 : decode prog_10_method_9_code 57 = .ok (.isub, 1) := by decide +kernel
theorem d_76_58 : decode prog_10_method_9_code 58 = .ok (.invokevirtual 46, 3) := by decide +kernel
theorem d_76_61 : decode prog_10_method_9_code 61 = .ok (.ireturn, 1) := by decide +kernel
theorem d_76_62 : decode prog_10_method_9_code 62 = .ok (.ldc 50, 2) := by decide +kernel
theorem d_76_64 : decode prog_10_method_9_code 64 = .ok (.iload 4, 2) := by decide +kernel
theorem d_76_66 : decode prog_10_method_9_code 66 = .ok (.invokevirtual 52, 3) := by decide +kernel
theorem d_76_69 : decode prog_10_method_9_code 69 = .ok (.ifCond .lt 17, 3) := by decide +kernel
theorem d_76_72 : decode prog_10_method_9_code 72 = .ok (.aload_n 0, 1) := by decide +kernel
theorem d_76_73 : decode prog_10_method_9_code 73 = .ok (.iload 4, 2) := by decide +kernel
theorem d_76_75 : decode prog_10_method_9_code 75 = .ok (.iconst 0, 1) := by decide +kernel
theorem d_76_76 : decode prog_10_method_9_code 76 = .ok (.invokevirtual 46, 3) := by decide +kernel
theorem d_76_79 : decode prog_10_method_9_code 79 = .ok (.ifCond .eq 7, 3) := by decide +kernel
theorem d_76_82 : decode prog_10_method_9_code 82 = .ok (.iconst 1, 1) := by decide +kernel
theorem d_76_83 : decode prog_10_method_9_code 83 = .ok (.goto 4, 3) := by decide +kernel
theorem d_76_86 : decode prog_10_method_9_code 86 = .ok (.iconst 0, 1) := by decide +kernel
theorem d_76_87 : decode prog_10_method_9_code 87 = .ok (.ireturn, 1) := by decide +kernel
set_option maxRecDepth 20000 in
theorem ok_76 : ∀ r ∈ tb_76, sm_ok 76 r := List.forall_mem_cons.mpr ⟨d_76_0, List.forall_mem_cons.mpr ⟨d_76_1, List.forall_mem_cons.mpr ⟨d_76_2, List.forall_mem_cons.mpr ⟨d_76_3, List.forall_mem_cons.mpr ⟨d_76_5, List.forall_mem_cons.mpr ⟨⟨d_76_7, (Or.inl ⟨Nat.le_of_ble_eq_true rfl, mo_73, ms_73, pm_87⟩)⟩, List.forall_mem_cons.mpr ⟨⟨d_76_10, (by decide)⟩, List.forall_mem_cons.mpr ⟨d_76_13, List.forall_mem_cons.mpr ⟨d_76_14, List.forall_mem_cons.mpr ⟨d_76_15, List.forall_mem_cons.mpr ⟨d_76_16, List.forall_mem_cons.mpr ⟨⟨d_76_17, ⟨mo_78, mi_78, se_78, pm_89⟩⟩, List.forall_mem_cons.mpr ⟨d_76_20, List.forall_mem_cons.mpr ⟨d_76_21, List.forall_mem_cons.mpr ⟨⟨d_76_23, (Or.inl ⟨Nat.le_of_ble_eq_true rfl, mo_74, ms_74, pm_88⟩)⟩, List.forall_mem_cons.mpr ⟨⟨d_76_26, (by decide)⟩, List.forall_mem_cons.mpr ⟨d_76_29, List.forall_mem_cons.mpr ⟨d_76_30, List.forall_mem_cons.mpr ⟨d_76_31, List.forall_mem_cons.mpr ⟨d_76_32, List.forall_mem_cons.mpr ⟨⟨d_76_33, ⟨mo_77, mi_77, se_77, pm_90⟩⟩, List.forall_mem_cons.mpr ⟨d_76_36, List.forall_mem_cons.mpr ⟨d_76_37, List.forall_mem_cons.mpr ⟨d_76_39, List.forall_mem_cons.mpr ⟨⟨d_76_41, (by decide)⟩, List.forall_mem_cons.mpr ⟨d_76_44, List.forall_mem_cons.mpr ⟨d_76_46, List.forall_mem_cons.mpr ⟨⟨d_76_48, (by decide)⟩, List.forall_mem_cons.mpr ⟨d_76_51, List.forall_mem_cons.mpr ⟨d_76_52, List.forall_mem_cons.mpr ⟨d_76_53, List.forall_mem_cons.mpr ⟨d_76_55, List.forall_mem_cons.mpr ⟨d_76_57, List.forall_mem_cons.mpr ⟨⟨d_76_58, ⟨mo_79, mi_79, se_79, pm_91⟩⟩, List.forall_mem_cons.mpr ⟨d_76_61, List.forall_mem_cons.mpr ⟨⟨d_76_62, ⟨(fun _ h => sm_n0 h), fun _ => ⟨_, lit_15⟩⟩⟩, List.forall_mem_cons.mpr ⟨d_76_64, List.forall_mem_cons.mpr ⟨⟨d_76_66, ⟨mo_200, mi_200, se_200, pm_92⟩⟩, List.forall_mem_cons.mpr ⟨⟨d_76_69, (by decide)⟩, List.forall_mem_cons.mpr ⟨d_76_72, List.forall_mem_cons.mpr ⟨d_76_73, List.forall_mem_cons.mpr ⟨d_76_75, List.forall_mem_cons.mpr ⟨⟨d_76_76, ⟨mo_79, mi_79, se_79, pm_91⟩⟩, List.forall_mem_cons.mpr ⟨⟨d_76_79, (by decide)⟩, List.forall_mem_cons.mpr ⟨d_76_82, List.forall_mem_cons.mpr ⟨⟨d_76_83, (by decide)⟩, List.forall_mem_cons.mpr ⟨d_76_86, List.forall_mem_cons.mpr ⟨d_76_87, fun _ h => absurd h List.not_mem_nil⟩⟩⟩⟩⟩⟩⟩⟩⟩⟩⟩⟩⟩⟩⟩⟩⟩⟩⟩⟩⟩⟩⟩⟩⟩⟩⟩⟩⟩⟩⟩⟩⟩⟩⟩⟩⟩⟩⟩⟩⟩⟩⟩⟩⟩⟩⟩⟩
theorem d_77_0 : decode prog_10_method_10_code 0 = .ok (.iconst 0, 1) := by decide +kernel
theorem d_77_1 : decode prog_10_method_10_code 1 = .ok (.istore 4, 2) := by decide +kernel
theorem d_77_3 : decode prog_10_method_10_code 3 = .ok (.iload_n 2, 1) := by decide +kernel
theorem d_77_4 : decode prog_10_method_10_code 4 = .ok (.istore 5, 2) := by decide +kernel
theorem d_77_6 : decode prog_10_method_10_code 6 = .ok (.iload 5, 2) := by decide +kernel
theorem d_77_8 : decode prog_10_method_10_code 8 = .ok (.iload_n 3, 1) := by decide +kernel
theorem d_77_9 : decode prog_10_method_10_code 9 = .ok (.if_icmp .ge 34, 3) := by decide +kernel
theorem d_77_12 : decode prog_10_method_10_code 12 = .ok (.aload_n 1, 1) := by decide +kernel
theorem d_77_13 : decode prog_10_method_10_code 13 = .ok (.iload 5, 2) := by decide +kernel
theorem d_77_15 : decode prog_10_method_10_code 15 = .ok (.caload, 1) := by decide +kernel
theorem d_77_16 : decode prog_10_method_10_code 16 = .ok (.invokestatic 37, 3) := by decide +kernel
theorem d_77_19 : decode prog_10_method_10_code 19 = .ok (.ifCond .eq 24, 3) := by decide +kernel
theorem d_77_22 : decode prog_10_method_10_code 22 = .ok (.iload 4, 2) := by decide +kernel
theorem d_77_24 : decode prog_10_method_10_code 24 = .ok (.bipush 10, 2) := by decide +kernel
theorem d_77_26 : decode prog_10_method_10_code 26 = .ok (.imul, 1) := by decide +kernel
theorem d_77_27 : decode prog_10_method_10_code 27 = .ok (.aload_n 1, 1) := by decide +kernel
theorem d_77_28 : decode prog_10_method_10_code 28 = .ok (.iload 5, 2) := by decide +kernel
theorem d_77_30 : decode prog_10_method_10_code 30 = .ok (.caload, 1) := by decide +kernel
theorem d_77_31 : decode prog_10_method_10_code 31 = .ok (.bipush 48, 2) := by decide +kernel
theorem d_77_33 : decode prog_10_method_10_code 33 = .ok (.isub, 1) := by decide +kernel
theorem d_77_34 : decode prog_10_method_10_code 34 = .ok (.iadd, 1) := by decide +kernel
theorem d_77_35 : decode prog_10_method_10_code 35 = .ok (.istore 4, 2) := by decide +kernel
theorem d_77_37 : decode prog_10_method_10_code 37 = .ok (.iinc 5 1, 3) := by decide +kernel
theorem d_77_40 : decode prog_10_method_10_code 40 = .ok (.goto (-34), 3) := by decide +kernel
theorem d_77_43 : decode prog_10_method_10_code 43 = .ok (.iload 5, 2) := by decide +kernel
theorem d_77_45 : decode prog_10_method_10_code 45 = .ok (.iload_n 2, 1) := by decide +kernel
theorem d_77_46 : decode prog_10_method_10_code 46 = .ok (.isub, 1) := by decide +kernel
theorem d_77_47 : decode prog_10_method_10_code 47 = .ok (.bipush 9, 2) := by decide +kernel
theorem d_77_49 : decode prog_10_method_10_code 49 = .ok (.if_icmp .gt 17, 3) := by decide +kernel
theorem d_77_52 : decode prog_10_method_10_code 52 = .ok (.aload_n 0, 1) := by decide +kernel
theorem d_77_53 : decode prog_10_method_10_code 53 = .ok (.iconst 2, 1) := by decide +kernel
theorem d_77_54 : decode prog_10_method_10_code 54 = .ok (.iload 4, 2) := by decide +kernel
theorem d_77_56 : decode prog_10_method_10_code 56 = .ok (.invokevirtual 46, 3) := by decide +kernel
theorem d_77_59 : decode prog_10_method_10_code 59 = .ok (.ifCond .eq 7, 3) := by decide +kernel
theorem d_77_62 : decode prog_10_method_10_code 62 = .ok (.iconst 1, 1) := by decide +kernel
theorem d_77_63 : decode prog_10_method_10_code 63 = .ok (.goto 4, 3) := by decide +kernel
theorem d_77_66 : decode prog_10_method_10_code 66 = .ok (.iconst 0, 1) := by decide +kernel
theorem d_77_67 : decode prog_10_method_10_code 67 = .ok (.ireturn, 1) := by decide +kernel
set_option maxRecDepth 20000 in
theorem ok_77 : ∀ r ∈ tb_77, sm_ok 77 r := List.forall_mem_cons.mpr ⟨d_77_0, List.forall_mem_cons.mpr ⟨d_77_1, List.forall_mem_cons.mpr ⟨d_77_3, List.forall_mem_cons.mpr ⟨d_77_4, List.forall_mem_cons.mpr ⟨d_77_6, List.forall_mem_cons.mpr ⟨d_77_8, List.forall_mem_cons.mpr ⟨⟨d_77_9, (by decide)⟩, List.forall_mem_cons.mpr ⟨d_77_12, List.forall_mem_cons.mpr ⟨d_77_13, List.forall_mem_cons.mpr ⟨d_77_15, List.forall_mem_cons.mpr ⟨⟨d_77_16, (Or.inl ⟨Nat.le_of_ble_eq_true rfl, mo_74, ms_74, pm_88⟩)⟩, List.forall_mem_cons.mpr ⟨⟨d_77_19, (by decide)⟩, List.forall_mem_cons.mpr ⟨d_77_22, List.forall_mem_cons.mpr ⟨d_77_24, List.forall_mem_cons.mpr ⟨d_77_26, List.forall_mem_cons.mpr ⟨d_77_27, List.forall_mem_cons.mpr ⟨d_77_28, List.forall_mem_cons.mpr ⟨d_77_30, List.forall_mem_cons.mpr ⟨d_77_31, List.forall_mem_cons.mpr ⟨d_77_33, List.forall_mem_cons.mpr ⟨d_77_34, List.forall_mem_cons.mpr ⟨d_77_35, List.forall_mem_cons.mpr ⟨d_77_37, List.forall_mem_cons.mpr ⟨⟨d_77_40, (by decide)⟩, List.forall_mem_cons.mpr ⟨d_77_43, List.forall_mem_cons.mpr ⟨d_77_45, List.forall_mem_cons.mpr ⟨d_77_46, List.forall_mem_cons.mpr ⟨d_77_47, List.forall_mem_cons.mpr ⟨⟨d_77_49, (by decide)⟩, List.forall_mem_cons.mpr ⟨d_77_52, List.forall_mem_cons.mpr ⟨d_77_53, List.forall_mem_cons.mpr ⟨d_77_54, List.forall_mem_cons.mpr ⟨⟨d_77_56, ⟨mo_79, mi_79, se_79, pm_91⟩⟩, List.forall_mem_cons.mpr ⟨⟨d_77_59, (by decide)⟩, List.forall_mem_cons.mpr ⟨d_77_62, List.forall_mem_cons.mpr ⟨⟨d_77_63, (by decide)⟩, List.forall_mem_cons.mpr ⟨d_77_66, List.forall_mem_cons.mpr ⟨d_77_67, fun _ h => absurd h List.not_mem_nil⟩⟩⟩⟩⟩⟩⟩⟩⟩⟩⟩⟩⟩⟩⟩⟩⟩⟩⟩⟩⟩⟩⟩⟩⟩⟩⟩⟩⟩⟩⟩⟩⟩⟩⟩⟩⟩⟩
theorem d_78_0 : decode prog_10_method_11_code 0 = .ok (.iload_n 2, 1) := by decide +kernel
theorem d_78_1 : decode prog_10_method_11_code 1 = .ok (.istore 4, 2) := by decide +kernel
theorem d_78_3 : decode prog_10_method_11_code 3 = .ok (.iload 4, 2) := by decide +kernel
theorem d_78_5 : decode prog_10_method_11_code 5 = .ok (.iload_n 3, 1) := by decide +kernel
theorem d_78_6 : decode prog_10_method_11_code 6 = .ok (.if_icmp .ge 19, 3) := by decide +kernel
theorem d_78_9 : decode prog_10_method_11_code 9 = .ok (.aload_n 1, 1) := by decide +kernel
theorem d_78_10 : decode prog_10_method_11_code 10 = .ok (.iload 4, 2) := by decide +kernel
theorem d_78_12 : decode prog_10_method_11_code 12 = .ok (.caload, 1) := by decide +kernel
theorem d_78_13 : decode prog_10_method_11_code 13 = .ok (.invokestatic 33, 3) := by decide +kernel
theorem d_78_16 : decode prog_10_method_11_code 16 = .ok (.ifCond .eq 9, 3) := by decide +kernel
theorem d_78_19 : decode prog_10_method_11_code 19 = .ok (.iinc 4 1, 3) := by decide +kernel
theorem d_78_22 : decode prog_10_method_11_code 22 = .ok (.goto (-19), 3) := by decide +kernel
theorem d_78_25 : decode prog_10_method_11_code 25 = .ok (.iload 4, 2) := by decide +kernel
theorem d_78_27 : decode prog_10_method_11_code 27 = .ok (.iload_n 2, 1) := by decide +kernel
theorem d_78_28 : decode prog_10_method_11_code 28 = .ok (.isub, 1) := by decide +kernel
theorem d_78_29 : decode prog_10_method_11_code 29 = .ok (.iconst 1, 1) := by decide +kernel
theorem d_78_30 : decode prog_10_method_11_code 30 = .ok (.if_icmp .ne 31, 3) := by decide +kernel
theorem d_78_33 : decode prog_10_method_11_code 33 = .ok (.aload_n 1, 1) := by decide +kernel
theorem d_78_34 : decode prog_10_method_11_code 34 = .ok (.iload_n 2, 1) := by decide +kernel
theorem d_78_35 : decode prog_10_method_11_code 35 = .ok (.caload, 1) := by decide +kernel
theorem d_78_36 : decode prog_10_method_11_code 36 = .ok (.bipush 100, 2) := by decide +kernel
theorem d_78_38 : decode prog_10_method_11_code 38 = .ok (.if_icmp .gt 21, 3) := by decide +kernel
theorem d_78_41 : decode prog_10_method_11_code 41 = .ok (.aload_n 0, 1) := by decide +kernel
theorem d_78_42 : decode prog_10_method_11_code 42 = .ok (.iconst 3, 1) := by decide +kernel
theorem d_78_43 : decode prog_10_method_11_code 43 = .ok (.aload_n 1, 1) := by decide +kernel
theorem d_78_44 : decode prog_10_method_11_code 44 = .ok (.iload_n 2, 1) := by decide +kernel
theorem d_78_45 : decode prog_10_method_11_code 45 = .ok (.caload, 1) := by decide +kernel
theorem d_78_46 : decode prog_10_method_11_code 46 = .ok (.bipush 97, 2) := by decide +kernel
theorem d_78_48 : decode prog_10_method_11_code 48 = .ok (.isub, 1) := by decide +kernel
theorem d_78_49 : decode prog_10_method_11_code 49 = .ok (.invokevirtual 46, 3) := by decide +kernel
theorem d_78_52 : decode prog_10_method_11_code 52 = .ok (.ifCond .eq 7, 3) := by decide +kernel
theorem d_78_55 : decode prog_10_method_11_code 55 = .ok (.iconst 1, 1) := by decide +kernel
theorem d_78_56 : decode prog_10_method_11_code 56 = .ok (.goto 4, 3) := by decide +kernel
theorem d_78_59 : decode prog_10_method_11_code 59 = .ok (.iconst 0, 1) := by decide +kernel
theorem d_78_60 : decode prog_10_method_11_code 60 = .ok (.ireturn, 1) := by decide +kernel
theorem d_78_61 : decode prog_10_method_11_code 61 = .ok (.aload_n 1, 1) := by decide +kernel
theorem d_78_62 : decode prog_10_method_11_code 62 = .ok (.iload_n 2, 1) := by decide +kernel
theorem d_78_63 : decode prog_10_method_11_code 63 = .ok (.iload 4, 2) := by decide +kernel
theorem d_78_65 : decode prog_10_method_11_code 65 = .ok (.invokestatic 58, 3) := by decide +kernel
theorem d_78_68 : decode prog_10_method_11_code 68 = .ok (.istore 5, 2) := by decide +kernel
theorem d_78_70 : decode prog_10_method_11_code 70 = .ok (.iload 5, 2) := by decide +kernel
theorem d_78_72 : decode prog_10_method_11_code 72 = .ok (.iconst (-1), 1) := by decide +kernel
theorem d_78_73 : decode prog_10_method_11_code 73 = .ok (.if_icmp .ne 12, 3) := by decide +kernel
theorem d_78_76 : decode prog_10_method_11_code 76 = .ok (.aload_n 1, 1) := by decide +kernel
theorem d_78_77 : decode prog_10_method_11_code 77 = .ok (.iload_n 2, 1) := by decide +kernel
theorem d_78_78 : decode prog_10_method_11_code 78 = .ok (.iload 4, 2) := by decide +kernel
theorem d_78_80 : decode prog_10_method_11_code 80 = .ok (.invokestatic 62, 3) := by decide +kernel
theorem d_78_83 : decode prog_10_method_11_code 83 = .ok (.istore 5, 2) := by decide +kernel
theorem d_78_85 : decode prog_10_method_11_code 85 = .ok (.iload 5, 2) := by decide +kernel
theorem d_78_87 : decode prog_10_method_11_code 87 = .ok (.iconst (-1), 1) := by decide +kernel
theorem d_78_88 : decode prog_10_method_11_code 88 = .ok (.if_icmp .eq 17, 3) := by decide +kernel
theorem d_78_91 : decode prog_10_method_11_code 91 = .ok (.aload_n 0, 1) := by decide +kernel
theorem d_78_92 : decode prog_10_method_11_code 92 = .ok (.iload 5, 2) := by decide +kernel
theorem d_78_94 : decode prog_10_method_11_code 94 = .ok (.iconst 0, 1) := by decide +kernel
theorem d_78_95 : decode prog_10_method_11_code 95 = .ok (.invokevirtual 46, 3) := by decide +kernel
theorem d_78_98 : decode prog_10_method_11_code 98 = .ok (.ifCond .eq 7, 3) := by decide +kernel
theorem d_78_101 : decode prog_10_method_11_code 101 = .ok (.iconst 1, 1) := by decide +kernel
theorem d_78_102 : decode prog_10_method_11_code 102 = .ok (.goto 4, 3) := by decide +kernel
theorem d_78_105 : decode prog_10_method_11_code 105 = .ok (.iconst 0, 1) := by decide +kernel
theorem d_78_106 : decode prog_10_method_11_code 106 = .ok (.ireturn, 1) := by decide +kernel
set_option maxRecDepth 20000 in
theorem ok_78 : ∀ r ∈ tb_78, sm_ok 78 r := List.forall_mem_cons.mpr ⟨d_78_0, List.forall_mem_cons.mpr ⟨d_78_1, List.forall_mem_cons.mpr ⟨d_78_3, List.forall_mem_cons.mpr ⟨d_78_5, List.forall_mem_cons.mpr ⟨⟨d_78_6, (by decide)⟩, List.forall_mem_cons.mpr ⟨d_78_9, List.forall_mem_cons.mpr ⟨d_78_10, List.forall_mem_cons.mpr ⟨d_78_12, List.forall_mem_cons.mpr ⟨⟨d_78_13, (Or.inl ⟨Nat.le_of_ble_eq_true rfl, mo_73, ms_73, pm_87⟩)⟩, List.forall_mem_cons.mpr ⟨⟨d_78_16, (by decide)⟩, List.forall_mem_cons.mpr ⟨d_78_19, List.forall_mem_cons.mpr ⟨⟨d_78_22, (by decide)⟩, List.forall_mem_cons.mpr ⟨d_78_25, List.forall_mem_cons.mpr ⟨d_78_27, List.forall_mem_cons.mpr ⟨d_78_28, List.forall_mem_cons.mpr ⟨d_78_29, List.forall_mem_cons.mpr ⟨⟨d_78_30, (by decide)⟩, List.forall_mem_cons.mpr ⟨d_78_33, List.forall_mem_cons.mpr ⟨d_78_34, List.forall_mem_cons.mpr ⟨d_78_35, List.forall_mem_cons.mpr ⟨d_78_36, List.forall_mem_cons.mpr ⟨⟨d_78_38, (by decide)⟩, List.forall_mem_cons.mpr ⟨d_78_41, List.forall_mem_cons.mpr ⟨d_78_42, List.forall_mem_cons.mpr ⟨d_78_43, List.forall_mem_cons.mpr ⟨d_78_44, List.forall_mem_cons.mpr ⟨d_78_45, List.forall_mem_cons.mpr ⟨d_78_46, List.forall_mem_cons.mpr ⟨d_78_48, List.forall_mem_cons.mpr ⟨⟨d_78_49, ⟨mo_79, mi_79, se_79, pm_91⟩⟩, List.forall_mem_cons.mpr ⟨⟨d_78_52, (by decide)⟩, List.forall_mem_cons.mpr ⟨d_78_55, List.forall_mem_cons.mpr ⟨⟨d_78_56, (by decide)⟩, List.forall_mem_cons.mpr ⟨d_78_59, List.forall_mem_cons.mpr ⟨d_78_60, List.forall_mem_cons.mpr ⟨d_78_61, List.forall_mem_cons.mpr ⟨d_78_62, List.forall_mem_cons.mpr ⟨d_78_63, List.forall_mem_cons.mpr ⟨⟨d_78_65, (Or.inl ⟨Nat.le_of_ble_eq_true rfl, mo_80, ms_80, pm_93⟩)⟩, List.forall_mem_cons.mpr ⟨d_78_68, List.forall_mem_cons.mpr ⟨d_78_70, List.forall_mem_cons.mpr ⟨d_78_72, List.forall_mem_cons.mpr ⟨⟨d_78_73, (by decide)⟩, List.forall_mem_cons.mpr ⟨d_78_76, List.forall_mem_cons.mpr ⟨d_78_77, List.forall_mem_cons.mpr ⟨d_78_78, List.forall_mem_cons.mpr ⟨⟨d_78_80, (Or.inl ⟨Nat.le_of_ble_eq_true rfl, mo_81, ms_81, pm_94⟩)⟩, List.forall_mem_cons.mpr ⟨d_78_83, List.forall_mem_cons.mpr ⟨d_78_85, List.forall_mem_cons.mpr ⟨d_78_87, List.forall_mem_cons.mpr ⟨⟨d_78_88, (by decide)⟩, List.forall_mem_cons.mpr ⟨d_78_91, List.forall_mem_cons.mpr ⟨d_78_92, List.forall_mem_cons.mpr ⟨d_78_94, List.forall_mem_cons.mpr ⟨⟨d_78_95, ⟨mo_79, mi_79, se_79, pm_91⟩⟩, List.forall_mem_cons.mpr ⟨⟨d_78_98, (by decide)⟩, List.forall_mem_cons.mpr ⟨d_78_101, List.forall_mem_cons.mpr ⟨⟨d_78_102, (by decide)⟩, List.forall_mem_cons.mpr ⟨d_78_105, List.forall_mem_cons.mpr ⟨d_78_106, fun _ h => absurd h List.not_mem_nil⟩⟩⟩⟩⟩⟩⟩⟩⟩⟩⟩⟩⟩⟩⟩⟩⟩⟩⟩⟩⟩⟩⟩⟩⟩⟩⟩⟩⟩⟩⟩⟩⟩⟩⟩⟩⟩⟩⟩⟩⟩⟩⟩⟩⟩⟩⟩⟩⟩⟩⟩⟩⟩⟩⟩⟩⟩⟩⟩⟩
theorem d_79_0 : decode prog_10_method_12_code 0 = .ok (.aload_n 0, 1) := by decide +kernel
theorem d_79_1 : decode prog_10_method_12_code 1 = .ok (.getfield 18, 3) := by decide +kernel
theorem d_79_4 : decode prog_10_method_12_code 4 = .ok (.bipush 80, 2) := by decide +kernel
theorem d_79_6 : decode prog_10_method_12_code 6 = .ok (.if_icmp .lt 5, 3) := by decide +kernel
theorem d_79_9 : decode prog_10_method_12_code 9 = .ok (.iconst 0, 1) := by decide +kernel
theorem d_79_10 : decode prog_10_method_12_code 10 = .ok (.ireturn, 1) := by decide +kernel
theorem d_79_11 : decode prog_10_method_12_code 11 = .ok (.aload_n 0, 1) := by decide +kernel
theorem d_79_12 : decode prog_10_method_12_code 12 = .ok (.getfield 9, 3) := by decide +kernel
theorem d_79_15 : decode prog_10_method_12_code 15 = .ok (.aload_n 0, 1) := by decide +kernel
theorem d_79_16 : decode prog_10_method_12_code 16 = .ok (.getfield 18, 3) := by decide +kernel
theorem d_79_19 : decode prog_10_method_12_code 19 = .ok (.iload_n 1, 1) := by decide +kernel
theorem d_79_20 : decode prog_10_method_12_code 20 = .ok (.iastore, 1) := by decide +kernel
theorem d_79_21 : decode prog_10_method_12_code 21 = .ok (.aload_n 0, 1) := by decide +kernel
theorem d_79_22 : decode prog_10_method_12_code 22 = .ok (.getfield 15, 3) := by decide +kernel
theorem d_79_25 : decode prog_10_method_12_code 25 = .ok (.aload_n 0, 1) := by decide +kernel
theorem d_79_26 : decode prog_10_method_12_code 26 = .ok (.getfield 18, 3) := by decide +kernel
theorem d_79_29 : decode prog_10_method_12_code 29 = .ok (.iload_n 2, 1) := by decide +kernel
theorem d_79_30 : decode prog_10_method_12_code 30 = .ok (.iastore, 1) := by decide +kernel
theorem d_79_31 : decode prog_10_method_12_code 31 = .ok (.aload_n 0, 1) := by decide +kernel
theorem d_79_32 : decode prog_10_method_12_code 32 = .ok (.dup, 1) := by decide +kernel
theorem d_79_33 : decode prog_10_method_12_code 33 = .ok (.getfield 18, 3) := by decide +kernel
theorem d_79_36 : decode prog_10_method_12_code 36 = .ok (.iconst 1, 1) := by decide +kernel
theorem d_79_37 : decode prog_10_method_12_code 37 = .ok (.iadd, 1) := by decide +kernel
theorem d_79_38 : decode prog_10_method_12_code 38 = .ok (.putfield 18, 3) := by decide +kernel
theorem d_79_41 : decode prog_10_method_12_code 41 = .ok (.iconst 1, 1) := by decide +kernel
theorem d_79_42 : decode prog_10_method_12_code 42 = .ok (.ireturn, 1) := by decide +kernel
set_option maxRecDepth 20000 in
theorem ok_79 : ∀ r ∈ tb_79, sm_ok 79 r := List.forall_mem_cons.mpr ⟨d_79_0, List.forall_mem_cons.mpr ⟨⟨d_79_1, Or.inl pf_100⟩, List.forall_mem_cons.mpr ⟨d_79_4, List.forall_mem_cons.mpr ⟨⟨d_79_6, (by decide)⟩, List.forall_mem_cons.mpr ⟨d_79_9, List.forall_mem_cons.mpr ⟨d_79_10, List.forall_mem_cons.mpr ⟨d_79_11, List.forall_mem_cons.mpr ⟨⟨d_79_12, Or.inl pf_101⟩, List.forall_mem_cons.mpr ⟨d_79_15, List.forall_mem_cons.mpr ⟨⟨d_79_16, Or.inl pf_100⟩, List.forall_mem_cons.mpr ⟨d_79_19, List.forall_mem_cons.mpr ⟨d_79_20, List.forall_mem_cons.mpr ⟨d_79_21, List.forall_mem_cons.mpr ⟨⟨d_79_22, Or.inl pf_102⟩, List.forall_mem_cons.mpr ⟨d_79_25, List.forall_mem_cons.mpr ⟨⟨d_79_26, Or.inl pf_100⟩, List.forall_mem_cons.mpr ⟨d_79_29, List.forall_mem_cons.mpr ⟨d_79_30, List.forall_mem_cons.mpr ⟨d_79_31, List.forall_mem_cons.mpr ⟨d_79_32, List.forall_mem_cons.mpr ⟨⟨d_79_33, Or.inl pf_100⟩, List.forall_mem_cons.mpr ⟨d_79_36, List.forall_mem_cons.mpr ⟨d_79_37, List.forall_mem_cons.mpr ⟨⟨d_79_38, pf_97⟩, List.forall_mem_cons.mpr ⟨d_79_41, List.forall_mem_cons.mpr ⟨d_79_42, fun _ h => absurd h List.not_mem_nil⟩⟩⟩⟩⟩⟩⟩⟩⟩⟩⟩⟩⟩⟩⟩⟩⟩⟩⟩⟩⟩⟩⟩⟩⟩⟩
theorem d_80_0 : decode prog_10_method_13_code 0 = .ok (.aload_n 0, 1) := by decide +kernel
theorem d_80_1 : decode prog_10_method_13_code 1 = .ok (.iload_n 1, 1) := by decide +kernel
theorem d_80_2 : decode prog_10_method_13_code 2 = .ok (.iload_n 2, 1) := by decide +kernel
theorem d_80_3 : decode prog_10_method_13_code 3 = .ok (.ldc 65, 2) := by decide +kernel
theorem d_80_5 : decode prog_10_method_13_code 5 = .ok (.invokestatic 67, 3) := by decide +kernel
theorem d_80_8 : decode prog_10_method_13_code 8 = .ok (.ifCond .eq 5, 3) := by decide +kernel
theorem d_80_11 : decode prog_10_method_13_code 11 = .ok (.iconst 4, 1) := by decide +kernel
theorem d_80_12 : decode prog_10_method_13_code 12 = .ok (.ireturn, 1) := by decide +kernel
theorem d_80_13 : decode prog_10_method_13_code 13 = .ok (.aload_n 0, 1) := by decide +kernel
theorem d_80_14 : decode prog_10_method_13_code 14 = .ok (.iload_n 1, 1) := by decide +kernel
theorem d_80_15 : decode prog_10_method_13_code 15 = .ok (.iload_n 2, 1) := by decide +kernel
theorem d_80_16 : decode prog_10_method_13_code 16 = .ok (.ldc 71, 2) := by decide +kernel
theorem d_80_18 : decode prog_10_method_13_code 18 = .ok (.invokestatic 67, 3) := by decide +kernel
theorem d_80_21 : decode prog_10_method_13_code 21 = .ok (.ifCond .eq 5, 3) := by decide +kernel
theorem d_80_24 : decode prog_10_method_13_code 24 = .ok (.iconst 5, 1) := by decide +kernel
theorem d_80_25 : decode prog_10_method_13_code 25 = .ok (.ireturn, 1) := by decide +kernel
theorem d_80_26 : decode prog_10_method_13_code 26 = .ok (.aload_n 0, 1) := by decide +kernel
theorem d_80_27 : decode prog_10_method_13_code 27 = .ok (.iload_n 1, 1) := by decide +kernel
theorem d_80_28 : decode prog_10_method_13_code 28 = .ok (.iload_n 2, 1) := by decide +kernel
theorem d_80_29 : decode prog_10_method_13_code 29 = .ok (.ldc 73, 2) := by decide +kernel
theorem d_80_31 : decode prog_10_method_13_code 31 = .ok (.invokestatic 67, 3) := by decide +kernel
theorem d_80_34 : decode prog_10_method_13_code 34 = .ok (.ifCond .eq 6, 3) := by decide +kernel
theorem d_80_37 : decode prog_10_method_13_code 37 = .ok (.bipush 6, 2) := by decide +kernel
theorem d_80_39 : decode prog_10_method_13_code 39 = .ok (.ireturn, 1) := by decide +kernel
theorem d_80_40 : decode prog_10_method_13_code 40 = .ok (.aload_n 0, 1) := by decide +kernel
theorem d_80_41 : decode prog_10_method_13_code 41 = .ok (.iload_n 1, 1) := by decide +kernel
theorem d_80_42 : decode prog_10_method_13_code 42 = .ok (.iload_n 2, 1) := by decide +kernel
theorem d_80_43 : decode prog_10_method_13_code 43 = .ok (.ldc 75, 2) := by decide +kernel
theorem d_80_45 : decode prog_10_method_13_code 45 = .ok (.invokestatic 67, 3) := by decide +kernel
theorem d_80_48 : decode prog_10_method_13_code 48 = .ok (.ifCond .eq 6, 3) := by decide +kernel
theorem d_80_51 : decode prog_10_method_13_code 51 = .ok (.bipush 7, 2) := by decide +kernel
theorem d_80_53 : decode prog_10_method_13_code 53 = .ok (.ireturn, 1) := by decide +kernel
theorem d_80_54 : decode prog_10_method_13_code 54 = .ok (.aload_n 0, 1) := by decide +kernel
theorem d_80_55 : decode prog_10_method_13_code 55 = .ok (.iload_n 1, 1) := by decide +kernel
theorem d_80_56 : decode prog_10_method_13_code 56 = .ok (.iload_n 2, 1) := by decide +kernel
theorem d_80_57 : decode prog_10_method_13_code 57 = .ok (.ldc 77, 2) := by decide +kernel
theorem d_80_59 : decode prog_10_method_13_code 59 = .ok (.invokestatic 67, 3) := by decide +kernel
theorem d_80_62 : decode prog_10_method_13_code 62 = .ok (.ifCond .eq 6, 3) := by decide +kernel
theorem d_80_65 : decode prog_10_method_13_code 65 = .ok (.bipush 8, 2) := by decide +kernel
theorem d_80_67 : decode prog_10_method_13_code 67 = .ok (.ireturn, 1) := by decide +kernel
theorem d_80_68 : decode prog_10_method_13_code 68 = .ok (.aload_n 0, 1) := by decide +kernel
theorem d_80_69 : decode prog_10_method_13_code 69 = .ok (.iload_n 1, 1) := by decide +kernel
theorem d_80_70 : decode prog_10_method_13_code 70 = .ok (.iload_n 2, 1) := by decide +kernel
theorem d_80_71 : decode prog_10_method_13_code 71 = .ok (.ldc 79, 2) := by decide +kernel
theorem d_80_73 : decode prog_10_method_13_code 73 = .ok (.invokestatic 67, 3) := by decide +kernel
theorem d_80_76 : decode prog_10_method_13_code 76 = .ok (.ifCond .eq 8, 3) := by decide +kernel
theorem d_80_79 : decode prog_10_method_13_code 79 = .ok (.bipush 9, 2) := by decide +kernel
theorem d_80_81 : decode prog_10_method_13_code 81 = .ok (.goto 4, 3) := by decide +kernel
theorem d_80_84 : decode prog_10_method_13_code 84 = .ok (.iconst (-1), 1) := by decide +kernel
theorem d_80_85 : decode prog_10_method_13_code 85 = .ok (.ireturn, 1) := by decide +kernel
set_option maxRecDepth 20000 in
theorem ok_80 : ∀ r ∈ tb_80, sm_ok 80 r := List.forall_mem_cons.mpr ⟨d_80_0, List.forall_mem_cons.mpr ⟨d_80_1, List.forall_mem_cons.mpr ⟨d_80_2, List.forall_mem_cons.mpr ⟨⟨d_80_3, ⟨(fun _ h => sm_n0 h), fun _ => ⟨_, lit_0⟩⟩⟩, List.forall_mem_cons.mpr ⟨⟨d_80_5, (Or.inl ⟨Nat.le_of_ble_eq_true rfl, mo_82, ms_82, pm_95⟩)⟩, List.forall_mem_cons.mpr ⟨⟨d_80_8, (by decide)⟩, List.forall_mem_cons.mpr ⟨d_80_11, List.forall_mem_cons.mpr ⟨d_80_12, List.forall_mem_cons.mpr ⟨d_80_13, List.forall_mem_cons.mpr ⟨d_80_14, List.forall_mem_cons.mpr ⟨d_80_15, List.forall_mem_cons.mpr ⟨⟨d_80_16, ⟨(fun _ h => sm_n0 h), fun _ => ⟨_, lit_1⟩⟩⟩, List.forall_mem_cons.mpr ⟨⟨d_80_18, (Or.inl ⟨Nat.le_of_ble_eq_true rfl, mo_82, ms_82, pm_95⟩)⟩, List.forall_mem_cons.mpr ⟨⟨d_80_21, (by decide)⟩, List.forall_mem_cons.mpr ⟨d_80_24, List.forall_mem_cons.mpr ⟨d_80_25, List.forall_mem_cons.mpr ⟨d_80_26, List.forall_mem_cons.mpr ⟨d_80_27, List.forall_mem_cons.mpr ⟨d_80_28, List.forall_mem_cons.mpr ⟨⟨d_80_29, ⟨(fun _ h => sm_n0 h), fun _ => ⟨_, lit_2⟩⟩⟩, List.forall_mem_cons.mpr ⟨⟨d_80_31, (Or.inl ⟨Nat.le_of_ble_eq_true rfl, mo_82, ms_82, pm_95⟩)⟩, List.forall_mem_cons.mpr ⟨⟨d_80_34, (by decide)⟩, List.forall_mem_cons.mpr ⟨d_80_37, List.forall_mem_cons.mpr ⟨d_80_39, List.forall_mem_cons.mpr ⟨d_80_40, List.forall_mem_cons.mpr ⟨d_80_41, List.forall_mem_cons.mpr ⟨d_80_42, List.forall_mem_cons.mpr ⟨⟨d_80_43, ⟨(fun _ h => sm_n0 h), fun _ => ⟨_, lit_3⟩⟩⟩, List.forall_mem_cons.mpr ⟨⟨d_80_45, (Or.inl ⟨Nat.le_of_ble_eq_true rfl, mo_82, ms_82, pm_95⟩)⟩, List.forall_mem_cons.mpr ⟨⟨d_80_48, (by decide)⟩, List.forall_mem_cons.mpr ⟨d_80_51, List.forall_mem_cons.mpr ⟨d_80_53, List.forall_mem_cons.mpr ⟨d_80_54, List.forall_mem_cons.mpr ⟨d_80_55, List.forall_mem_cons.mpr ⟨d_80_56, List.forall_mem_cons.mpr ⟨⟨d_80_57, ⟨(fun _ h => sm_n0 h), fun _ => ⟨_, lit_4⟩⟩⟩, List.forall_mem_cons.mpr ⟨⟨d_80_59, (Or.inl ⟨Nat.le_of_ble_eq_true rfl, mo_82, ms_82, pm_95⟩)⟩, List.forall_mem_cons.mpr ⟨⟨d_80_62, (by decide)⟩, List.forall_mem_cons.mpr ⟨d_80_65, List.forall_mem_cons.mpr ⟨d_80_67, List.forall_mem_cons.mpr ⟨d_80_68, List.forall_mem_cons.mpr ⟨d_80_69, List.forall_mem_cons.mpr ⟨d_80_70, List.forall_mem_cons.mpr ⟨⟨d_80_71, ⟨(fun _ h => sm_n0 h), fun _ => ⟨_, lit_5⟩⟩⟩, List.forall_mem_cons.mpr ⟨⟨d_80_73, (Or.inl ⟨Nat.le_of_ble_eq_true rfl, mo_82, ms_82, pm_95⟩)⟩, List.forall_mem_cons.mpr ⟨⟨d_80_76, (by decide)⟩, List.forall_mem_cons.mpr ⟨d_80_79, List.forall_mem_cons.mpr ⟨⟨d_80_81, (by decide)⟩, List.forall_mem_cons.mpr ⟨d_80_84, List.forall_mem_cons.mpr ⟨d_80_85, fun _ h => absurd h List.not_mem_nil⟩⟩⟩⟩⟩⟩⟩⟩⟩⟩⟩⟩⟩⟩⟩⟩⟩⟩⟩⟩⟩⟩⟩⟩⟩⟩⟩⟩⟩⟩⟩⟩⟩⟩⟩⟩⟩⟩⟩⟩⟩⟩⟩⟩⟩⟩⟩⟩⟩⟩
theorem d_81_0 : decode prog_10_method_14_code 0 = .ok (.aload_n 0, 1) := by decide +kernel
theorem d_81_1 : decode prog_10_method_14_code 1 = .ok (.iload_n 1, 1) := by decide +kernel
theorem d_81_2 : decode prog_10_method_14_code 2 = .ok (.iload_n 2, 1) := by decide +kernel
theorem d_81_3 : decode prog_10_method_14_code 3 = .ok (.ldc 81, 2) := by decide +kernel
theorem d_81_5 : decode prog_10_method_14_code 5 = .ok (.invokestatic 67, 3) := by decide +kernel
theorem d_81_8 : decode prog_10_method_14_code 8 = .ok (.ifCond .eq 6, 3) := by decide +kernel
theorem d_81_11 : decode prog_10_method_14_code 11 = .ok (.bipush 10, 2) := by decide +kernel
theorem d_81_13 : decode prog_10_method_14_code 13 = .ok (.ireturn, 1) := by decide +kernel
theorem d_81_14 : decode prog_10_method_14_code 14 = .ok (.aload_n 0, 1) := by decide +kernel
theorem d_81_15 : decode prog_10_method_14_code 15 = .ok (.iload_n 1, 1) := by decide +kernel
theorem d_81_16 : decode prog_10_method_14_code 16 = .ok (.iload_n 2, 1) := by decide +kernel
theorem d_81_17 : decode prog_10_method_14_code 17 = .ok (.ldc 83, 2) := by decide +kernel
theorem d_81_19 : decode prog_10_method_14_code 19 = .ok (.invokestatic 67, 3) := by decide +kernel
theorem d_81_22 : decode prog_10_method_14_code 22 = .ok (.ifCond .eq 6, 3) := by decide +kernel
theorem d_81_25 : decode prog_10_method_14_code 25 = .ok (.bipush 11, 2) := by decide +kernel
theorem d_81_27 : decode prog_10_method_14_code 27 = .ok (.ireturn, 1) := by decide +kernel
theorem d_81_28 : decode prog_10_method_14_code 28 = .ok (.aload_n 0, 1) := by decide +kernel
theorem d_81_29 : decode prog_10_method_14_code 29 = .ok (.iload_n 1, 1) := by decide +kernel
theorem d_81_30 : decode prog_10_method_14_code 30 = .ok (.iload_n 2, 1) := by decide +kernel
theorem d_81_31 : decode prog_10_method_14_code 31 = .ok (.ldc 85, 2) := by decide +kernel
theorem d_81_33 : decode prog_10_method_14_code 33 = .ok (.invokestatic 67, 3) := by decide +kernel
theorem d_81_36 : decode prog_10_method_14_code 36 = .ok (.ifCond .eq 6, 3) := by decide +kernel
theorem d_81_39 : decode prog_10_method_14_code 39 = .ok (.bipush 12, 2) := by decide +kernel
theorem d_81_41 : decode prog_10_method_14_code 41 = .ok (.ireturn, 1) := by decide +kernel
theorem d_81_42 : decode prog_10_method_14_code 42 = .ok (.aload_n 0, 1) := by decide +kernel
theorem d_81_43 : decode prog_10_method_14_code 43 = .ok (.iload_n 1, 1) := by decide +kernel
theorem d_81_44 : decode prog_10_method_14_code 44 = .ok (.iload_n 2, 1) := by decide +kernel
theorem d_81_45 : decode prog_10_method_14_code 45 = .ok (.ldc 87, 2) := by decide +kernel
theorem d_81_47 : decode prog_10_method_14_code 47 = .ok (.invokestatic 67, 3) := by decide +kernel
theorem d_81_50 : decode prog_10_method_14_code 50 = .ok (.ifCond .eq 6, 3) := by decide +kernel
theorem d_81_53 : decode prog_10_method_14_code 53 = .ok (.bipush 13, 2) := by decide +kernel
theorem d_81_55 : decode prog_10_method_14_code 55 = .ok (.ireturn, 1) := by decide +kernel
theorem d_81_56 : decode prog_10_method_14_code 56 = .ok (.aload_n 0, 1) := by decide +kernel
theorem d_81_57 : decode prog_10_method_14_code 57 = .ok (.iload_n 1, 1) := by decide +kernel
theorem d_81_58 : decode prog_10_method_14_code 58 = .ok (.iload_n 2, 1) := by decide +kernel
theorem d_81_59 : decode prog_10_method_14_code 59 = .ok (.ldc 89, 2) := by decide +kernel
theorem d_81_61 : decode prog_10_method_14_code 61 = .ok (.invokestatic 67, 3) := by decide +kernel
theorem d_81_64 : decode prog_10_method_14_code 64 = .ok (.ifCond .eq 6, 3) := by decide +kernel
theorem d_81_67 : decode prog_10_method_14_code 67 = .ok (.bipush 14, 2) := by decide +kernel
theorem d_81_69 : decode prog_10_method_14_code 69 = .ok (.ireturn, 1) := by decide +kernel
theorem d_81_70 : decode prog_10_method_14_code 70 = .ok (.aload_n 0, 1) := by decide +kernel
theorem d_81_71 : decode prog_10_method_14_code 71 = .ok (.iload_n 1, 1) := by decide +kernel
theorem d_81_72 : decode prog_10_method_14_code 72 = .ok (.iload_n 2, 1) := by decide +kernel
theorem d_81_73 : decode prog_10_method_14_code 73 = .ok (.ldc 91, 2) := by decide +kernel
theorem d_81_75 : decode prog_10_method_14_code 75 = .ok (.invokestatic 67, 3) := by decide +kernel
theorem d_81_78 : decode prog_10_method_14_code 78 = .ok (.ifCond .eq 6, 3) := by decide +kernel
theorem d_81_81 : decode prog_10_method_14_code 81 = .ok (.bipush 15, 2) := by decide +kernel
theorem d_81_83 : decode prog_10_method_14_code 83 = .ok (.ireturn, 1) := by decide +kernel
theorem d_81_84 : decode prog_10_method_14_code 84 = .ok (.aload_n 0, 1) := by decide +kernel
theorem d_81_85 : decode prog_10_method_14_code 85 = .ok (.iload_n 1, 1) := by decide +kernel
theorem d_81_86 : decode prog_10_method_14_code 86 = .ok (.iload_n 2, 1) := by decide +kernel
theorem d_81_87 : decode prog_10_method_14_code 87 = .ok (.ldc 93, 2) := by decide +kernel
theorem d_81_89 : decode prog_10_method_14_code 89 = .ok (.invokestatic 67, 3) := by decide +kernel
theorem d_81_92 : decode prog_10_method_14_code 92 = .ok (.ifCond .eq 6, 3) := by decide +kernel
theorem d_81_95 : decode prog_10_method_14_code 95 = .ok (.bipush 16, 2) := by decide +kernel
theorem d_81_97 : decode prog_10_method_14_code 97 = .ok (.ireturn, 1) := by decide +kernel
theorem d_81_98 : decode prog_10_method_14_code 98 = .ok (.aload_n 0, 1) := by decide +kernel
theorem d_81_99 : decode prog_10_method_14_code 99 = .ok (.iload_n 1, 1) := by decide +kernel
theorem d_81_100 : decode prog_10_method_14_code 100 = .ok (.iload_n 2, 1) := by decide +kernel
theorem d_81_101 : decode prog_10_method_14_code 101 = .ok (.ldc 95, 2) := by decide +kernel
theorem d_81_103 : decode prog_10_method_14_code 103 = .ok (.invokestatic 67, 3) := by decide +kernel
theorem d_81_106 : decode prog_10_method_14_code 106 = .ok (.ifCond .eq 6, 3) := by decide +kernel
theorem d_81_109 : decode prog_10_method_14_code 109 = .ok (.bipush 17, 2) := by decide +kernel
theorem d_81_111 : decode prog_10_method_14_code 111 = .ok (.ireturn, 1) := by decide +kernel
theorem d_81_112 : decode prog_10_method_14_code 112 = .ok (.aload_n 0, 1) := by decide +kernel
theorem d_81_113 : decode prog_10_method_14_code 113 = .ok (.iload_n 1, 1) := by decide +kernel
theorem d_81_114 : decode prog_10_method_14_code 114 = .ok (.iload_n 2, 1) := by decide +kernel
theorem d_81_115 : decode prog_10_method_14_code 115 = .ok (.ldc 97, 2) := by decide +kernel
theorem d_81_117 : decode prog_10_method_14_code 117 = .ok (.invokestatic 67, 3) := by decide +kernel
theorem d_81_120 : decode prog_10_method_14_code 120 = .ok (.ifCond .eq 8, 3) := by decide +kernel
theorem d_81_123 : decode prog_10_method_14_code 123 = .ok (.bipush 18, 2) := by decide +kernel
theorem d_81_125 : decode prog_10_method_14_code 125 = .ok (.goto 4, 3) := by decide +kernel
theorem d_81_128 : decode prog_10_method_14_code 128 = .ok (.iconst (-1), 1) := by decide +kernel
theorem d_81_129 : decode prog_10_method_14_code 129 = .ok (.ireturn, 1) := by decide +kernel
set_option maxRecDepth 20000 in
theorem ok_81 : ∀ r ∈ tb_81, sm_ok 81 r := List.forall_mem_cons.mpr ⟨d_81_0, List.forall_mem_cons.mpr ⟨d_81_1, List.forall_mem_cons.mpr ⟨d_81_2, List.forall_mem_cons.mpr ⟨⟨d_81_3, ⟨(fun _ h => sm_n0 h), fun _ => ⟨_, lit_6⟩⟩⟩, List.forall_mem_cons.mpr ⟨⟨d_81_5, (Or.inl ⟨Nat.le_of_ble_eq_true rfl, mo_82, ms_82, pm_95⟩)⟩, List.forall_mem_cons.mpr ⟨⟨d_81_8, (by decide)⟩, List.forall_mem_cons.mpr ⟨d_81_11, List.forall_mem_cons.mpr ⟨d_81_13, List.forall_mem_cons.mpr ⟨d_81_14, List.forall_mem_cons.mpr ⟨d_81_15, List.forall_mem_cons.mpr ⟨d_81_16, List.forall_mem_cons.mpr ⟨⟨d_81_17, ⟨(fun _ h => sm_n0 h), fun _ => ⟨_, lit_7⟩⟩⟩, List.forall_mem_cons.mpr ⟨⟨d_81_19, (Or.inl ⟨Nat.le_of_ble_eq_true rfl, mo_82, ms_82, pm_95⟩)⟩, List.forall_mem_cons.mpr ⟨⟨d_81_22, (by decide)⟩, List.forall_mem_cons.mpr ⟨d_81_25, List.forall_mem_cons.mpr ⟨d_81_27, List.forall_mem_cons.mpr ⟨d_81_28, List.forall_mem_cons.mpr ⟨d_81_29, List.forall_mem_cons.mpr ⟨d_81_30, List.forall_mem_cons.mpr ⟨⟨d_81_31, ⟨(fun _ h => sm_n0 h), fun _ => ⟨_, lit_8⟩⟩⟩, List.forall_mem_cons.mpr ⟨⟨d_81_33, (Or.inl ⟨Nat.le_of_ble_eq_true rfl, mo_82, ms_82, pm_95⟩)⟩, List.forall_mem_cons.mpr ⟨⟨d_81_36, (by decide)⟩, List.forall_mem_cons.mpr ⟨d_81_39, List.forall_mem_cons.mpr ⟨d_81_41, List.forall_mem_cons.mpr ⟨d_81_42, List.forall_mem_cons.mpr ⟨d_81_43, List.forall_mem_cons.mpr ⟨d_81_44, List.forall_mem_cons.mpr ⟨⟨d_81_45, ⟨(fun _ h => sm_n0 h), fun _ => ⟨_, lit_9⟩⟩⟩, List.forall_mem_cons.mpr ⟨⟨d_81_47, (Or.inl ⟨Nat.le_of_ble_eq_true rfl, mo_82, ms_82, pm_95⟩)⟩, List.forall_mem_cons.mpr ⟨⟨d_81_50, (by decide)⟩, List.forall_mem_cons.mpr ⟨d_81_53, List.forall_mem_cons.mpr ⟨d_81_55, List.forall_mem_cons.mpr ⟨d_81_56, List.forall_mem_cons.mpr ⟨d_81_57, List.forall_mem_cons.mpr ⟨d_81_58, List.forall_mem_cons.mpr ⟨⟨d_81_59, ⟨(fun _ h => sm_n0 h), fun _ => ⟨_, lit_10⟩⟩⟩, List.forall_mem_cons.mpr ⟨⟨d_81_61, (Or.inl ⟨Nat.le_of_ble_eq_true rfl, mo_82, ms_82, pm_95⟩)⟩, List.forall_mem_cons.mpr ⟨⟨d_81_64, (by decide)⟩, List.forall_mem_cons.mpr ⟨d_81_67, List.forall_mem_cons.mpr ⟨d_81_69, List.forall_mem_cons.mpr ⟨d_81_70, List.forall_mem_cons.mpr ⟨d_81_71, List.forall_mem_cons.mpr ⟨d_81_72, List.forall_mem_cons.mpr ⟨⟨d_81_73, ⟨(fun _ h => sm_n0 h), fun _ => ⟨_, lit_11⟩⟩⟩, List.forall_mem_cons.mpr ⟨⟨d_81_75, (Or.inl ⟨Nat.le_of_ble_eq_true rfl, mo_82, ms_82, pm_95⟩)⟩, List.forall_mem_cons.mpr ⟨⟨d_81_78, (by decide)⟩, List.forall_mem_cons.mpr ⟨d_81_81, List.forall_mem_cons.mpr ⟨d_81_83, List.forall_mem_cons.mpr ⟨d_81_84, List.forall_mem_cons.mpr ⟨d_81_85, List.forall_mem_cons.mpr ⟨d_81_86, List.forall_mem_cons.mpr ⟨⟨d_81_87, ⟨(fun _ h => sm_n0 h), fun _ => ⟨_, lit_12⟩⟩⟩, List.forall_mem_cons.mpr ⟨⟨d_81_89, (Or.inl ⟨Nat.le_of_ble_eq_true rfl, mo_82, ms_82, pm_95⟩)⟩, List.forall_mem_cons.mpr ⟨⟨d_81_92, (by decide)⟩, List.forall_mem_cons.mpr ⟨d_81_95, List.forall_mem_cons.mpr ⟨d_81_97, List.forall_mem_cons.mpr ⟨d_81_98, List.forall_mem_cons.mpr ⟨d_81_99, List.forall_mem_cons.mpr ⟨d_81_100, List.forall_mem_cons.mpr ⟨⟨d_81_101, ⟨(fun _ h => sm_n0 h), fun _ => ⟨_, lit_13⟩⟩⟩, List.forall_mem_cons.mpr ⟨⟨d_81_103, (Or.inl ⟨Nat.le_of_ble_eq_true rfl, mo_82, ms_82, pm_95⟩)⟩, List.forall_mem_cons.mpr ⟨⟨d_81_106, (by decide)⟩, List.forall_mem_cons.mpr ⟨d_81_109, List.forall_mem_cons.mpr ⟨d_81_111, List.forall_mem_cons.mpr ⟨d_81_112, List.forall_mem_cons.mpr ⟨d_81_113, List.forall_mem_cons.mpr ⟨d_81_114, List.forall_mem_cons.mpr ⟨⟨d_81_115, ⟨(fun _ h => sm_n0 h), fun _ => ⟨_, lit_14⟩⟩⟩, List.forall_mem_cons.mpr ⟨⟨d_81_117, (Or.inl ⟨Nat.le_of_ble_eq_true rfl, mo_82, ms_82, pm_95⟩)⟩, List.forall_mem_cons.mpr ⟨⟨d_81_120, (by decide)⟩, List.forall_mem_cons.mpr ⟨d_81_123, List.forall_mem_cons.mpr ⟨⟨d_81_125, (by decide)⟩, List.forall_mem_cons.mpr ⟨d_81_128, List.forall_mem_cons.mpr ⟨d_81_129, fun _ h => absurd h List.not_mem_nil⟩⟩⟩⟩⟩⟩⟩⟩⟩⟩⟩⟩⟩⟩⟩⟩⟩⟩⟩⟩⟩⟩⟩⟩⟩⟩⟩⟩⟩⟩⟩⟩⟩⟩⟩⟩⟩⟩⟩⟩⟩⟩⟩⟩⟩⟩⟩⟩⟩⟩⟩⟩⟩⟩⟩⟩⟩⟩⟩⟩⟩⟩⟩⟩⟩⟩⟩⟩⟩⟩⟩⟩⟩⟩
theorem d_82_0 : decode prog_10_method_15_code 0 = .ok (.iload_n 2, 1) := by decide +kernel
theorem d_82_1 : decode prog_10_method_15_code 1 = .ok (.iload_n 1, 1) := by decide +kernel
theorem d_82_2 : decode prog_10_method_15_code 2 = .ok (.isub, 1) := by decide +kernel
theorem d_82_3 : decode prog_10_method_15_code 3 = .ok (.aload_n 3, 1) := by decide +kernel
theorem d_82_4 : decode prog_10_method_15_code 4 = .ok (.invokevirtual 99, 3) := by decide +kernel
theorem d_82_7 : decode prog_10_method_15_code 7 = .ok (.if_icmp .eq 5, 3) := by decide +kernel
theorem d_82_10 : decode prog_10_method_15_code 10 = .ok (.iconst 0, 1) := by decide +kernel
theorem d_82_11 : decode prog_10_method_15_code 11 = .ok (.ireturn, 1) := by decide +kernel
theorem d_82_12 : decode prog_10_method_15_code 12 = .ok (.iconst 0, 1) := by decide +kernel
theorem d_82_13 : decode prog_10_method_15_code 13 = .ok (.istore 4, 2) := by decide +kernel
theorem d_82_15 : decode prog_10_method_15_code 15 = .ok (.iload 4, 2) := by decide +kernel
theorem d_82_17 : decode prog_10_method_15_code 17 = .ok (.aload_n 3, 1) := by decide +kernel
theorem d_82_18 : decode prog_10_method_15_code 18 = .ok (.invokevirtual 99, 3) := by decide +kernel
theorem d_82_21 : decode prog_10_method_15_code 21 = .ok (.if_icmp .ge 26, 3) := by decide +kernel
theorem d_82_24 : decode prog_10_method_15_code 24 = .ok (.aload_n 0, 1) := by decide +kernel
theorem d_82_25 : decode prog_10_method_15_code 25 = .ok (.iload_n 1, 1) := by decide +kernel
theorem d_82_26 : decode prog_10_method_15_code 26 = .ok (.iload 4, 2) := by decide +kernel
theorem d_82_28 : decode prog_10_method_15_code 28 = .ok (.iadd, 1) := by decide +kernel
theorem d_82_29 : decode prog_10_method_15_code 29 = .ok (.caload, 1) := by decide +kernel
theorem d_82_30 : decode prog_10_method_15_code 30 = .ok (.aload_n 3, 1) := by decide +kernel
theorem d_82_31 : decode prog_10_method_15_code 31 = .ok (.iload 4, 2) := by decide +kernel
theorem d_82_33 : decode prog_10_method_15_code 33 = .ok (.invokevirtual 103, 3) := by decide +kernel
theorem d_82_36 : decode prog_10_method_15_code 36 = .ok (.if_icmp .eq 5, 3) := by decide +kernel
theorem d_82_39 : decode prog_10_method_15_code 39 = .ok (.iconst 0, 1) := by decide +kernel
theorem d_82_40 : decode prog_10_method_15_code 40 = .ok (.ireturn, 1) := by decide +kernel
theorem d_82_41 : decode prog_10_method_15_code 41 = .ok (.iinc 4 1, 3) := by decide +kernel
theorem d_82_44 : decode prog_10_method_15_code 44 = .ok (.goto (-29), 3) := by decide +kernel
theorem d_82_47 : decode prog_10_method_15_code 47 = .ok (.iconst 1, 1) := by decide +kernel
theorem d_82_48 : decode prog_10_method_15_code 48 = .ok (.ireturn, 1) := by decide +kernel
set_option maxRecDepth 20000 in
theorem ok_82 : ∀ r ∈ tb_82, sm_ok 82 r := List.forall_mem_cons.mpr ⟨d_82_0, List.forall_mem_cons.mpr ⟨d_82_1, List.forall_mem_cons.mpr ⟨d_82_2, List.forall_mem_cons.mpr ⟨d_82_3, List.forall_mem_cons.mpr ⟨⟨d_82_4, ⟨mo_203, mi_203, se_203, pm_96⟩⟩, List.forall_mem_cons.mpr ⟨⟨d_82_7, (by decide)⟩, List.forall_mem_cons.mpr ⟨d_82_10, List.forall_mem_cons.mpr ⟨d_82_11, List.forall_mem_cons.mpr ⟨d_82_12, List.forall_mem_cons.mpr ⟨d_82_13, List.forall_mem_cons.mpr ⟨d_82_15, List.forall_mem_cons.mpr ⟨d_82_17, List.forall_mem_cons.mpr ⟨⟨d_82_18, ⟨mo_203, mi_203, se_203, pm_96⟩⟩, List.forall_mem_cons.mpr ⟨⟨d_82_21, (by decide)⟩, List.forall_mem_cons.mpr ⟨d_82_24, List.forall_mem_cons.mpr ⟨d_82_25, List.forall_mem_cons.mpr ⟨d_82_26, List.forall_mem_cons.mpr ⟨d_82_28, List.forall_mem_cons.mpr ⟨d_82_29, List.forall_mem_cons.mpr ⟨d_82_30, List.forall_mem_cons.mpr ⟨d_82_31, List.forall_mem_cons.mpr ⟨⟨d_82_33, ⟨mo_198, mi_198, se_198, pm_97⟩⟩, List.forall_mem_cons.mpr ⟨⟨d_82_36, (by decide)⟩, List.forall_mem_cons.mpr ⟨d_82_39, List.forall_mem_cons.mpr ⟨d_82_40, List.forall_mem_cons.mpr ⟨d_82_41, List.forall_mem_cons.mpr ⟨⟨d_82_44, (by decide)⟩, List.forall_mem_cons.mpr ⟨d_82_47, List.forall_mem_cons.mpr ⟨d_82_48, fun _ h => absurd h List.not_mem_nil⟩⟩⟩⟩⟩⟩⟩⟩⟩⟩⟩⟩⟩⟩⟩⟩⟩⟩⟩⟩⟩⟩⟩⟩⟩⟩⟩⟩⟩
theorem d_83_0 : decode prog_6_method_1_code 0 = .ok (.aload_n 0, 1) := by decide +kernel
theorem d_83_1 : decode prog_6_method_1_code 1 = .ok (.invokespecial 3, 3) := by decide +kernel
theorem d_83_4 : decode prog_6_method_1_code 4 = .ok (.aload_n 0, 1) := by decide +kernel
theorem d_83_5 : decode prog_6_method_1_code 5 = .ok (.new 9, 3) := by decide +kernel
theorem d_83_8 : decode prog_6_method_1_code 8 = .ok (.dup, 1) := by decide +kernel
theorem d_83_9 : decode prog_6_method_1_code 9 = .ok (.invokespecial 11, 3) := by decide +kernel
theorem d_83_12 : decode prog_6_method_1_code 12 = .ok (.putfield 12, 3) := by decide +kernel
theorem d_83_15 : decode prog_6_method_1_code 15 = .ok (.aload_n 0, 1) := by decide +kernel
theorem d_83_16 : decode prog_6_method_1_code 16 = .ok (.iconst (-1), 1) := by decide +kernel
theorem d_83_17 : decode prog_6_method_1_code 17 = .ok (.putfield 18, 3) := by decide +kernel
theorem d_83_20 : decode prog_6_method_1_code 20 = .ok (.aload_n 0, 1) := by decide +kernel
theorem d_83_21 : decode prog_6_method_1_code 21 = .ok (.aload_n 1, 1) := by decide +kernel
theorem d_83_22 : decode prog_6_method_1_code 22 = .ok (.putfield 22, 3) := by decide +kernel
theorem d_83_25 : decode prog_6_method_1_code 25 = .ok (.aload_n 0, 1) := by decide +kernel
theorem d_83_26 : decode prog_6_method_1_code 26 = .ok (.aload_n 2, 1) := by decide +kernel
theorem d_83_27 : decode prog_6_method_1_code 27 = .ok (.putfield 26, 3) := by decide +kernel
theorem d_83_30 : decode prog_6_method_1_code 30 = .ok (.return_, 1) := by decide +kernel
set_option maxRecDepth 20000 in
theorem ok_83 : ∀ r ∈ tb_83, sm_ok 83 r := List.forall_mem_cons.mpr ⟨d_83_0, List.forall_mem_cons.mpr ⟨⟨d_83_1, (Or.inl ⟨rfl, wd_204, wd_34, wd_35⟩)⟩, List.forall_mem_cons.mpr ⟨d_83_4, List.forall_mem_cons.mpr ⟨⟨d_83_5, ⟨_, rfl, wd_205⟩⟩, List.forall_mem_cons.mpr ⟨d_83_8, List.forall_mem_cons.mpr ⟨⟨d_83_9, (Or.inr ⟨(by decide), mo_68, mi_68, rfl, rfl, pm_98⟩)⟩, List.forall_mem_cons.mpr ⟨⟨d_83_12, pf_103 rfl⟩, List.forall_mem_cons.mpr ⟨d_83_15, List.forall_mem_cons.mpr ⟨d_83_16, List.forall_mem_cons.mpr ⟨⟨d_83_17, pf_104⟩, List.forall_mem_cons.mpr ⟨d_83_20, List.forall_mem_cons.mpr ⟨d_83_21, List.forall_mem_cons.mpr ⟨⟨d_83_22, pf_105 rfl⟩, List.forall_mem_cons.mpr ⟨d_83_25, List.forall_mem_cons.mpr ⟨d_83_26, List.forall_mem_cons.mpr ⟨⟨d_83_27, pf_106 rfl⟩, List.forall_mem_cons.mpr ⟨d_83_30, fun _ h => absurd h List.not_mem_nil⟩⟩⟩⟩⟩⟩⟩⟩⟩⟩⟩⟩⟩⟩⟩⟩⟩
theorem d_84_0 : decode prog_6_method_2_code 0 = .ok (.aload_n 0, 1) := by decide +kernel
theorem d_84_1 : decode prog_6_method_2_code 1 = .ok (.getfield 22, 3) := by decide +kernel
theorem d_84_4 : decode prog_6_method_2_code 4 = .ok (.invokevirtual 30, 3) := by decide +kernel
theorem d_84_7 : decode prog_6_method_2_code 7 = .ok (.aload_n 0, 1) := by decide +kernel
theorem d_84_8 : decode prog_6_method_2_code 8 = .ok (.getfield 26, 3) := by decide +kernel
theorem d_84_11 : decode prog_6_method_2_code 11 = .ok (.invokevirtual 35, 3) := by decide +kernel
theorem d_84_14 : decode prog_6_method_2_code 14 = .ok (.aload_n 0, 1) := by decide +kernel
theorem d_84_15 : decode prog_6_method_2_code 15 = .ok (.getfield 12, 3) := by decide +kernel
theorem d_84_18 : decode prog_6_method_2_code 18 = .ok (.aload_n 1, 1) := by decide +kernel
theorem d_84_19 : decode prog_6_method_2_code 19 = .ok (.iload_n 2, 1) := by decide +kernel
theorem d_84_20 : decode prog_6_method_2_code 20 = .ok (.invokevirtual 38, 3) := by decide +kernel
theorem d_84_23 : decode prog_6_method_2_code 23 = .ok (.ireturn, 1) := by decide +kernel
set_option maxRecDepth 20000 in
theorem ok_84 : ∀ r ∈ tb_84, sm_ok 84 r := List.forall_mem_cons.mpr ⟨d_84_0, List.forall_mem_cons.mpr ⟨⟨d_84_1, Or.inl pf_107⟩, List.forall_mem_cons.mpr ⟨⟨d_84_4, ⟨mo_59, mi_59, se_59, pm_99⟩⟩, List.forall_mem_cons.mpr ⟨d_84_7, List.forall_mem_cons.mpr ⟨⟨d_84_8, Or.inl pf_108⟩, List.forall_mem_cons.mpr ⟨⟨d_84_11, ⟨mo_45, mi_45, se_45, pm_100⟩⟩, List.forall_mem_cons.mpr ⟨d_84_14, List.forall_mem_cons.mpr ⟨⟨d_84_15, Or.inl pf_109⟩, List.forall_mem_cons.mpr ⟨d_84_18, List.forall_mem_cons.mpr ⟨d_84_19, List.forall_mem_cons.mpr ⟨⟨d_84_20, ⟨mo_69, mi_69, se_69, pm_101⟩⟩, List.forall_mem_cons.mpr ⟨d_84_23, fun _ h => absurd h List.not_mem_nil⟩⟩⟩⟩⟩⟩⟩⟩⟩⟩⟩⟩
theorem d_85_0 : decode prog_6_method_3_code 0 = .ok (.aload_n 0, 1) := by decide +kernel
theorem d_85_1 : decode prog_6_method_3_code 1 = .ok (.getfield 12, 3) := by decide +kernel
theorem d_85_4 : decode prog_6_method_3_code 4 = .ok (.invokevirtual 42, 3) := by decide +kernel
theorem d_85_7 : decode prog_6_method_3_code 7 = .ok (.ifCond .ne 7, 3) := by decide +kernel
theorem d_85_10 : decode prog_6_method_3_code 10 = .ok (.iconst 1, 1) := by decide +kernel
theorem d_85_11 : decode prog_6_method_3_code 11 = .ok (.goto 4, 3) := by decide +kernel
theorem d_85_14 : decode prog_6_method_3_code 14 = .ok (.iconst 0, 1) := by decide +kernel
theorem d_85_15 : decode prog_6_method_3_code 15 = .ok (.ireturn, 1) := by decide +kernel
set_option maxRecDepth 20000 in
theorem ok_85 : ∀ r ∈ tb_85, sm_ok 85 r := List.forall_mem_cons.mpr ⟨d_85_0, List.forall_mem_cons.mpr ⟨⟨d_85_1, Or.inl pf_109⟩, List.forall_mem_cons.mpr ⟨⟨d_85_4, ⟨mo_70, mi_70, se_70, pm_102⟩⟩, List.forall_mem_cons.mpr ⟨⟨d_85_7, (by decide)⟩, List.forall_mem_cons.mpr ⟨d_85_10, List.forall_mem_cons.mpr ⟨⟨d_85_11, (by decide)⟩, List.forall_mem_cons.mpr ⟨d_85_14, List.forall_mem_cons.mpr ⟨d_85_15, fun _ h => absurd h List.not_mem_nil⟩⟩⟩⟩⟩⟩⟩⟩
theorem d_86_0 : decode prog_6_method_4_code 0 = .ok (.aload_n 0, 1) := by decide +kernel
theorem d_86_1 : decode prog_6_method_4_code 1 = .ok (.getfield 22, 3) := by decide +kernel
theorem d_86_4 : decode prog_6_method_4_code 4 = .ok (.aload_n 0, 1) := by decide +kernel
theorem d_86_5 : decode prog_6_method_4_code 5 = .ok (.getfield 12, 3) := by decide +kernel
theorem d_86_8 : decode prog_6_method_4_code 8 = .ok (.invokevirtual 42, 3) := by decide +kernel
theorem d_86_11 : decode prog_6_method_4_code 11 = .ok (.putfield 46, 3) := by decide +kernel
theorem d_86_14 : decode prog_6_method_4_code 14 = .ok (.aload_n 0, 1) := by decide +kernel
theorem d_86_15 : decode prog_6_method_4_code 15 = .ok (.getfield 12, 3) := by decide +kernel
theorem d_86_18 : decode prog_6_method_4_code 18 = .ok (.iconst 4, 1) := by decide +kernel
theorem d_86_19 : decode prog_6_method_4_code 19 = .ok (.invokevirtual 49, 3) := by decide +kernel
theorem d_86_22 : decode prog_6_method_4_code 22 = .ok (.ifCond .eq 23, 3) := by decide +kernel
theorem d_86_25 : decode prog_6_method_4_code 25 = .ok (.aload_n 0, 1) := by decide +kernel
theorem d_86_26 : decode prog_6_method_4_code 26 = .ok (.invokevirtual 53, 3) := by decide +kernel
theorem d_86_29 : decode prog_6_method_4_code 29 = .ok (.ifCond .eq 14, 3) := by decide +kernel
theorem d_86_32 : decode prog_6_method_4_code 32 = .ok (.aload_n 0, 1) := by decide +kernel
theorem d_86_33 : decode prog_6_method_4_code 33 = .ok (.invokevirtual 57, 3) := by decide +kernel
theorem d_86_36 : decode prog_6_method_4_code 36 = .ok (.ifCond .eq 7, 3) := by decide +kernel
theorem d_86_39 : decode prog_6_method_4_code 39 = .ok (.iconst 1, 1) := by decide +kernel
theorem d_86_40 : decode prog_6_method_4_code 40 = .ok (.goto 4, 3) := by decide +kernel
theorem d_86_43 : decode prog_6_method_4_code 43 = .ok (.iconst 0, 1) := by decide +kernel
theorem d_86_44 : decode prog_6_method_4_code 44 = .ok (.ireturn, 1) := by decide +kernel
theorem d_86_45 : decode prog_6_method_4_code 45 = .ok (.aload_n 0, 1) := by decide +kernel
theorem d_86_46 : decode prog_6_method_4_code 46 = .ok (.getfield 12, 3) := by decide +kernel
theorem d_86_49 : decode prog_6_method_4_code 49 = .ok (.iconst 5, 1) := by decide +kernel
theorem d_86_50 : decode prog_6_method_4_code 50 = .ok (.invokevirtual 49, 3) := by decide +kernel
theorem d_86_53 : decode prog_6_method_4_code 53 = .ok (.ifCond .eq 23, 3) := by decide +kernel
theorem d_86_56 : decode prog_6_method_4_code 56 = .ok (.aload_n 0, 1) := by decide +kernel
theorem d_86_57 : decode prog_6_method_4_code 57 = .ok (.invokevirtual 53, 3) := by decide +kernel
theorem d_86_60 : decode prog_6_method_4_code 60 = .ok (.ifCond .eq 14, 3) := by decide +kernel
theorem d_86_63 : decode prog_6_method_4_code 63 = .ok (.aload_n 0, 1) := by decide +kernel
theorem d_86_64 : decode prog_6_method_4_code 64 = .ok (.invokevirtual 60, 3) := by decide +kernel
theorem d_86_67 : decode prog_6_method_4_code 67 = .ok (.ifCond .eq 7, 3) := by decide +kernel
theorem d_86_70 : decode prog_6_method_4_code 70 = .ok (.iconst 1, 1) := by decide +kernel
theorem d_86_71 : decode prog_6_method_4_code 71 = .ok (.goto 4, 3) := by decide +kernel
theorem d_86_74 : decode prog_6_method_4_code 74 = .ok (.iconst 0, 1) := by decide +kernel
theorem d_86_75 : decode prog_6_method_4_code 75 = .ok (.ireturn, 1) := by decide +kernel
theorem d_86_76 : decode prog_6_method_4_code 76 = .ok (.aload_n 0, 1) := by decide +kernel
theorem d_86_77 : decode prog_6_method_4_code 77 = .ok (.getfield 12, 3) := by decide +kernel
theorem d_86_80 : decode prog_6_method_4_code 80 = .ok (.bipush 6, 2) := by decide +kernel
theorem d_86_82 : decode prog_6_method_4_code 82 = .ok (.invokevirtual 49, 3) := by decide +kernel
theorem d_86_85 : decode prog_6_method_4_code 85 = .ok (.ifCond .eq 23, 3) := by decide +kernel
theorem d_86_88 : decode prog_6_method_4_code 88 = .ok (.aload_n 0, 1) := by decide +kernel
theorem d_86_89 : decode prog_6_method_4_code 89 = .ok (.invokevirtual 53, 3) := by decide +kernel
theorem d_86_92 : decode prog_6_method_4_code 92 = .ok (.ifCond .eq 14, 3) := by decide +kernel
theorem d_86_95 : decode prog_6_method_4_code 95 = .ok (.aload_n 0, 1) := by decide +kernel
theorem d_86_96 : decode prog_6_method_4_code 96 = .ok (.invokevirtual 63, 3) := by decide +kernel
theorem d_86_99 : decode prog_6_method_4_code 99 = .ok (.ifCond .eq 7, 3) := by decide +kernel
theorem d_86_102 : decode prog_6_method_4_code 102 = .ok (.iconst 1, 1) := by decide +kernel
theorem d_86_103 : decode prog_6_method_4_code 103 = .ok (.goto 4, 3) := by decide +kernel
theorem d_86_106 : decode prog_6_method_4_code 106 = .ok (.iconst 0, 1) := by decide +kernel
theorem d_86_107 : decode prog_6_method_4_code 107 = .ok (.ireturn, 1) := by decide +kernel
theorem d_86_108 : decode prog_6_method_4_code 108 = .ok (.aload_n 0, 1) := by decide +kernel
theorem d_86_109 : decode prog_6_method_4_code 109 = .ok (.getfield 12, 3) := by decide +kernel
theorem d_86_112 : decode prog_6_method_4_code 112 = .ok (.bipush 7, 2) := by decide +kernel
theorem d_86_114 : decode prog_6_method_4_code 114 = .ok (.invokevirtual 49, 3) := by decide +kernel
theorem d_86_117 : decode prog_6_method_4_code 117 = .ok (.ifCond .eq 49, 3) := by decide +kernel
theorem d_86_120 : decode prog_6_method_4_code 120 = .ok (.aload_n 0, 1) := by decide +kernel
theorem d_86_121 : decode prog_6_method_4_code 121 = .ok (.invokevirtual 53, 3) := by decide +kernel
theorem d_86_124 : decode prog_6_method_4_code 124 = .ok (.ifCond .eq 40, 3) := by decide +kernel
theorem d_86_127 : decode prog_6_method_4_code 127 = .ok (.aload_n 0, 1) := by decide +kernel
theorem d_86_128 : decode prog_6_method_4_code 128 = .ok (.invokevirtual 60, 3) := by decide +kernel
theorem d_86_131 : decode prog_6_method_4_code 131 = .ok (.ifCond .eq 33, 3) := by decide +kernel
theorem d_86_134 : decode prog_6_method_4_code 134 = .ok (.aload_n 0, 1) := by decide +kernel
theorem d_86_135 : decode prog_6_method_4_code 135 = .ok (.getfield 12, 3) := by decide +kernel
theorem d_86_138 : decode prog_6_method_4_code 138 = .ok (.bipush 61, 2) := by decide +kernel
theorem d_86_140 : decode prog_6_method_4_code 140 = .ok (.invokevirtual 49, 3) := by decide +kernel
theorem d_86_143 : decode prog_6_method_4_code 143 = .ok (.ifCond .eq 21, 3) := by decide +kernel
theorem d_86_146 : decode prog_6_method_4_code 146 = .ok (.aload_n 0, 1) := by decide +kernel
theorem d_86_147 : decode prog_6_method_4_code 147 = .ok (.invokevirtual 66, 3) := by decide +kernel
theorem d_86_150 : decode prog_6_method_4_code 150 = .ok (.ifCond .eq 14, 3) := by decide +kernel
theorem d_86_153 : decode prog_6_method_4_code 153 = .ok (.aload_n 0, 1) := by decide +kernel
theorem d_86_154 : decode prog_6_method_4_code 154 = .ok (.invokevirtual 69, 3) := by decide +kernel
theorem d_86_157 : decode prog_6_method_4_code 157 = .ok (.ifCond .eq 7, 3) := by decide +kernel
theorem d_86_160 : decode prog_6_method_4_code 160 = .ok (.iconst 1, 1) := by decide +kernel
theorem d_86_161 : decode prog_6_method_4_code 161 = .ok (.goto 4, 3) := by decide +kernel
theorem d_86_164 : decode prog_6_method_4_code 164 = .ok (.iconst 0, 1) := by decide +kernel
theorem d_86_165 : decode prog_6_method_4_code 165 = .ok (.ireturn, 1) := by decide +kernel
theorem d_86_166 : decode prog_6_method_4_code 166 = .ok (.aload_n 0, 1) := by decide +kernel
theorem d_86_167 : decode prog_6_method_4_code 167 = .ok (.getfield 12, 3) := by decide +kernel
theorem d_86_170 : decode prog_6_method_4_code 170 = .ok (.bipush 8, 2) := by decide +kernel
theorem d_86_172 : decode prog_6_method_4_code 172 = .ok (.invokevirtual 49, 3) := by decide +kernel
theorem d_86_175 : decode prog_6_method_4_code 175 = .ok (.ifCond .eq 23, 3) := by decide +kernel
theorem d_86_178 : decode prog_6_method_4_code 178 = .ok (.aload_n 0, 1) := by decide +kernel
theorem d_86_179 : decode prog_6_method_4_code 179 = .ok (.invokevirtual 53, 3) := by decide +kernel
theorem d_86_182 : decode prog_6_method_4_code 182 = .ok (.ifCond .eq 14, 3) := by decide +kernel
theorem d_86_185 : decode prog_6_method_4_code 185 = .ok (.aload_n 0, 1) := by decide +kernel
theorem d_86_186 : decode prog_6_method_4_code 186 = .ok (.invokevirtual 69, 3) := by decide +kernel
theorem d_86_189 : decode prog_6_method_4_code 189 = .ok (.ifCond .eq 7, 3) := by decide +kernel
theorem d_86_192 : decode prog_6_method_4_code 192 = .ok (.iconst 1, 1) := by decide +kernel
theorem d_86_193 : decode prog_6_method_4_code 193 = .ok (.goto 4, 3) := by decide +kernel
theorem d_86_196 : decode prog_6_method_4_code 196 = .ok (.iconst 0, 1) := by decide +kernel
theorem d_86_197 : decode prog_6_method_4_code 197 = .ok (.ireturn, 1) := by decide +kernel
theorem d_86_198 : decode prog_6_method_4_code 198 = .ok (.aload_n 0, 1) := by decide +kernel
theorem d_86_199 : decode prog_6_method_4_code 199 = .ok (.getfield 12, 3) := by decide +kernel
theorem d_86_202 : decode prog_6_method_4_code 202 = .ok (.bipush 9, 2) := by decide +kernel
theorem d_86_204 : decode prog_6_method_4_code 204 = .ok (.invokevirtual 49, 3) := by decide +kernel
theorem d_86_207 : decode prog_6_method_4_code 207 = .ok (.ifCond .eq 72, 3) := by decide +kernel
theorem d_86_210 : decode prog_6_method_4_code 210 = .ok (.aload_n 0, 1) := by decide +kernel
theorem d_86_211 : decode prog_6_method_4_code 211 = .ok (.invokevirtual 63, 3) := by decide +kernel
theorem d_86_214 : decode prog_6_method_4_code 214 = .ok (.ifCond .eq 65, 3) := by decide +kernel
theorem d_86_217 : decode prog_6_method_4_code 217 = .ok (.aload_n 0, 1) := by decide +kernel
theorem d_86_218 : decode prog_6_method_4_code 218 = .ok (.getfield 22, 3) := by decide +kernel
theorem d_86_221 : decode prog_6_method_4_code 221 = .ok (.getfield 72, 3) := by decide +kernel
theorem d_86_224 : decode prog_6_method_4_code 224 = .ok (.iconst 3, 1) := by decide +kernel
theorem d_86_225 : decode prog_6_method_4_code 225 = .ok (.if_icmp .gt 54, 3) := by decide +kernel
theorem d_86_228 : decode prog_6_method_4_code 228 = .ok (.aload_n 0, 1) := by decide +kernel
theorem d_86_229 : decode prog_6_method_4_code 229 = .ok (.getfield 12, 3) := by decide +kernel
theorem d_86_232 : decode prog_6_method_4_code 232 = .ok (.bipush 10, 2) := by decide +kernel
theorem d_86_234 : decode prog_6_method_4_code 234 = .ok (.invokevirtual 49, 3) := by decide +kernel
theorem d_86_237 : decode prog_6_method_4_code 237 = .ok (.ifCond .eq 42, 3) := by decide +kernel
theorem d_86_240 : decode prog_6_method_4_code 240 = .ok (.aload_n 0, 1) := by decide +kernel
theorem d_86_241 : decode prog_6_method_4_code 241 = .ok (.invokevirtual 53, 3) := by decide +kernel
theorem d_86_244 : decode prog_6_method_4_code 244 = .ok (.ifCond .eq 35, 3) := by decide +kernel
theorem d_86_247 : decode prog_6_method_4_code 247 = .ok (.aload_n 0, 1) := by decide +kernel
theorem d_86_248 : decode prog_6_method_4_code 248 = .ok (.invokevirtual 74, 3) := by decide +kernel
theorem d_86_251 : decode prog_6_method_4_code 251 = .ok (.ifCond .eq 28, 3) := by decide +kernel
theorem d_86_254 : decode prog_6_method_4_code 254 = .ok (.aload_n 0, 1) := by decide +kernel
theorem d_86_255 : decode prog_6_method_4_code 255 = .ok (.invokevirtual 69, 3) := by decide +kernel
theorem d_86_258 : decode prog_6_method_4_code 258 = .ok (.ifCond .eq 21, 3) := by decide +kernel
theorem d_86_261 : decode prog_6_method_4_code 261 = .ok (.aload_n 0, 1) := by decide +kernel
theorem d_86_262 : decode prog_6_method_4_code 262 = .ok (.invokevirtual 77, 3) := by decide +kernel
theorem d_86_265 : decode prog_6_method_4_code 265 = .ok (.ifCond .eq 14, 3) := by decide +kernel
theorem d_86_268 : decode prog_6_method_4_code 268 = .ok (.aload_n 0, 1) := by decide +kernel
theorem d_86_269 : decode prog_6_method_4_code 269 = .ok (.invokevirtual 80, 3) := by decide +kernel
theorem d_86_272 : decode prog_6_method_4_code 272 = .ok (.ifCond .eq 7, 3) := by decide +kernel
theorem d_86_275 : decode prog_6_method_4_code 275 = .ok (.iconst 1, 1) := by decide +kernel
theorem d_86_276 : decode prog_6_method_4_code 276 = .ok (.goto 4, 3) := by decide +kernel
theorem d_86_279 : decode prog_6_method_4_code 279 = .ok (.iconst 0, 1) := by decide +kernel
theorem d_86_280 : decode prog_6_method_4_code 280 = .ok (.ireturn, 1) := by decide +kernel
set_option maxRecDepth 20000 in
theorem ok_86 : ∀ r ∈ tb_86, sm_ok 86 r := List.forall_mem_cons.mpr ⟨d_86_0, List.forall_mem_cons.mpr ⟨⟨d_86_1, Or.inl pf_107⟩, List.forall_mem_cons.mpr ⟨d_86_4, List.forall_mem_cons.mpr ⟨⟨d_86_5, Or.inl pf_109⟩, List.forall_mem_cons.mpr ⟨⟨d_86_8, ⟨mo_70, mi_70, se_70, pm_102⟩⟩, List.forall_mem_cons.mpr ⟨⟨d_86_11, pf_110⟩, List.forall_mem_cons.mpr ⟨d_86_14, List.forall_mem_cons.mpr ⟨⟨d_86_15, Or.inl pf_109⟩, List.forall_mem_cons.mpr ⟨d_86_18, List.forall_mem_cons.mpr ⟨⟨d_86_19, ⟨mo_71, mi_71, se_71, pm_103⟩⟩, List.forall_mem_cons.mpr ⟨⟨d_86_22, (by decide)⟩, List.forall_mem_cons.mpr ⟨d_86_25, List.forall_mem_cons.mpr ⟨⟨d_86_26, ⟨mo_87, mi_87, se_87, pm_104⟩⟩, List.forall_mem_cons.mpr ⟨⟨d_86_29, (by decide)⟩, List.forall_mem_cons.mpr ⟨d_86_32, List.forall_mem_cons.mpr ⟨⟨d_86_33, ⟨mo_89, mi_89, se_89, pm_105⟩⟩, List.forall_mem_cons.mpr ⟨⟨d_86_36, (by decide)⟩, List.forall_mem_cons.mpr ⟨d_86_39, List.forall_mem_cons.mpr ⟨⟨d_86_40, (by decide)⟩, List.forall_mem_cons.mpr ⟨d_86_43, List.forall_mem_cons.mpr ⟨d_86_44, List.forall_mem_cons.mpr ⟨d_86_45, List.forall_mem_cons.mpr ⟨⟨d_86_46, Or.inl pf_109⟩, List.forall_mem_cons.mpr ⟨d_86_49, List.forall_mem_cons.mpr ⟨⟨d_86_50, ⟨mo_71, mi_71, se_71, pm_103⟩⟩, List.forall_mem_cons.mpr ⟨⟨d_86_53, (by decide)⟩, List.forall_mem_cons.mpr ⟨d_86_56, List.forall_mem_cons.mpr ⟨⟨d_86_57, ⟨mo_87, mi_87, se_87, pm_104⟩⟩, List.forall_mem_cons.mpr ⟨⟨d_86_60, (by decide)⟩, List.forall_mem_cons.mpr ⟨d_86_63, List.forall_mem_cons.mpr ⟨⟨d_86_64, ⟨mo_90, mi_90, se_90, pm_106⟩⟩, List.forall_mem_cons.mpr ⟨⟨d_86_67, (by decide)⟩, List.forall_mem_cons.mpr ⟨d_86_70, List.forall_mem_cons.mpr ⟨⟨d_86_71, (by decide)⟩, List.forall_mem_cons.mpr ⟨d_86_74, List.forall_mem_cons.mpr ⟨d_86_75, List.forall_mem_cons.mpr ⟨d_86_76, List.forall_mem_cons.mpr ⟨⟨d_86_77, Or.inl pf_109⟩, List.forall_mem_cons.mpr ⟨d_86_80, List.forall_mem_cons.mpr ⟨⟨d_86_82, ⟨mo_71, mi_71, se_71, pm_103⟩⟩, List.forall_mem_cons.mpr ⟨⟨d_86_85, (by decide)⟩, List.forall_mem_cons.mpr ⟨d_86_88, List.forall_mem_cons.mpr ⟨⟨d_86_89, ⟨mo_87, mi_87, se_87, pm_104⟩⟩, List.forall_mem_cons.mpr ⟨⟨d_86_92, (by decide)⟩, List.forall_mem_cons.mpr ⟨d_86_95, List.forall_mem_cons.mpr ⟨⟨d_86_96, ⟨mo_91, mi_91, se_91, pm_107⟩⟩, List.forall_mem_cons.mpr ⟨⟨d_86_99, (by decide)⟩, List.forall_mem_cons.mpr ⟨d_86_102, List.forall_mem_cons.mpr ⟨⟨d_86_103, (by decide)⟩, List.forall_mem_cons.mpr ⟨d_86_106, List.forall_mem_cons.mpr ⟨d_86_107, List.forall_mem_cons.mpr ⟨d_86_108, List.forall_mem_cons.mpr ⟨⟨d_86_109, Or.inl pf_109⟩, List.forall_mem_cons.mpr ⟨d_86_112, List.forall_mem_cons.mpr ⟨⟨d_86_114, ⟨mo_71, mi_71, se_71, pm_103⟩⟩, List.forall_mem_cons.mpr ⟨⟨d_86_117, (by decide)⟩, List.forall_mem_cons.mpr ⟨d_86_120, List.forall_mem_cons.mpr ⟨⟨d_86_121, ⟨mo_87, mi_87, se_87, pm_104⟩⟩, List.forall_mem_cons.mpr ⟨⟨d_86_124, (by decide)⟩, List.forall_mem_cons.mpr ⟨d_86_127, List.forall_mem_cons.mpr ⟨⟨d_86_128, ⟨mo_90, mi_90, se_90, pm_106⟩⟩, List.forall_mem_cons.mpr ⟨⟨d_86_131, (by decide)⟩, List.forall_mem_cons.mpr ⟨d_86_134, List.forall_mem_cons.mpr ⟨⟨d_86_135, Or.inl pf_109⟩, List.forall_mem_cons.mpr ⟨d_86_138, List.forall_mem_cons.mpr ⟨⟨d_86_140, ⟨mo_71, mi_71, se_71, pm_103⟩⟩, List.forall_mem_cons.mpr ⟨⟨d_86_143, (by decide)⟩, List.forall_mem_cons.mpr ⟨d_86_146, List.forall_mem_cons.mpr ⟨⟨d_86_147, ⟨mo_92, mi_92, se_92, pm_108⟩⟩, List.forall_mem_cons.mpr ⟨⟨d_86_150, (by decide)⟩, List.forall_mem_cons.mpr ⟨d_86_153, List.forall_mem_cons.mpr ⟨⟨d_86_154, ⟨mo_93, mi_93, se_93, pm_109⟩⟩, List.forall_mem_cons.mpr ⟨⟨d_86_157, (by decide)⟩, List.forall_mem_cons.mpr ⟨d_86_160, List.forall_mem_cons.mpr ⟨⟨d_86_161, (by decide)⟩, List.forall_mem_cons.mpr ⟨d_86_164, List.forall_mem_cons.mpr ⟨d_86_165, List.forall_mem_cons.mpr ⟨d_86_166, List.forall_mem_cons.mpr ⟨⟨d_86_167, Or.inl pf_109⟩, List.forall_mem_cons.mpr ⟨d_86_170, List.forall_mem_cons.mpr ⟨⟨d_86_172, ⟨mo_71, mi_71, se_71, pm_103⟩⟩, List.forall_mem_cons.mpr ⟨⟨d_86_175, (by decide)⟩, List.forall_mem_cons.mpr ⟨d_86_178, List.forall_mem_cons.mpr ⟨⟨d_86_179, ⟨mo_87, mi_87, se_87, pm_104⟩⟩, List.forall_mem_cons.mpr ⟨⟨d_86_182, (by decide)⟩, List.forall_mem_cons.mpr ⟨d_86_185, List.forall_mem_cons.mpr ⟨⟨d_86_186, ⟨mo_93, mi_93, se_93, pm_109⟩⟩, List.forall_mem_cons.mpr ⟨⟨d_86_189, (by decide)⟩, List.forall_mem_cons.mpr ⟨d_86_192, List.forall_mem_cons.mpr ⟨⟨d_86_193, (by decide)⟩, List.forall_mem_cons.mpr ⟨d_86_196, List.forall_mem_cons.mpr ⟨d_86_197, List.forall_mem_cons.mpr ⟨d_86_198, List.forall_mem_cons.mpr ⟨⟨d_86_199, Or.inl pf_109⟩, List.forall_mem_cons.mpr ⟨d_86_202, List.forall_mem_cons.mpr ⟨⟨d_86_204, ⟨mo_71, mi_71, se_71, pm_103⟩⟩, List.forall_mem_cons.mpr ⟨⟨d_86_207, (by decide)⟩, List.forall_mem_cons.mpr ⟨d_86_210, List.forall_mem_cons.mpr ⟨⟨d_86_211, ⟨mo_91, mi_91, se_91, pm_107⟩⟩, List.forall_mem_cons.mpr ⟨⟨d_86_214, (by decide)⟩, List.forall_mem_cons.mpr ⟨d_86_217, List.forall_mem_cons.mpr ⟨⟨d_86_218, Or.inl pf_107⟩, List.forall_mem_cons.mpr ⟨⟨d_86_221, Or.inl pf_111⟩, List.forall_mem_cons.mpr ⟨d_86_224, List.forall_mem_cons.mpr ⟨⟨d_86_225, (by decide)⟩, List.forall_mem_cons.mpr ⟨d_86_228, List.forall_mem_cons.mpr ⟨⟨d_86_229, Or.inl pf_109⟩, List.forall_mem_cons.mpr ⟨d_86_232, List.forall_mem_cons.mpr ⟨⟨d_86_234, ⟨mo_71, mi_71, se_71, pm_103⟩⟩, List.forall_mem_cons.mpr ⟨⟨d_86_237, (by decide)⟩, List.forall_mem_cons.mpr ⟨d_86_240, List.forall_mem_cons.mpr ⟨⟨d_86_241, ⟨mo_87, mi_87, se_87, pm_104⟩⟩, List.forall_mem_cons.mpr ⟨⟨d_86_244, (by decide)⟩, List.forall_mem_cons.mpr ⟨d_86_247, List.forall_mem_cons.mpr ⟨⟨d_86_248, ⟨mo_88, mi_88, se_88, pm_110⟩⟩, List.forall_mem_cons.mpr ⟨⟨d_86_251, (by decide)⟩, List.forall_mem_cons.mpr ⟨d_86_254, List.forall_mem_cons.mpr ⟨⟨d_86_255, ⟨mo_93, mi_93, se_93, pm_109⟩⟩, List.forall_mem_cons.mpr ⟨⟨d_86_258, (by decide)⟩, List.forall_mem_cons.mpr ⟨d_86_261, List.forall_mem_cons.mpr ⟨⟨d_86_262, ⟨mo_94, mi_94, se_94, pm_111⟩⟩, List.forall_mem_cons.mpr ⟨⟨d_86_265, (by decide)⟩, List.forall_mem_cons.mpr ⟨d_86_268, List.forall_mem_cons.mpr ⟨⟨d_86_269, ⟨mo_95, mi_95, se_95, pm_112⟩⟩, List.forall_mem_cons.mpr ⟨⟨d_86_272, (by decide)⟩, List.forall_mem_cons.mpr ⟨d_86_275, List.forall_mem_cons.mpr ⟨⟨d_86_276, (by decide)⟩, List.forall_mem_cons.mpr ⟨d_86_279, List.forall_mem_cons.mpr ⟨d_86_280, fun _ h => absurd h List.not_mem_nil⟩⟩⟩⟩⟩⟩⟩⟩⟩⟩⟩⟩⟩⟩⟩⟩⟩⟩⟩⟩⟩⟩⟩⟩⟩⟩⟩⟩⟩⟩⟩⟩⟩⟩⟩⟩⟩⟩⟩⟩⟩⟩⟩⟩⟩⟩⟩⟩⟩⟩⟩⟩⟩⟩⟩⟩⟩⟩⟩⟩⟩⟩⟩⟩⟩⟩⟩⟩⟩⟩⟩⟩⟩⟩⟩⟩⟩⟩⟩⟩⟩⟩⟩⟩⟩⟩⟩⟩⟩⟩⟩⟩⟩⟩⟩⟩⟩⟩⟩⟩⟩⟩⟩⟩⟩⟩⟩⟩⟩⟩⟩⟩⟩⟩⟩⟩⟩⟩⟩⟩⟩⟩⟩⟩⟩⟩⟩⟩⟩
theorem d_87_0 : decode prog_6_method_5_code 0 = .ok (.aload_n 0, 1) := by decide +kernel
theorem d_87_1 : decode prog_6_method_5_code 1 = .ok (.getfield 12, 3) := by decide +kernel
theorem d_87_4 : decode prog_6_method_5_code 4 = .ok (.iconst 1, 1) := by decide +kernel
theorem d_87_5 : decode prog_6_method_5_code 5 = .ok (.invokevirtual 49, 3) := by decide +kernel
theorem d_87_8 : decode prog_6_method_5_code 8 = .ok (.ifCond .ne 5, 3) := by decide +kernel
theorem d_87_11 : decode prog_6_method_5_code 11 = .ok (.iconst 0, 1) := by decide +kernel
theorem d_87_12 : decode prog_6_method_5_code 12 = .ok (.ireturn, 1) := by decide +kernel
theorem d_87_13 : decode prog_6_method_5_code 13 = .ok (.aload_n 0, 1) := by decide +kernel
theorem d_87_14 : decode prog_6_method_5_code 14 = .ok (.getfield 22, 3) := by decide +kernel
theorem d_87_17 : decode prog_6_method_5_code 17 = .ok (.aload_n 0, 1) := by decide +kernel
theorem d_87_18 : decode prog_6_method_5_code 18 = .ok (.getfield 12, 3) := by decide +kernel
theorem d_87_21 : decode prog_6_method_5_code 21 = .ok (.invokevirtual 83, 3) := by decide +kernel
theorem d_87_24 : decode prog_6_method_5_code 24 = .ok (.putfield 86, 3) := by decide +kernel
theorem d_87_27 : decode prog_6_method_5_code 27 = .ok (.iconst 1, 1) := by decide +kernel
theorem d_87_28 : decode prog_6_method_5_code 28 = .ok (.ireturn, 1) := by decide +kernel
set_option maxRecDepth 20000 in
theorem ok_87 : ∀ r ∈ tb_87, sm_ok 87 r := List.forall_mem_cons.mpr ⟨d_87_0, List.forall_mem_cons.mpr ⟨⟨d_87_1, Or.inl pf_109⟩, List.forall_mem_cons.mpr ⟨d_87_4, List.forall_mem_cons.mpr ⟨⟨d_87_5, ⟨mo_71, mi_71, se_71, pm_103⟩⟩, List.forall_mem_cons.mpr ⟨⟨d_87_8, (by decide)⟩, List.forall_mem_cons.mpr ⟨d_87_11, List.forall_mem_cons.mpr ⟨d_87_12, List.forall_mem_cons.mpr ⟨d_87_13, List.forall_mem_cons.mpr ⟨⟨d_87_14, Or.inl pf_107⟩, List.forall_mem_cons.mpr ⟨d_87_17, List.forall_mem_cons.mpr ⟨⟨d_87_18, Or.inl pf_109⟩, List.forall_mem_cons.mpr ⟨⟨d_87_21, ⟨mo_72, mi_72, se_72, pm_113⟩⟩, List.forall_mem_cons.mpr ⟨⟨d_87_24, pf_112⟩, List.forall_mem_cons.mpr ⟨d_87_27, List.forall_mem_cons.mpr ⟨d_87_28, fun _ h => absurd h List.not_mem_nil⟩⟩⟩⟩⟩⟩⟩⟩⟩⟩⟩⟩⟩⟩⟩
theorem d_88_0 : decode prog_6_method_6_code 0 = .ok (.aload_n 0, 1) := by decide +kernel
theorem d_88_1 : decode prog_6_method_6_code 1 = .ok (.getfield 12, 3) := by decide +kernel
theorem d_88_4 : decode prog_6_method_6_code 4 = .ok (.bipush 44, 2) := by decide +kernel
theorem d_88_6 : decode prog_6_method_6_code 6 = .ok (.invokevirtual 49, 3) := by decide +kernel
theorem d_88_9 : decode prog_6_method_6_code 9 = .ok (.ifCond .ne 5, 3) := by decide +kernel
theorem d_88_12 : decode prog_6_method_6_code 12 = .ok (.iconst 1, 1) := by decide +kernel
theorem d_88_13 : decode prog_6_method_6_code 13 = .ok (.ireturn, 1) := by decide +kernel
theorem d_88_14 : decode prog_6_method_6_code 14 = .ok (.aload_n 0, 1) := by decide +kernel
theorem d_88_15 : decode prog_6_method_6_code 15 = .ok (.getfield 12, 3) := by decide +kernel
theorem d_88_18 : decode prog_6_method_6_code 18 = .ok (.iconst 1, 1) := by decide +kernel
theorem d_88_19 : decode prog_6_method_6_code 19 = .ok (.invokevirtual 49, 3) := by decide +kernel
theorem d_88_22 : decode prog_6_method_6_code 22 = .ok (.ifCond .ne 5, 3) := by decide +kernel
theorem d_88_25 : decode prog_6_method_6_code 25 = .ok (.iconst 0, 1) := by decide +kernel
theorem d_88_26 : decode prog_6_method_6_code 26 = .ok (.ireturn, 1) := by decide +kernel
theorem d_88_27 : decode prog_6_method_6_code 27 = .ok (.aload_n 0, 1) := by decide +kernel
theorem d_88_28 : decode prog_6_method_6_code 28 = .ok (.getfield 22, 3) := by decide +kernel
theorem d_88_31 : decode prog_6_method_6_code 31 = .ok (.aload_n 0, 1) := by decide +kernel
theorem d_88_32 : decode prog_6_method_6_code 32 = .ok (.getfield 12, 3) := by decide +kernel
theorem d_88_35 : decode prog_6_method_6_code 35 = .ok (.invokevirtual 83, 3) := by decide +kernel
theorem d_88_38 : decode prog_6_method_6_code 38 = .ok (.putfield 89, 3) := by decide +kernel
theorem d_88_41 : decode prog_6_method_6_code 41 = .ok (.iconst 1, 1) := by decide +kernel
theorem d_88_42 : decode prog_6_method_6_code 42 = .ok (.ireturn, 1) := by decide +kernel
set_option maxRecDepth 20000 in
theorem ok_88 : ∀ r ∈ tb_88, sm_ok 88 r := List.forall_mem_cons.mpr ⟨d_88_0, List.forall_mem_cons.mpr ⟨⟨d_88_1, Or.inl pf_109⟩, List.forall_mem_cons.mpr ⟨d_88_4, List.forall_mem_cons.mpr ⟨⟨d_88_6, ⟨mo_71, mi_71, se_71, pm_103⟩⟩, List.forall_mem_cons.mpr ⟨⟨d_88_9, (by decide)⟩, List.forall_mem_cons.mpr ⟨d_88_12, List.forall_mem_cons.mpr ⟨d_88_13, List.forall_mem_cons.mpr ⟨d_88_14, List.forall_mem_cons.mpr ⟨⟨d_88_15, Or.inl pf_109⟩, List.forall_mem_cons.mpr ⟨d_88_18, List.forall_mem_cons.mpr ⟨⟨d_88_19, ⟨mo_71, mi_71, se_71, pm_103⟩⟩, List.forall_mem_cons.mpr ⟨⟨d_88_22, (by decide)⟩, List.forall_mem_cons.mpr ⟨d_88_25, List.forall_mem_cons.mpr ⟨d_88_26, List.forall_mem_cons.mpr ⟨d_88_27, List.forall_mem_cons.mpr ⟨⟨d_88_28, Or.inl pf_107⟩, List.forall_mem_cons.mpr ⟨d_88_31, List.forall_mem_cons.mpr ⟨⟨d_88_32, Or.inl pf_109⟩, List.forall_mem_cons.mpr ⟨⟨d_88_35, ⟨mo_72, mi_72, se_72, pm_113⟩⟩, List.forall_mem_cons.mpr ⟨⟨d_88_38, pf_113⟩, List.forall_mem_cons.mpr ⟨d_88_41, List.forall_mem_cons.mpr ⟨d_88_42, fun _ h => absurd h List.not_mem_nil⟩⟩⟩⟩⟩⟩⟩⟩⟩⟩⟩⟩⟩⟩⟩⟩⟩⟩⟩⟩⟩⟩
