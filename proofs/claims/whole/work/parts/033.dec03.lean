/-! DECODE ROWS, by program -/
theorem d_89_0 : decode prog_6_method_7_code 0 = .ok (.aload_n 0, 1) := by decide +kernel
theorem d_89_1 : decode prog_6_method_7_code 1 = .ok (.getfield 12, 3) := by decide +kernel
theorem d_89_4 : decode prog_6_method_7_code 4 = .ok (.iconst 2, 1) := by decide +kernel
theorem d_89_5 : decode prog_6_method_7_code 5 = .ok (.invokevirtual 49, 3) := by decide +kernel
theorem d_89_8 : decode prog_6_method_7_code 8 = .ok (.ifCond .ne 5, 3) := by decide +kernel
theorem d_89_11 : decode prog_6_method_7_code 11 = .ok (.iconst 0, 1) := by decide +kernel
theorem d_89_12 : decode prog_6_method_7_code 12 = .ok (.ireturn, 1) := by decide +kernel
theorem d_89_13 : decode prog_6_method_7_code 13 = .ok (.aload_n 0, 1) := by decide +kernel
theorem d_89_14 : decode prog_6_method_7_code 14 = .ok (.getfield 22, 3) := by decide +kernel
theorem d_89_17 : decode prog_6_method_7_code 17 = .ok (.aload_n 0, 1) := by decide +kernel
theorem d_89_18 : decode prog_6_method_7_code 18 = .ok (.getfield 12, 3) := by decide +kernel
theorem d_89_21 : decode prog_6_method_7_code 21 = .ok (.invokevirtual 83, 3) := by decide +kernel
theorem d_89_24 : decode prog_6_method_7_code 24 = .ok (.putfield 92, 3) := by decide +kernel
theorem d_89_27 : decode prog_6_method_7_code 27 = .ok (.iconst 1, 1) := by decide +kernel
theorem d_89_28 : decode prog_6_method_7_code 28 = .ok (.ireturn, 1) := by decide +kernel
set_option maxRecDepth 20000 in
theorem ok_89 : ∀ r ∈ tb_89, sm_ok 89 r := List.forall_mem_cons.mpr ⟨d_89_0, List.forall_mem_cons.mpr ⟨⟨d_89_1, Or.inl pf_109⟩, List.forall_mem_cons.mpr ⟨d_89_4, List.forall_mem_cons.mpr ⟨⟨d_89_5, ⟨mo_71, mi_71, se_71, pm_103⟩⟩, List.forall_mem_cons.mpr ⟨⟨d_89_8, (by decide)⟩, List.forall_mem_cons.mpr ⟨d_89_11, List.forall_mem_cons.mpr ⟨d_89_12, List.forall_mem_cons.mpr ⟨d_89_13, List.forall_mem_cons.mpr ⟨⟨d_89_14, Or.inl pf_107⟩, List.forall_mem_cons.mpr ⟨d_89_17, List.forall_mem_cons.mpr ⟨⟨d_89_18, Or.inl pf_109⟩, List.forall_mem_cons.mpr ⟨⟨d_89_21, ⟨mo_72, mi_72, se_72, pm_113⟩⟩, List.forall_mem_cons.mpr ⟨⟨d_89_24, pf_114⟩, List.forall_mem_cons.mpr ⟨d_89_27, List.forall_mem_cons.mpr ⟨d_89_28, fun _ h => absurd h List.not_mem_nil⟩⟩⟩⟩⟩⟩⟩⟩⟩⟩⟩⟩⟩⟩⟩
theorem d_90_0 : decode prog_6_method_8_code 0 = .ok (.aload_n 0, 1) := by decide +kernel
theorem d_90_1 : decode prog_6_method_8_code 1 = .ok (.getfield 12, 3) := by decide +kernel
theorem d_90_4 : decode prog_6_method_8_code 4 = .ok (.iconst 3, 1) := by decide +kernel
theorem d_90_5 : decode prog_6_method_8_code 5 = .ok (.invokevirtual 49, 3) := by decide +kernel
theorem d_90_8 : decode prog_6_method_8_code 8 = .ok (.ifCond .ne 5, 3) := by decide +kernel
theorem d_90_11 : decode prog_6_method_8_code 11 = .ok (.iconst 0, 1) := by decide +kernel
theorem d_90_12 : decode prog_6_method_8_code 12 = .ok (.ireturn, 1) := by decide +kernel
theorem d_90_13 : decode prog_6_method_8_code 13 = .ok (.aload_n 0, 1) := by decide +kernel
theorem d_90_14 : decode prog_6_method_8_code 14 = .ok (.getfield 22, 3) := by decide +kernel
theorem d_90_17 : decode prog_6_method_8_code 17 = .ok (.aload_n 0, 1) := by decide +kernel
theorem d_90_18 : decode prog_6_method_8_code 18 = .ok (.getfield 12, 3) := by decide +kernel
theorem d_90_21 : decode prog_6_method_8_code 21 = .ok (.invokevirtual 83, 3) := by decide +kernel
theorem d_90_24 : decode prog_6_method_8_code 24 = .ok (.putfield 94, 3) := by decide +kernel
theorem d_90_27 : decode prog_6_method_8_code 27 = .ok (.iconst 1, 1) := by decide +kernel
theorem d_90_28 : decode prog_6_method_8_code 28 = .ok (.ireturn, 1) := by decide +kernel
set_option maxRecDepth 20000 in
theorem ok_90 : ∀ r ∈ tb_90, sm_ok 90 r := List.forall_mem_cons.mpr ⟨d_90_0, List.forall_mem_cons.mpr ⟨⟨d_90_1, Or.inl pf_109⟩, List.forall_mem_cons.mpr ⟨d_90_4, List.forall_mem_cons.mpr ⟨⟨d_90_5, ⟨mo_71, mi_71, se_71, pm_103⟩⟩, List.forall_mem_cons.mpr ⟨⟨d_90_8, (by decide)⟩, List.forall_mem_cons.mpr ⟨d_90_11, List.forall_mem_cons.mpr ⟨d_90_12, List.forall_mem_cons.mpr ⟨d_90_13, List.forall_mem_cons.mpr ⟨⟨d_90_14, Or.inl pf_107⟩, List.forall_mem_cons.mpr ⟨d_90_17, List.forall_mem_cons.mpr ⟨⟨d_90_18, Or.inl pf_109⟩, List.forall_mem_cons.mpr ⟨⟨d_90_21, ⟨mo_72, mi_72, se_72, pm_113⟩⟩, List.forall_mem_cons.mpr ⟨⟨d_90_24, pf_115⟩, List.forall_mem_cons.mpr ⟨d_90_27, List.forall_mem_cons.mpr ⟨d_90_28, fun _ h => absurd h List.not_mem_nil⟩⟩⟩⟩⟩⟩⟩⟩⟩⟩⟩⟩⟩⟩⟩
theorem d_91_0 : decode prog_6_method_9_code 0 = .ok (.iconst 0, 1) := by decide +kernel
theorem d_91_1 : decode prog_6_method_9_code 1 = .ok (.istore_n 1, 1) := by decide +kernel
theorem d_91_2 : decode prog_6_method_9_code 2 = .ok (.iload_n 1, 1) := by decide +kernel
theorem d_91_3 : decode prog_6_method_9_code 3 = .ok (.bipush 80, 2) := by decide +kernel
theorem d_91_5 : decode prog_6_method_9_code 5 = .ok (.if_icmp .ge 32, 3) := by decide +kernel
theorem d_91_8 : decode prog_6_method_9_code 8 = .ok (.aload_n 0, 1) := by decide +kernel
theorem d_91_9 : decode prog_6_method_9_code 9 = .ok (.invokevirtual 66, 3) := by decide +kernel
theorem d_91_12 : decode prog_6_method_9_code 12 = .ok (.ifCond .ne 5, 3) := by decide +kernel
theorem d_91_15 : decode prog_6_method_9_code 15 = .ok (.iconst 0, 1) := by decide +kernel
theorem d_91_16 : decode prog_6_method_9_code 16 = .ok (.ireturn, 1) := by decide +kernel
theorem d_91_17 : decode prog_6_method_9_code 17 = .ok (.aload_n 0, 1) := by decide +kernel
theorem d_91_18 : decode prog_6_method_9_code 18 = .ok (.getfield 12, 3) := by decide +kernel
theorem d_91_21 : decode prog_6_method_9_code 21 = .ok (.bipush 44, 2) := by decide +kernel
theorem d_91_23 : decode prog_6_method_9_code 23 = .ok (.invokevirtual 49, 3) := by decide +kernel
theorem d_91_26 : decode prog_6_method_9_code 26 = .ok (.ifCond .ne 5, 3) := by decide +kernel
theorem d_91_29 : decode prog_6_method_9_code 29 = .ok (.iconst 1, 1) := by decide +kernel
theorem d_91_30 : decode prog_6_method_9_code 30 = .ok (.ireturn, 1) := by decide +kernel
theorem d_91_31 : decode prog_6_method_9_code 31 = .ok (.iinc 1 1, 3) := by decide +kernel
theorem d_91_34 : decode prog_6_method_9_code 34 = .ok (.goto (-32), 3) := by decide +kernel
theorem d_91_37 : decode prog_6_method_9_code 37 = .ok (.iconst 0, 1) := by decide +kernel
theorem d_91_38 : decode prog_6_method_9_code 38 = .ok (.ireturn, 1) := by decide +kernel
set_option maxRecDepth 20000 in
theorem ok_91 : ∀ r ∈ tb_91, sm_ok 91 r := List.forall_mem_cons.mpr ⟨d_91_0, List.forall_mem_cons.mpr ⟨d_91_1, List.forall_mem_cons.mpr ⟨d_91_2, List.forall_mem_cons.mpr ⟨d_91_3, List.forall_mem_cons.mpr ⟨⟨d_91_5, (by decide)⟩, List.forall_mem_cons.mpr ⟨d_91_8, List.forall_mem_cons.mpr ⟨⟨d_91_9, ⟨mo_92, mi_92, se_92, pm_108⟩⟩, List.forall_mem_cons.mpr ⟨⟨d_91_12, (by decide)⟩, List.forall_mem_cons.mpr ⟨d_91_15, List.forall_mem_cons.mpr ⟨d_91_16, List.forall_mem_cons.mpr ⟨d_91_17, List.forall_mem_cons.mpr ⟨⟨d_91_18, Or.inl pf_109⟩, List.forall_mem_cons.mpr ⟨d_91_21, List.forall_mem_cons.mpr ⟨⟨d_91_23, ⟨mo_71, mi_71, se_71, pm_103⟩⟩, List.forall_mem_cons.mpr ⟨⟨d_91_26, (by decide)⟩, List.forall_mem_cons.mpr ⟨d_91_29, List.forall_mem_cons.mpr ⟨d_91_30, List.forall_mem_cons.mpr ⟨d_91_31, List.forall_mem_cons.mpr ⟨⟨d_91_34, (by decide)⟩, List.forall_mem_cons.mpr ⟨d_91_37, List.forall_mem_cons.mpr ⟨d_91_38, fun _ h => absurd h List.not_mem_nil⟩⟩⟩⟩⟩⟩⟩⟩⟩⟩⟩⟩⟩⟩⟩⟩⟩⟩⟩⟩⟩
theorem d_92_0 : decode prog_6_method_10_code 0 = .ok (.aload_n 0, 1) := by decide +kernel
theorem d_92_1 : decode prog_6_method_10_code 1 = .ok (.iconst 0, 1) := by decide +kernel
theorem d_92_2 : decode prog_6_method_10_code 2 = .ok (.invokevirtual 96, 3) := by decide +kernel
theorem d_92_5 : decode prog_6_method_10_code 5 = .ok (.ifCond .ne 5, 3) := by decide +kernel
theorem d_92_8 : decode prog_6_method_10_code 8 = .ok (.iconst 0, 1) := by decide +kernel
theorem d_92_9 : decode prog_6_method_10_code 9 = .ok (.ireturn, 1) := by decide +kernel
theorem d_92_10 : decode prog_6_method_10_code 10 = .ok (.aload_n 0, 1) := by decide +kernel
theorem d_92_11 : decode prog_6_method_10_code 11 = .ok (.getfield 22, 3) := by decide +kernel
theorem d_92_14 : decode prog_6_method_10_code 14 = .ok (.aload_n 0, 1) := by decide +kernel
theorem d_92_15 : decode prog_6_method_10_code 15 = .ok (.getfield 26, 3) := by decide +kernel
theorem d_92_18 : decode prog_6_method_10_code 18 = .ok (.getfield 99, 3) := by decide +kernel
theorem d_92_21 : decode prog_6_method_10_code 21 = .ok (.invokevirtual 102, 3) := by decide +kernel
theorem d_92_24 : decode prog_6_method_10_code 24 = .ok (.iconst 1, 1) := by decide +kernel
theorem d_92_25 : decode prog_6_method_10_code 25 = .ok (.ireturn, 1) := by decide +kernel
set_option maxRecDepth 20000 in
theorem ok_92 : ∀ r ∈ tb_92, sm_ok 92 r := List.forall_mem_cons.mpr ⟨d_92_0, List.forall_mem_cons.mpr ⟨d_92_1, List.forall_mem_cons.mpr ⟨⟨d_92_2, ⟨mo_96, mi_96, se_96, pm_114⟩⟩, List.forall_mem_cons.mpr ⟨⟨d_92_5, (by decide)⟩, List.forall_mem_cons.mpr ⟨d_92_8, List.forall_mem_cons.mpr ⟨d_92_9, List.forall_mem_cons.mpr ⟨d_92_10, List.forall_mem_cons.mpr ⟨⟨d_92_11, Or.inl pf_107⟩, List.forall_mem_cons.mpr ⟨d_92_14, List.forall_mem_cons.mpr ⟨⟨d_92_15, Or.inl pf_108⟩, List.forall_mem_cons.mpr ⟨⟨d_92_18, Or.inl pf_116⟩, List.forall_mem_cons.mpr ⟨⟨d_92_21, ⟨mo_60, mi_60, se_60, pm_115⟩⟩, List.forall_mem_cons.mpr ⟨d_92_24, List.forall_mem_cons.mpr ⟨d_92_25, fun _ h => absurd h List.not_mem_nil⟩⟩⟩⟩⟩⟩⟩⟩⟩⟩⟩⟩⟩⟩
theorem d_93_0 : decode prog_6_method_11_code 0 = .ok (.aload_n 0, 1) := by decide +kernel
theorem d_93_1 : decode prog_6_method_11_code 1 = .ok (.getfield 12, 3) := by decide +kernel
theorem d_93_4 : decode prog_6_method_11_code 4 = .ok (.bipush 11, 2) := by decide +kernel
theorem d_93_6 : decode prog_6_method_11_code 6 = .ok (.invokevirtual 49, 3) := by decide +kernel
theorem d_93_9 : decode prog_6_method_11_code 9 = .ok (.ifCond .ne 5, 3) := by decide +kernel
theorem d_93_12 : decode prog_6_method_11_code 12 = .ok (.iconst 1, 1) := by decide +kernel
theorem d_93_13 : decode prog_6_method_11_code 13 = .ok (.ireturn, 1) := by decide +kernel
theorem d_93_14 : decode prog_6_method_11_code 14 = .ok (.aload_n 0, 1) := by decide +kernel
theorem d_93_15 : decode prog_6_method_11_code 15 = .ok (.getfield 22, 3) := by decide +kernel
theorem d_93_18 : decode prog_6_method_11_code 18 = .ok (.aload_n 0, 1) := by decide +kernel
theorem d_93_19 : decode prog_6_method_11_code 19 = .ok (.getfield 26, 3) := by decide +kernel
theorem d_93_22 : decode prog_6_method_11_code 22 = .ok (.getfield 99, 3) := by decide +kernel
theorem d_93_25 : decode prog_6_method_11_code 25 = .ok (.putfield 106, 3) := by decide +kernel
theorem d_93_28 : decode prog_6_method_11_code 28 = .ok (.aload_n 0, 1) := by decide +kernel
theorem d_93_29 : decode prog_6_method_11_code 29 = .ok (.iconst 0, 1) := by decide +kernel
theorem d_93_30 : decode prog_6_method_11_code 30 = .ok (.invokevirtual 109, 3) := by decide +kernel
theorem d_93_33 : decode prog_6_method_11_code 33 = .ok (.ifCond .ne 5, 3) := by decide +kernel
theorem d_93_36 : decode prog_6_method_11_code 36 = .ok (.iconst 0, 1) := by decide +kernel
theorem d_93_37 : decode prog_6_method_11_code 37 = .ok (.ireturn, 1) := by decide +kernel
theorem d_93_38 : decode prog_6_method_11_code 38 = .ok (.aload_n 0, 1) := by decide +kernel
theorem d_93_39 : decode prog_6_method_11_code 39 = .ok (.getfield 22, 3) := by decide +kernel
theorem d_93_42 : decode prog_6_method_11_code 42 = .ok (.aload_n 0, 1) := by decide +kernel
theorem d_93_43 : decode prog_6_method_11_code 43 = .ok (.getfield 26, 3) := by decide +kernel
theorem d_93_46 : decode prog_6_method_11_code 46 = .ok (.getfield 99, 3) := by decide +kernel
theorem d_93_49 : decode prog_6_method_11_code 49 = .ok (.putfield 112, 3) := by decide +kernel
theorem d_93_52 : decode prog_6_method_11_code 52 = .ok (.iconst 1, 1) := by decide +kernel
theorem d_93_53 : decode prog_6_method_11_code 53 = .ok (.ireturn, 1) := by decide +kernel
set_option maxRecDepth 20000 in
theorem ok_93 : ∀ r ∈ tb_93, sm_ok 93 r := List.forall_mem_cons.mpr ⟨d_93_0, List.forall_mem_cons.mpr ⟨⟨d_93_1, Or.inl pf_109⟩, List.forall_mem_cons.mpr ⟨d_93_4, List.forall_mem_cons.mpr ⟨⟨d_93_6, ⟨mo_71, mi_71, se_71, pm_103⟩⟩, List.forall_mem_cons.mpr ⟨⟨d_93_9, (by decide)⟩, List.forall_mem_cons.mpr ⟨d_93_12, List.forall_mem_cons.mpr ⟨d_93_13, List.forall_mem_cons.mpr ⟨d_93_14, List.forall_mem_cons.mpr ⟨⟨d_93_15, Or.inl pf_107⟩, List.forall_mem_cons.mpr ⟨d_93_18, List.forall_mem_cons.mpr ⟨⟨d_93_19, Or.inl pf_108⟩, List.forall_mem_cons.mpr ⟨⟨d_93_22, Or.inl pf_116⟩, List.forall_mem_cons.mpr ⟨⟨d_93_25, pf_117⟩, List.forall_mem_cons.mpr ⟨d_93_28, List.forall_mem_cons.mpr ⟨d_93_29, List.forall_mem_cons.mpr ⟨⟨d_93_30, ⟨mo_100, mi_100, se_100, pm_116⟩⟩, List.forall_mem_cons.mpr ⟨⟨d_93_33, (by decide)⟩, List.forall_mem_cons.mpr ⟨d_93_36, List.forall_mem_cons.mpr ⟨d_93_37, List.forall_mem_cons.mpr ⟨d_93_38, List.forall_mem_cons.mpr ⟨⟨d_93_39, Or.inl pf_107⟩, List.forall_mem_cons.mpr ⟨d_93_42, List.forall_mem_cons.mpr ⟨⟨d_93_43, Or.inl pf_108⟩, List.forall_mem_cons.mpr ⟨⟨d_93_46, Or.inl pf_116⟩, List.forall_mem_cons.mpr ⟨⟨d_93_49, pf_118⟩, List.forall_mem_cons.mpr ⟨d_93_52, List.forall_mem_cons.mpr ⟨d_93_53, fun _ h => absurd h List.not_mem_nil⟩⟩⟩⟩⟩⟩⟩⟩⟩⟩⟩⟩⟩⟩⟩⟩⟩⟩⟩⟩⟩⟩⟩⟩⟩⟩⟩
theorem d_94_0 : decode prog_6_method_12_code 0 = .ok (.aload_n 0, 1) := by decide +kernel
theorem d_94_1 : decode prog_6_method_12_code 1 = .ok (.getfield 12, 3) := by decide +kernel
theorem d_94_4 : decode prog_6_method_12_code 4 = .ok (.bipush 12, 2) := by decide +kernel
theorem d_94_6 : decode prog_6_method_12_code 6 = .ok (.invokevirtual 49, 3) := by decide +kernel
theorem d_94_9 : decode prog_6_method_12_code 9 = .ok (.ifCond .ne 5, 3) := by decide +kernel
theorem d_94_12 : decode prog_6_method_12_code 12 = .ok (.iconst 1, 1) := by decide +kernel
theorem d_94_13 : decode prog_6_method_12_code 13 = .ok (.ireturn, 1) := by decide +kernel
theorem d_94_14 : decode prog_6_method_12_code 14 = .ok (.aload_n 0, 1) := by decide +kernel
theorem d_94_15 : decode prog_6_method_12_code 15 = .ok (.getfield 22, 3) := by decide +kernel
theorem d_94_18 : decode prog_6_method_12_code 18 = .ok (.aload_n 0, 1) := by decide +kernel
theorem d_94_19 : decode prog_6_method_12_code 19 = .ok (.getfield 26, 3) := by decide +kernel
theorem d_94_22 : decode prog_6_method_12_code 22 = .ok (.getfield 99, 3) := by decide +kernel
theorem d_94_25 : decode prog_6_method_12_code 25 = .ok (.putfield 115, 3) := by decide +kernel
theorem d_94_28 : decode prog_6_method_12_code 28 = .ok (.aload_n 0, 1) := by decide +kernel
theorem d_94_29 : decode prog_6_method_12_code 29 = .ok (.iconst 0, 1) := by decide +kernel
theorem d_94_30 : decode prog_6_method_12_code 30 = .ok (.invokevirtual 96, 3) := by decide +kernel
theorem d_94_33 : decode prog_6_method_12_code 33 = .ok (.ifCond .ne 5, 3) := by decide +kernel
theorem d_94_36 : decode prog_6_method_12_code 36 = .ok (.iconst 0, 1) := by decide +kernel
theorem d_94_37 : decode prog_6_method_12_code 37 = .ok (.ireturn, 1) := by decide +kernel
theorem d_94_38 : decode prog_6_method_12_code 38 = .ok (.aload_n 0, 1) := by decide +kernel
theorem d_94_39 : decode prog_6_method_12_code 39 = .ok (.getfield 22, 3) := by decide +kernel
theorem d_94_42 : decode prog_6_method_12_code 42 = .ok (.aload_n 0, 1) := by decide +kernel
theorem d_94_43 : decode prog_6_method_12_code 43 = .ok (.getfield 26, 3) := by decide +kernel
theorem d_94_46 : decode prog_6_method_12_code 46 = .ok (.getfield 99, 3) := by decide +kernel
theorem d_94_49 : decode prog_6_method_12_code 49 = .ok (.putfield 118, 3) := by decide +kernel
theorem d_94_52 : decode prog_6_method_12_code 52 = .ok (.aload_n 0, 1) := by decide +kernel
theorem d_94_53 : decode prog_6_method_12_code 53 = .ok (.getfield 22, 3) := by decide +kernel
theorem d_94_56 : decode prog_6_method_12_code 56 = .ok (.aload_n 0, 1) := by decide +kernel
theorem d_94_57 : decode prog_6_method_12_code 57 = .ok (.getfield 12, 3) := by decide +kernel
theorem d_94_60 : decode prog_6_method_12_code 60 = .ok (.bipush 13, 2) := by decide +kernel
theorem d_94_62 : decode prog_6_method_12_code 62 = .ok (.invokevirtual 49, 3) := by decide +kernel
theorem d_94_65 : decode prog_6_method_12_code 65 = .ok (.putfield 121, 3) := by decide +kernel
theorem d_94_68 : decode prog_6_method_12_code 68 = .ok (.iconst 1, 1) := by decide +kernel
theorem d_94_69 : decode prog_6_method_12_code 69 = .ok (.ireturn, 1) := by decide +kernel
set_option maxRecDepth 20000 in
theorem ok_94 : ∀ r ∈ tb_94, sm_ok 94 r := List.forall_mem_cons.mpr ⟨d_94_0, List.forall_mem_cons.mpr ⟨⟨d_94_1, Or.inl pf_109⟩, List.forall_mem_cons.mpr ⟨d_94_4, List.forall_mem_cons.mpr ⟨⟨d_94_6, ⟨mo_71, mi_71, se_71, pm_103⟩⟩, List.forall_mem_cons.mpr ⟨⟨d_94_9, (by decide)⟩, List.forall_mem_cons.mpr ⟨d_94_12, List.forall_mem_cons.mpr ⟨d_94_13, List.forall_mem_cons.mpr ⟨d_94_14, List.forall_mem_cons.mpr ⟨⟨d_94_15, Or.inl pf_107⟩, List.forall_mem_cons.mpr ⟨d_94_18, List.forall_mem_cons.mpr ⟨⟨d_94_19, Or.inl pf_108⟩, List.forall_mem_cons.mpr ⟨⟨d_94_22, Or.inl pf_116⟩, List.forall_mem_cons.mpr ⟨⟨d_94_25, pf_119⟩, List.forall_mem_cons.mpr ⟨d_94_28, List.forall_mem_cons.mpr ⟨d_94_29, List.forall_mem_cons.mpr ⟨⟨d_94_30, ⟨mo_96, mi_96, se_96, pm_114⟩⟩, List.forall_mem_cons.mpr ⟨⟨d_94_33, (by decide)⟩, List.forall_mem_cons.mpr ⟨d_94_36, List.forall_mem_cons.mpr ⟨d_94_37, List.forall_mem_cons.mpr ⟨d_94_38, List.forall_mem_cons.mpr ⟨⟨d_94_39, Or.inl pf_107⟩, List.forall_mem_cons.mpr ⟨d_94_42, List.forall_mem_cons.mpr ⟨⟨d_94_43, Or.inl pf_108⟩, List.forall_mem_cons.mpr ⟨⟨d_94_46, Or.inl pf_116⟩, List.forall_mem_cons.mpr ⟨⟨d_94_49, pf_120⟩, List.forall_mem_cons.mpr ⟨d_94_52, List.forall_mem_cons.mpr ⟨⟨d_94_53, Or.inl pf_107⟩, List.forall_mem_cons.mpr ⟨d_94_56, List.forall_mem_cons.mpr ⟨⟨d_94_57, Or.inl pf_109⟩, List.forall_mem_cons.mpr ⟨d_94_60, List.forall_mem_cons.mpr ⟨⟨d_94_62, ⟨mo_71, mi_71, se_71, pm_103⟩⟩, List.forall_mem_cons.mpr ⟨⟨d_94_65, pf_121⟩, List.forall_mem_cons.mpr ⟨d_94_68, List.forall_mem_cons.mpr ⟨d_94_69, fun _ h => absurd h List.not_mem_nil⟩⟩⟩⟩⟩⟩⟩⟩⟩⟩⟩⟩⟩⟩⟩⟩⟩⟩⟩⟩⟩⟩⟩⟩⟩⟩⟩⟩⟩⟩⟩⟩⟩⟩
theorem d_95_0 : decode prog_6_method_13_code 0 = .ok (.aload_n 0, 1) := by decide +kernel
theorem d_95_1 : decode prog_6_method_13_code 1 = .ok (.getfield 12, 3) := by decide +kernel
theorem d_95_4 : decode prog_6_method_13_code 4 = .ok (.bipush 14, 2) := by decide +kernel
theorem d_95_6 : decode prog_6_method_13_code 6 = .ok (.invokevirtual 49, 3) := by decide +kernel
theorem d_95_9 : decode prog_6_method_13_code 9 = .ok (.ifCond .ne 5, 3) := by decide +kernel
theorem d_95_12 : decode prog_6_method_13_code 12 = .ok (.iconst 1, 1) := by decide +kernel
theorem d_95_13 : decode prog_6_method_13_code 13 = .ok (.ireturn, 1) := by decide +kernel
theorem d_95_14 : decode prog_6_method_13_code 14 = .ok (.aload_n 0, 1) := by decide +kernel
theorem d_95_15 : decode prog_6_method_13_code 15 = .ok (.getfield 12, 3) := by decide +kernel
theorem d_95_18 : decode prog_6_method_13_code 18 = .ok (.iconst 2, 1) := by decide +kernel
theorem d_95_19 : decode prog_6_method_13_code 19 = .ok (.invokevirtual 49, 3) := by decide +kernel
theorem d_95_22 : decode prog_6_method_13_code 22 = .ok (.ifCond .ne 5, 3) := by decide +kernel
theorem d_95_25 : decode prog_6_method_13_code 25 = .ok (.iconst 0, 1) := by decide +kernel
theorem d_95_26 : decode prog_6_method_13_code 26 = .ok (.ireturn, 1) := by decide +kernel
theorem d_95_27 : decode prog_6_method_13_code 27 = .ok (.aload_n 0, 1) := by decide +kernel
theorem d_95_28 : decode prog_6_method_13_code 28 = .ok (.getfield 22, 3) := by decide +kernel
theorem d_95_31 : decode prog_6_method_13_code 31 = .ok (.aload_n 0, 1) := by decide +kernel
theorem d_95_32 : decode prog_6_method_13_code 32 = .ok (.getfield 12, 3) := by decide +kernel
theorem d_95_35 : decode prog_6_method_13_code 35 = .ok (.invokevirtual 83, 3) := by decide +kernel
theorem d_95_38 : decode prog_6_method_13_code 38 = .ok (.putfield 125, 3) := by decide +kernel
theorem d_95_41 : decode prog_6_method_13_code 41 = .ok (.iconst 1, 1) := by decide +kernel
theorem d_95_42 : decode prog_6_method_13_code 42 = .ok (.ireturn, 1) := by decide +kernel
set_option maxRecDepth 20000 in
theorem ok_95 : ∀ r ∈ tb_95, sm_ok 95 r := List.forall_mem_cons.mpr ⟨d_95_0, List.forall_mem_cons.mpr ⟨⟨d_95_1, Or.inl pf_109⟩, List.forall_mem_cons.mpr ⟨d_95_4, List.forall_mem_cons.mpr ⟨⟨d_95_6, ⟨mo_71, mi_71, se_71, pm_103⟩⟩, List.forall_mem_cons.mpr ⟨⟨d_95_9, (by decide)⟩, List.forall_mem_cons.mpr ⟨d_95_12, List.forall_mem_cons.mpr ⟨d_95_13, List.forall_mem_cons.mpr ⟨d_95_14, List.forall_mem_cons.mpr ⟨⟨d_95_15, Or.inl pf_109⟩, List.forall_mem_cons.mpr ⟨d_95_18, List.forall_mem_cons.mpr ⟨⟨d_95_19, ⟨mo_71, mi_71, se_71, pm_103⟩⟩, List.forall_mem_cons.mpr ⟨⟨d_95_22, (by decide)⟩, List.forall_mem_cons.mpr ⟨d_95_25, List.forall_mem_cons.mpr ⟨d_95_26, List.forall_mem_cons.mpr ⟨d_95_27, List.forall_mem_cons.mpr ⟨⟨d_95_28, Or.inl pf_107⟩, List.forall_mem_cons.mpr ⟨d_95_31, List.forall_mem_cons.mpr ⟨⟨d_95_32, Or.inl pf_109⟩, List.forall_mem_cons.mpr ⟨⟨d_95_35, ⟨mo_72, mi_72, se_72, pm_113⟩⟩, List.forall_mem_cons.mpr ⟨⟨d_95_38, pf_122⟩, List.forall_mem_cons.mpr ⟨d_95_41, List.forall_mem_cons.mpr ⟨d_95_42, fun _ h => absurd h List.not_mem_nil⟩⟩⟩⟩⟩⟩⟩⟩⟩⟩⟩⟩⟩⟩⟩⟩⟩⟩⟩⟩⟩⟩
theorem d_96_0 : decode prog_6_method_14_code 0 = .ok (.aload_n 0, 1) := by decide +kernel
theorem d_96_1 : decode prog_6_method_14_code 1 = .ok (.iload_n 1, 1) := by decide +kernel
theorem d_96_2 : decode prog_6_method_14_code 2 = .ok (.invokevirtual 127, 3) := by decide +kernel
theorem d_96_5 : decode prog_6_method_14_code 5 = .ok (.ifCond .ne 5, 3) := by decide +kernel
theorem d_96_8 : decode prog_6_method_14_code 8 = .ok (.iconst 0, 1) := by decide +kernel
theorem d_96_9 : decode prog_6_method_14_code 9 = .ok (.ireturn, 1) := by decide +kernel
theorem d_96_10 : decode prog_6_method_14_code 10 = .ok (.aload_n 0, 1) := by decide +kernel
theorem d_96_11 : decode prog_6_method_14_code 11 = .ok (.getfield 12, 3) := by decide +kernel
theorem d_96_14 : decode prog_6_method_14_code 14 = .ok (.invokevirtual 42, 3) := by decide +kernel
theorem d_96_17 : decode prog_6_method_14_code 17 = .ok (.istore_n 2, 1) := by decide +kernel
theorem d_96_18 : decode prog_6_method_14_code 18 = .ok (.iconst 0, 1) := by decide +kernel
theorem d_96_19 : decode prog_6_method_14_code 19 = .ok (.istore_n 3, 1) := by decide +kernel
theorem d_96_20 : decode prog_6_method_14_code 20 = .ok (.iload_n 3, 1) := by decide +kernel
theorem d_96_21 : decode prog_6_method_14_code 21 = .ok (.bipush 80, 2) := by decide +kernel
theorem d_96_23 : decode prog_6_method_14_code 23 = .ok (.if_icmp .ge 56, 3) := by decide +kernel
theorem d_96_26 : decode prog_6_method_14_code 26 = .ok (.iload_n 2, 1) := by decide +kernel
theorem d_96_27 : decode prog_6_method_14_code 27 = .ok (.bipush 43, 2) := by decide +kernel
theorem d_96_29 : decode prog_6_method_14_code 29 = .ok (.if_icmp .eq 9, 3) := by decide +kernel
theorem d_96_32 : decode prog_6_method_14_code 32 = .ok (.iload_n 2, 1) := by decide +kernel
theorem d_96_33 : decode prog_6_method_14_code 33 = .ok (.bipush 45, 2) := by decide +kernel
theorem d_96_35 : decode prog_6_method_14_code 35 = .ok (.if_icmp .ne 44, 3) := by decide +kernel
theorem d_96_38 : decode prog_6_method_14_code 38 = .ok (.aload_n 0, 1) := by decide +kernel
theorem d_96_39 : decode prog_6_method_14_code 39 = .ok (.getfield 12, 3) := by decide +kernel
theorem d_96_42 : decode prog_6_method_14_code 42 = .ok (.iload_n 2, 1) := by decide +kernel
theorem d_96_43 : decode prog_6_method_14_code 43 = .ok (.invokevirtual 49, 3) := by decide +kernel
theorem d_96_46 : decode prog_6_method_14_code 46 = .ok (.pop, 1) := by decide +kernel
theorem d_96_47 : decode prog_6_method_14_code 47 = .ok (.aload_n 0, 1) := by decide +kernel
theorem d_96_48 : decode prog_6_method_14_code 48 = .ok (.iload_n 1, 1) := by decide +kernel
theorem d_96_49 : decode prog_6_method_14_code 49 = .ok (.invokevirtual 127, 3) := by decide +kernel
theorem d_96_52 : decode prog_6_method_14_code 52 = .ok (.ifCond .ne 5, 3) := by decide +kernel
theorem d_96_55 : decode prog_6_method_14_code 55 = .ok (.iconst 0, 1) := by decide +kernel
theorem d_96_56 : decode prog_6_method_14_code 56 = .ok (.ireturn, 1) := by decide +kernel
theorem d_96_57 : decode prog_6_method_14_code 57 = .ok (.aload_n 0, 1) := by decide +kernel
theorem d_96_58 : decode prog_6_method_14_code 58 = .ok (.getfield 26, 3) := by decide +kernel
theorem d_96_61 : decode prog_6_method_14_code 61 = .ok (.iload_n 2, 1) := by decide +kernel
theorem d_96_62 : decode prog_6_method_14_code 62 = .ok (.invokevirtual 130, 3) := by decide +kernel
theorem d_96_65 : decode prog_6_method_14_code 65 = .ok (.aload_n 0, 1) := by decide +kernel
theorem d_96_66 : decode prog_6_method_14_code 66 = .ok (.getfield 12, 3) := by decide +kernel
theorem d_96_69 : decode prog_6_method_14_code 69 = .ok (.invokevirtual 42, 3) := by decide +kernel
theorem d_96_72 : decode prog_6_method_14_code 72 = .ok (.istore_n 2, 1) := by decide +kernel
theorem d_96_73 : decode prog_6_method_14_code 73 = .ok (.iinc 3 1, 3) := by decide +kernel
theorem d_96_76 : decode prog_6_method_14_code 76 = .ok (.goto (-56), 3) := by decide +kernel
theorem d_96_79 : decode prog_6_method_14_code 79 = .ok (.iconst 1, 1) := by decide +kernel
theorem d_96_80 : decode prog_6_method_14_code 80 = .ok (.ireturn, 1) := by decide +kernel
set_option maxRecDepth 20000 in
theorem ok_96 : ∀ r ∈ tb_96, sm_ok 96 r := List.forall_mem_cons.mpr ⟨d_96_0, List.forall_mem_cons.mpr ⟨d_96_1, List.forall_mem_cons.mpr ⟨⟨d_96_2, ⟨mo_97, mi_97, se_97, pm_117⟩⟩, List.forall_mem_cons.mpr ⟨⟨d_96_5, (by decide)⟩, List.forall_mem_cons.mpr ⟨d_96_8, List.forall_mem_cons.mpr ⟨d_96_9, List.forall_mem_cons.mpr ⟨d_96_10, List.forall_mem_cons.mpr ⟨⟨d_96_11, Or.inl pf_109⟩, List.forall_mem_cons.mpr ⟨⟨d_96_14, ⟨mo_70, mi_70, se_70, pm_102⟩⟩, List.forall_mem_cons.mpr ⟨d_96_17, List.forall_mem_cons.mpr ⟨d_96_18, List.forall_mem_cons.mpr ⟨d_96_19, List.forall_mem_cons.mpr ⟨d_96_20, List.forall_mem_cons.mpr ⟨d_96_21, List.forall_mem_cons.mpr ⟨⟨d_96_23, (by decide)⟩, List.forall_mem_cons.mpr ⟨d_96_26, List.forall_mem_cons.mpr ⟨d_96_27, List.forall_mem_cons.mpr ⟨⟨d_96_29, (by decide)⟩, List.forall_mem_cons.mpr ⟨d_96_32, List.forall_mem_cons.mpr ⟨d_96_33, List.forall_mem_cons.mpr ⟨⟨d_96_35, (by decide)⟩, List.forall_mem_cons.mpr ⟨d_96_38, List.forall_mem_cons.mpr ⟨⟨d_96_39, Or.inl pf_109⟩, List.forall_mem_cons.mpr ⟨d_96_42, List.forall_mem_cons.mpr ⟨⟨d_96_43, ⟨mo_71, mi_71, se_71, pm_103⟩⟩, List.forall_mem_cons.mpr ⟨d_96_46, List.forall_mem_cons.mpr ⟨d_96_47, List.forall_mem_cons.mpr ⟨d_96_48, List.forall_mem_cons.mpr ⟨⟨d_96_49, ⟨mo_97, mi_97, se_97, pm_117⟩⟩, List.forall_mem_cons.mpr ⟨⟨d_96_52, (by decide)⟩, List.forall_mem_cons.mpr ⟨d_96_55, List.forall_mem_cons.mpr ⟨d_96_56, List.forall_mem_cons.mpr ⟨d_96_57, List.forall_mem_cons.mpr ⟨⟨d_96_58, Or.inl pf_108⟩, List.forall_mem_cons.mpr ⟨d_96_61, List.forall_mem_cons.mpr ⟨⟨d_96_62, ⟨mo_46, mi_46, se_46, pm_118⟩⟩, List.forall_mem_cons.mpr ⟨d_96_65, List.forall_mem_cons.mpr ⟨⟨d_96_66, Or.inl pf_109⟩, List.forall_mem_cons.mpr ⟨⟨d_96_69, ⟨mo_70, mi_70, se_70, pm_102⟩⟩, List.forall_mem_cons.mpr ⟨d_96_72, List.forall_mem_cons.mpr ⟨d_96_73, List.forall_mem_cons.mpr ⟨⟨d_96_76, (by decide)⟩, List.forall_mem_cons.mpr ⟨d_96_79, List.forall_mem_cons.mpr ⟨d_96_80, fun _ h => absurd h List.not_mem_nil⟩⟩⟩⟩⟩⟩⟩⟩⟩⟩⟩⟩⟩⟩⟩⟩⟩⟩⟩⟩⟩⟩⟩⟩⟩⟩⟩⟩⟩⟩⟩⟩⟩⟩⟩⟩⟩⟩⟩⟩⟩⟩⟩⟩
theorem d_97_0 : decode prog_6_method_15_code 0 = .ok (.aload_n 0, 1) := by decide +kernel
theorem d_97_1 : decode prog_6_method_15_code 1 = .ok (.iload_n 1, 1) := by decide +kernel
theorem d_97_2 : decode prog_6_method_15_code 2 = .ok (.invokevirtual 133, 3) := by decide +kernel
theorem d_97_5 : decode prog_6_method_15_code 5 = .ok (.ifCond .ne 5, 3) := by decide +kernel
theorem d_97_8 : decode prog_6_method_15_code 8 = .ok (.iconst 0, 1) := by decide +kernel
theorem d_97_9 : decode prog_6_method_15_code 9 = .ok (.ireturn, 1) := by decide +kernel
theorem d_97_10 : decode prog_6_method_15_code 10 = .ok (.aload_n 0, 1) := by decide +kernel
theorem d_97_11 : decode prog_6_method_15_code 11 = .ok (.getfield 12, 3) := by decide +kernel
theorem d_97_14 : decode prog_6_method_15_code 14 = .ok (.invokevirtual 42, 3) := by decide +kernel
theorem d_97_17 : decode prog_6_method_15_code 17 = .ok (.istore_n 2, 1) := by decide +kernel
theorem d_97_18 : decode prog_6_method_15_code 18 = .ok (.iconst 0, 1) := by decide +kernel
theorem d_97_19 : decode prog_6_method_15_code 19 = .ok (.istore_n 3, 1) := by decide +kernel
theorem d_97_20 : decode prog_6_method_15_code 20 = .ok (.iload_n 3, 1) := by decide +kernel
theorem d_97_21 : decode prog_6_method_15_code 21 = .ok (.bipush 80, 2) := by decide +kernel
theorem d_97_23 : decode prog_6_method_15_code 23 = .ok (.if_icmp .ge 56, 3) := by decide +kernel
theorem d_97_26 : decode prog_6_method_15_code 26 = .ok (.iload_n 2, 1) := by decide +kernel
theorem d_97_27 : decode prog_6_method_15_code 27 = .ok (.bipush 42, 2) := by decide +kernel
theorem d_97_29 : decode prog_6_method_15_code 29 = .ok (.if_icmp .eq 9, 3) := by decide +kernel
theorem d_97_32 : decode prog_6_method_15_code 32 = .ok (.iload_n 2, 1) := by decide +kernel
theorem d_97_33 : decode prog_6_method_15_code 33 = .ok (.bipush 47, 2) := by decide +kernel
theorem d_97_35 : decode prog_6_method_15_code 35 = .ok (.if_icmp .ne 44, 3) := by decide +kernel
theorem d_97_38 : decode prog_6_method_15_code 38 = .ok (.aload_n 0, 1) := by decide +kernel
theorem d_97_39 : decode prog_6_method_15_code 39 = .ok (.getfield 12, 3) := by decide +kernel
theorem d_97_42 : decode prog_6_method_15_code 42 = .ok (.iload_n 2, 1) := by decide +kernel
theorem d_97_43 : decode prog_6_method_15_code 43 = .ok (.invokevirtual 49, 3) := by decide +kernel
theorem d_97_46 : decode prog_6_method_15_code 46 = .ok (.pop, 1) := by decide +kernel
theorem d_97_47 : decode prog_6_method_15_code 47 = .ok (.aload_n 0, 1) := by decide +kernel
theorem d_97_48 : decode prog_6_method_15_code 48 = .ok (.iload_n 1, 1) := by decide +kernel
theorem d_97_49 : decode prog_6_method_15_code 49 = .ok (.invokevirtual 133, 3) := by decide +kernel
theorem d_97_52 : decode prog_6_method_15_code 52 = .ok (.ifCond .ne 5, 3) := by decide +kernel
theorem d_97_55 : decode prog_6_method_15_code 55 = .ok (.iconst 0, 1) := by decide +kernel
theorem d_97_56 : decode prog_6_method_15_code 56 = .ok (.ireturn, 1) := by decide +kernel
theorem d_97_57 : decode prog_6_method_15_code 57 = .ok (.aload_n 0, 1) := by decide +kernel
theorem d_97_58 : decode prog_6_method_15_code 58 = .ok (.getfield 26, 3) := by decide +kernel
theorem d_97_61 : decode prog_6_method_15_code 61 = .ok (.iload_n 2, 1) := by decide +kernel
theorem d_97_62 : decode prog_6_method_15_code 62 = .ok (.invokevirtual 130, 3) := by decide +kernel
theorem d_97_65 : decode prog_6_method_15_code 65 = .ok (.aload_n 0, 1) := by decide +kernel
theorem d_97_66 : decode prog_6_method_15_code 66 = .ok (.getfield 12, 3) := by decide +kernel
theorem d_97_69 : decode prog_6_method_15_code 69 = .ok (.invokevirtual 42, 3) := by decide +kernel
theorem d_97_72 : decode prog_6_method_15_code 72 = .ok (.istore_n 2, 1) := by decide +kernel
theorem d_97_73 : decode prog_6_method_15_code 73 = .ok (.iinc 3 1, 3) := by decide +kernel
theorem d_97_76 : decode prog_6_method_15_code 76 = .ok (.goto (-56), 3) := by decide +kernel
theorem d_97_79 : decode prog_6_method_15_code 79 = .ok (.iconst 1, 1) := by decide +kernel
theorem d_97_80 : decode prog_6_method_15_code 80 = .ok (.ireturn, 1) := by decide +kernel
set_option maxRecDepth 20000 in
theorem ok_97 : ∀ r ∈ tb_97, sm_ok 97 r := List.forall_mem_cons.mpr ⟨d_97_0, List.forall_mem_cons.mpr ⟨d_97_1, List.forall_mem_cons.mpr ⟨⟨d_97_2, ⟨mo_98, mi_98, se_98, pm_119⟩⟩, List.forall_mem_cons.mpr ⟨⟨d_97_5, (by decide)⟩, List.forall_mem_cons.mpr ⟨d_97_8, List.forall_mem_cons.mpr ⟨d_97_9, List.forall_mem_cons.mpr ⟨d_97_10, List.forall_mem_cons.mpr ⟨⟨d_97_11, Or.inl pf_109⟩, List.forall_mem_cons.mpr ⟨⟨d_97_14, ⟨mo_70, mi_70, se_70, pm_102⟩⟩, List.forall_mem_cons.mpr ⟨d_97_17, List.forall_mem_cons.mpr ⟨d_97_18, List.forall_mem_cons.mpr ⟨d_97_19, List.forall_mem_cons.mpr ⟨d_97_20, List.forall_mem_cons.mpr ⟨d_97_21, List.forall_mem_cons.mpr ⟨⟨d_97_23, (by decide)⟩, List.forall_mem_cons.mpr ⟨d_97_26, List.forall_mem_cons.mpr ⟨d_97_27, List.forall_mem_cons.mpr ⟨⟨d_97_29, (by decide)⟩, List.forall_mem_cons.mpr ⟨d_97_32, List.forall_mem_cons.mpr ⟨d_97_33, List.forall_mem_cons.mpr ⟨⟨d_97_35, (by decide)⟩, List.forall_mem_cons.mpr ⟨d_97_38, List.forall_mem_cons.mpr ⟨⟨d_97_39, Or.inl pf_109⟩, List.forall_mem_cons.mpr ⟨d_97_42, List.forall_mem_cons.mpr ⟨⟨d_97_43, ⟨mo_71, mi_71, se_71, pm_103⟩⟩, List.forall_mem_cons.mpr ⟨d_97_46, List.forall_mem_cons.mpr ⟨d_97_47, List.forall_mem_cons.mpr ⟨d_97_48, List.forall_mem_cons.mpr ⟨⟨d_97_49, ⟨mo_98, mi_98, se_98, pm_119⟩⟩, List.forall_mem_cons.mpr ⟨⟨d_97_52, (by decide)⟩, List.forall_mem_cons.mpr ⟨d_97_55, List.forall_mem_cons.mpr ⟨d_97_56, List.forall_mem_cons.mpr ⟨d_97_57, List.forall_mem_cons.mpr ⟨⟨d_97_58, Or.inl pf_108⟩, List.forall_mem_cons.mpr ⟨d_97_61, List.forall_mem_cons.mpr ⟨⟨d_97_62, ⟨mo_46, mi_46, se_46, pm_118⟩⟩, List.forall_mem_cons.mpr ⟨d_97_65, List.forall_mem_cons.mpr ⟨⟨d_97_66, Or.inl pf_109⟩, List.forall_mem_cons.mpr ⟨⟨d_97_69, ⟨mo_70, mi_70, se_70, pm_102⟩⟩, List.forall_mem_cons.mpr ⟨d_97_72, List.forall_mem_cons.mpr ⟨d_97_73, List.forall_mem_cons.mpr ⟨⟨d_97_76, (by decide)⟩, List.forall_mem_cons.mpr ⟨d_97_79, List.forall_mem_cons.mpr ⟨d_97_80, fun _ h => absurd h List.not_mem_nil⟩⟩⟩⟩⟩⟩⟩⟩⟩⟩⟩⟩⟩⟩⟩⟩⟩⟩⟩⟩⟩⟩⟩⟩⟩⟩⟩⟩⟩⟩⟩⟩⟩⟩⟩⟩⟩⟩⟩⟩⟩⟩⟩⟩
theorem d_98_0 : decode prog_6_method_16_code 0 = .ok (.aload_n 0, 1) := by decide +kernel
theorem d_98_1 : decode prog_6_method_16_code 1 = .ok (.getfield 12, 3) := by decide +kernel
theorem d_98_4 : decode prog_6_method_16_code 4 = .ok (.bipush 40, 2) := by decide +kernel
theorem d_98_6 : decode prog_6_method_16_code 6 = .ok (.invokevirtual 49, 3) := by decide +kernel
theorem d_98_9 : decode prog_6_method_16_code 9 = .ok (.ifCond .eq 37, 3) := by decide +kernel
theorem d_98_12 : decode prog_6_method_16_code 12 = .ok (.iload_n 1, 1) := by decide +kernel
theorem d_98_13 : decode prog_6_method_16_code 13 = .ok (.bipush 7, 2) := by decide +kernel
theorem d_98_15 : decode prog_6_method_16_code 15 = .ok (.if_icmp .gt 29, 3) := by decide +kernel
theorem d_98_18 : decode prog_6_method_16_code 18 = .ok (.aload_n 0, 1) := by decide +kernel
theorem d_98_19 : decode prog_6_method_16_code 19 = .ok (.iload_n 1, 1) := by decide +kernel
theorem d_98_20 : decode prog_6_method_16_code 20 = .ok (.iconst 1, 1) := by decide +kernel
theorem d_98_21 : decode prog_6_method_16_code 21 = .ok (.iadd, 1) := by decide +kernel
theorem d_98_22 : decode prog_6_method_16_code 22 = .ok (.invokevirtual 96, 3) := by decide +kernel
theorem d_98_25 : decode prog_6_method_16_code 25 = .ok (.ifCond .eq 19, 3) := by decide +kernel
theorem d_98_28 : decode prog_6_method_16_code 28 = .ok (.aload_n 0, 1) := by decide +kernel
theorem d_98_29 : decode prog_6_method_16_code 29 = .ok (.getfield 12, 3) := by decide +kernel
theorem d_98_32 : decode prog_6_method_16_code 32 = .ok (.bipush 41, 2) := by decide +kernel
theorem d_98_34 : decode prog_6_method_16_code 34 = .ok (.invokevirtual 49, 3) := by decide +kernel
theorem d_98_37 : decode prog_6_method_16_code 37 = .ok (.ifCond .eq 7, 3) := by decide +kernel
theorem d_98_40 : decode prog_6_method_16_code 40 = .ok (.iconst 1, 1) := by decide +kernel
theorem d_98_41 : decode prog_6_method_16_code 41 = .ok (.goto 4, 3) := by decide +kernel
theorem d_98_44 : decode prog_6_method_16_code 44 = .ok (.iconst 0, 1) := by decide +kernel
theorem d_98_45 : decode prog_6_method_16_code 45 = .ok (.ireturn, 1) := by decide +kernel
theorem d_98_46 : decode prog_6_method_16_code 46 = .ok (.aload_n 0, 1) := by decide +kernel
theorem d_98_47 : decode prog_6_method_16_code 47 = .ok (.getfield 12, 3) := by decide +kernel
theorem d_98_50 : decode prog_6_method_16_code 50 = .ok (.bipush 45, 2) := by decide +kernel
theorem d_98_52 : decode prog_6_method_16_code 52 = .ok (.invokevirtual 49, 3) := by decide +kernel
theorem d_98_55 : decode prog_6_method_16_code 55 = .ok (.ifCond .eq 32, 3) := by decide +kernel
theorem d_98_58 : decode prog_6_method_16_code 58 = .ok (.iload_n 1, 1) := by decide +kernel
theorem d_98_59 : decode prog_6_method_16_code 59 = .ok (.bipush 7, 2) := by decide +kernel
theorem d_98_61 : decode prog_6_method_16_code 61 = .ok (.if_icmp .gt 13, 3) := by decide +kernel
theorem d_98_64 : decode prog_6_method_16_code 64 = .ok (.aload_n 0, 1) := by decide +kernel
theorem d_98_65 : decode prog_6_method_16_code 65 = .ok (.iload_n 1, 1) := by decide +kernel
theorem d_98_66 : decode prog_6_method_16_code 66 = .ok (.iconst 1, 1) := by decide +kernel
theorem d_98_67 : decode prog_6_method_16_code 67 = .ok (.iadd, 1) := by decide +kernel
theorem d_98_68 : decode prog_6_method_16_code 68 = .ok (.invokevirtual 133, 3) := by decide +kernel
theorem d_98_71 : decode prog_6_method_16_code 71 = .ok (.ifCond .ne 5, 3) := by decide +kernel
theorem d_98_74 : decode prog_6_method_16_code 74 = .ok (.iconst 0, 1) := by decide +kernel
theorem d_98_75 : decode prog_6_method_16_code 75 = .ok (.ireturn, 1) := by decide +kernel
theorem d_98_76 : decode prog_6_method_16_code 76 = .ok (.aload_n 0, 1) := by decide +kernel
theorem d_98_77 : decode prog_6_method_16_code 77 = .ok (.getfield 26, 3) := by decide +kernel
theorem d_98_80 : decode prog_6_method_16_code 80 = .ok (.bipush 30, 2) := by decide +kernel
theorem d_98_82 : decode prog_6_method_16_code 82 = .ok (.invokevirtual 130, 3) := by decide +kernel
theorem d_98_85 : decode prog_6_method_16_code 85 = .ok (.iconst 1, 1) := by decide +kernel
theorem d_98_86 : decode prog_6_method_16_code 86 = .ok (.ireturn, 1) := by decide +kernel
theorem d_98_87 : decode prog_6_method_16_code 87 = .ok (.aload_n 0, 1) := by decide +kernel
theorem d_98_88 : decode prog_6_method_16_code 88 = .ok (.getfield 12, 3) := by decide +kernel
theorem d_98_91 : decode prog_6_method_16_code 91 = .ok (.iconst 2, 1) := by decide +kernel
theorem d_98_92 : decode prog_6_method_16_code 92 = .ok (.invokevirtual 49, 3) := by decide +kernel
theorem d_98_95 : decode prog_6_method_16_code 95 = .ok (.ifCond .eq 21, 3) := by decide +kernel
theorem d_98_98 : decode prog_6_method_16_code 98 = .ok (.aload_n 0, 1) := by decide +kernel
theorem d_98_99 : decode prog_6_method_16_code 99 = .ok (.getfield 26, 3) := by decide +kernel
theorem d_98_102 : decode prog_6_method_16_code 102 = .ok (.iconst 2, 1) := by decide +kernel
theorem d_98_103 : decode prog_6_method_16_code 103 = .ok (.aload_n 0, 1) := by decide +kernel
theorem d_98_104 : decode prog_6_method_16_code 104 = .ok (.getfield 12, 3) := by decide +kernel
theorem d_98_107 : decode prog_6_method_16_code 107 = .ok (.invokevirtual 83, 3) := by decide +kernel
theorem d_98_110 : decode prog_6_method_16_code 110 = .ok (.iconst (-1), 1) := by decide +kernel
theorem d_98_111 : decode prog_6_method_16_code 111 = .ok (.invokevirtual 136, 3) := by decide +kernel
theorem d_98_114 : decode prog_6_method_16_code 114 = .ok (.iconst 1, 1) := by decide +kernel
theorem d_98_115 : decode prog_6_method_16_code 115 = .ok (.ireturn, 1) := by decide +kernel
theorem d_98_116 : decode prog_6_method_16_code 116 = .ok (.aload_n 0, 1) := by decide +kernel
theorem d_98_117 : decode prog_6_method_16_code 117 = .ok (.getfield 12, 3) := by decide +kernel
theorem d_98_120 : decode prog_6_method_16_code 120 = .ok (.bipush 15, 2) := by decide +kernel
theorem d_98_122 : decode prog_6_method_16_code 122 = .ok (.invokevirtual 49, 3) := by decide +kernel
theorem d_98_125 : decode prog_6_method_16_code 125 = .ok (.ifCond .eq 16, 3) := by decide +kernel
theorem d_98_128 : decode prog_6_method_16_code 128 = .ok (.aload_n 0, 1) := by decide +kernel
theorem d_98_129 : decode prog_6_method_16_code 129 = .ok (.getfield 26, 3) := by decide +kernel
theorem d_98_132 : decode prog_6_method_16_code 132 = .ok (.bipush 15, 2) := by decide +kernel
theorem d_98_134 : decode prog_6_method_16_code 134 = .ok (.iconst 0, 1) := by decide +kernel
theorem d_98_135 : decode prog_6_method_16_code 135 = .ok (.iconst (-1), 1) := by decide +kernel
theorem d_98_136 : decode prog_6_method_16_code 136 = .ok (.invokevirtual 136, 3) := by decide +kernel
theorem d_98_139 : decode prog_6_method_16_code 139 = .ok (.iconst 1, 1) := by decide +kernel
theorem d_98_140 : decode prog_6_method_16_code 140 = .ok (.ireturn, 1) := by decide +kernel
theorem d_98_141 : decode prog_6_method_16_code 141 = .ok (.aload_n 0, 1) := by decide +kernel
theorem d_98_142 : decode prog_6_method_16_code 142 = .ok (.invokevirtual 140, 3) := by decide +kernel
theorem d_98_145 : decode prog_6_method_16_code 145 = .ok (.ireturn, 1) := by decide +kernel
set_option maxRecDepth 20000 in
theorem ok_98 : ∀ r ∈ tb_98, sm_ok 98 r := List.forall_mem_cons.mpr ⟨d_98_0, List.forall_mem_cons.mpr ⟨⟨d_98_1, Or.inl pf_109⟩, List.forall_mem_cons.mpr ⟨d_98_4, List.forall_mem_cons.mpr ⟨⟨d_98_6, ⟨mo_71, mi_71, se_71, pm_103⟩⟩, List.forall_mem_cons.mpr ⟨⟨d_98_9, (by decide)⟩, List.forall_mem_cons.mpr ⟨d_98_12, List.forall_mem_cons.mpr ⟨d_98_13, List.forall_mem_cons.mpr ⟨⟨d_98_15, (by decide)⟩, List.forall_mem_cons.mpr ⟨d_98_18, List.forall_mem_cons.mpr ⟨d_98_19, List.forall_mem_cons.mpr ⟨d_98_20, List.forall_mem_cons.mpr ⟨d_98_21, List.forall_mem_cons.mpr ⟨⟨d_98_22, ⟨mo_96, mi_96, se_96, pm_114⟩⟩, List.forall_mem_cons.mpr ⟨⟨d_98_25, (by decide)⟩, List.forall_mem_cons.mpr ⟨d_98_28, List.forall_mem_cons.mpr ⟨⟨d_98_29, Or.inl pf_109⟩, List.forall_mem_cons.mpr ⟨d_98_32, List.forall_mem_cons.mpr ⟨⟨d_98_34, ⟨mo_71, mi_71, se_71, pm_103⟩⟩, List.forall_mem_cons.mpr ⟨⟨d_98_37, (by decide)⟩, List.forall_mem_cons.mpr ⟨d_98_40, List.forall_mem_cons.mpr ⟨⟨d_98_41, (by decide)⟩, List.forall_mem_cons.mpr ⟨d_98_44, List.forall_mem_cons.mpr ⟨d_98_45, List.forall_mem_cons.mpr ⟨d_98_46, List.forall_mem_cons.mpr ⟨⟨d_98_47, Or.inl pf_109⟩, List.forall_mem_cons.mpr ⟨d_98_50, List.forall_mem_cons.mpr ⟨⟨d_98_52, ⟨mo_71, mi_71, se_71, pm_103⟩⟩, List.forall_mem_cons.mpr ⟨⟨d_98_55, (by decide)⟩, List.forall_mem_cons.mpr ⟨d_98_58, List.forall_mem_cons.mpr ⟨d_98_59, List.forall_mem_cons.mpr ⟨⟨d_98_61, (by decide)⟩, List.forall_mem_cons.mpr ⟨d_98_64, List.forall_mem_cons.mpr ⟨d_98_65, List.forall_mem_cons.mpr ⟨d_98_66, List.forall_mem_cons.mpr ⟨d_98_67, List.forall_mem_cons.mpr ⟨⟨d_98_68, ⟨mo_98, mi_98, se_98, pm_119⟩⟩, List.forall_mem_cons.mpr ⟨⟨d_98_71, (by decide)⟩, List.forall_mem_cons.mpr ⟨d_98_74, List.forall_mem_cons.mpr ⟨d_98_75, List.forall_mem_cons.mpr ⟨d_98_76, List.forall_mem_cons.mpr ⟨⟨d_98_77, Or.inl pf_108⟩, List.forall_mem_cons.mpr ⟨d_98_80, List.forall_mem_cons.mpr ⟨⟨d_98_82, ⟨mo_46, mi_46, se_46, pm_118⟩⟩, List.forall_mem_cons.mpr ⟨d_98_85, List.forall_mem_cons.mpr ⟨d_98_86, List.forall_mem_cons.mpr ⟨d_98_87, List.forall_mem_cons.mpr ⟨⟨d_98_88, Or.inl pf_109⟩, List.forall_mem_cons.mpr ⟨d_98_91, List.forall_mem_cons.mpr ⟨⟨d_98_92, ⟨mo_71, mi_71, se_71, pm_103⟩⟩, List.forall_mem_cons.mpr ⟨⟨d_98_95, (by decide)⟩, List.forall_mem_cons.mpr ⟨d_98_98, List.forall_mem_cons.mpr ⟨⟨d_98_99, Or.inl pf_108⟩, List.forall_mem_cons.mpr ⟨d_98_102, List.forall_mem_cons.mpr ⟨d_98_103, List.forall_mem_cons.mpr ⟨⟨d_98_104, Or.inl pf_109⟩, List.forall_mem_cons.mpr ⟨⟨d_98_107, ⟨mo_72, mi_72, se_72, pm_113⟩⟩, List.forall_mem_cons.mpr ⟨d_98_110, List.forall_mem_cons.mpr ⟨⟨d_98_111, ⟨mo_47, mi_47, se_47, pm_120⟩⟩, List.forall_mem_cons.mpr ⟨d_98_114, List.forall_mem_cons.mpr ⟨d_98_115, List.forall_mem_cons.mpr ⟨d_98_116, List.forall_mem_cons.mpr ⟨⟨d_98_117, Or.inl pf_109⟩, List.forall_mem_cons.mpr ⟨d_98_120, List.forall_mem_cons.mpr ⟨⟨d_98_122, ⟨mo_71, mi_71, se_71, pm_103⟩⟩, List.forall_mem_cons.mpr ⟨⟨d_98_125, (by decide)⟩, List.forall_mem_cons.mpr ⟨d_98_128, List.forall_mem_cons.mpr ⟨⟨d_98_129, Or.inl pf_108⟩, List.forall_mem_cons.mpr ⟨d_98_132, List.forall_mem_cons.mpr ⟨d_98_134, List.forall_mem_cons.mpr ⟨d_98_135, List.forall_mem_cons.mpr ⟨⟨d_98_136, ⟨mo_47, mi_47, se_47, pm_120⟩⟩, List.forall_mem_cons.mpr ⟨d_98_139, List.forall_mem_cons.mpr ⟨d_98_140, List.forall_mem_cons.mpr ⟨d_98_141, List.forall_mem_cons.mpr ⟨⟨d_98_142, ⟨mo_99, mi_99, se_99, pm_121⟩⟩, List.forall_mem_cons.mpr ⟨d_98_145, fun _ h => absurd h List.not_mem_nil⟩⟩⟩⟩⟩⟩⟩⟩⟩⟩⟩⟩⟩⟩⟩⟩⟩⟩⟩⟩⟩⟩⟩⟩⟩⟩⟩⟩⟩⟩⟩⟩⟩⟩⟩⟩⟩⟩⟩⟩⟩⟩⟩⟩⟩⟩⟩⟩⟩⟩⟩⟩⟩⟩⟩⟩⟩⟩⟩⟩⟩⟩⟩⟩⟩⟩⟩⟩⟩⟩⟩⟩⟩⟩⟩⟩
theorem d_99_0 : decode prog_6_method_17_code 0 = .ok (.iconst (-1), 1) := by decide +kernel
theorem d_99_1 : decode prog_6_method_17_code 1 = .ok (.istore_n 1, 1) := by decide +kernel
theorem d_99_2 : decode prog_6_method_17_code 2 = .ok (.aload_n 0, 1) := by decide +kernel
theorem d_99_3 : decode prog_6_method_17_code 3 = .ok (.getfield 12, 3) := by decide +kernel
theorem d_99_6 : decode prog_6_method_17_code 6 = .ok (.iconst 1, 1) := by decide +kernel
theorem d_99_7 : decode prog_6_method_17_code 7 = .ok (.invokevirtual 49, 3) := by decide +kernel
theorem d_99_10 : decode prog_6_method_17_code 10 = .ok (.ifCond .eq 25, 3) := by decide +kernel
theorem d_99_13 : decode prog_6_method_17_code 13 = .ok (.aload_n 0, 1) := by decide +kernel
theorem d_99_14 : decode prog_6_method_17_code 14 = .ok (.getfield 12, 3) := by decide +kernel
theorem d_99_17 : decode prog_6_method_17_code 17 = .ok (.invokevirtual 83, 3) := by decide +kernel
theorem d_99_20 : decode prog_6_method_17_code 20 = .ok (.istore_n 1, 1) := by decide +kernel
theorem d_99_21 : decode prog_6_method_17_code 21 = .ok (.aload_n 0, 1) := by decide +kernel
theorem d_99_22 : decode prog_6_method_17_code 22 = .ok (.getfield 12, 3) := by decide +kernel
theorem d_99_25 : decode prog_6_method_17_code 25 = .ok (.bipush 46, 2) := by decide +kernel
theorem d_99_27 : decode prog_6_method_17_code 27 = .ok (.invokevirtual 49, 3) := by decide +kernel
theorem d_99_30 : decode prog_6_method_17_code 30 = .ok (.ifCond .ne 5, 3) := by decide +kernel
theorem d_99_33 : decode prog_6_method_17_code 33 = .ok (.iconst 0, 1) := by decide +kernel
theorem d_99_34 : decode prog_6_method_17_code 34 = .ok (.ireturn, 1) := by decide +kernel
theorem d_99_35 : decode prog_6_method_17_code 35 = .ok (.aload_n 0, 1) := by decide +kernel
theorem d_99_36 : decode prog_6_method_17_code 36 = .ok (.getfield 12, 3) := by decide +kernel
theorem d_99_39 : decode prog_6_method_17_code 39 = .ok (.iconst 3, 1) := by decide +kernel
theorem d_99_40 : decode prog_6_method_17_code 40 = .ok (.invokevirtual 49, 3) := by decide +kernel
theorem d_99_43 : decode prog_6_method_17_code 43 = .ok (.ifCond .ne 5, 3) := by decide +kernel
theorem d_99_46 : decode prog_6_method_17_code 46 = .ok (.iconst 0, 1) := by decide +kernel
theorem d_99_47 : decode prog_6_method_17_code 47 = .ok (.ireturn, 1) := by decide +kernel
theorem d_99_48 : decode prog_6_method_17_code 48 = .ok (.aload_n 0, 1) := by decide +kernel
theorem d_99_49 : decode prog_6_method_17_code 49 = .ok (.getfield 26, 3) := by decide +kernel
theorem d_99_52 : decode prog_6_method_17_code 52 = .ok (.iconst 3, 1) := by decide +kernel
theorem d_99_53 : decode prog_6_method_17_code 53 = .ok (.aload_n 0, 1) := by decide +kernel
theorem d_99_54 : decode prog_6_method_17_code 54 = .ok (.getfield 12, 3) := by decide +kernel
theorem d_99_57 : decode prog_6_method_17_code 57 = .ok (.invokevirtual 83, 3) := by decide +kernel
theorem d_99_60 : decode prog_6_method_17_code 60 = .ok (.iload_n 1, 1) := by decide +kernel
theorem d_99_61 : decode prog_6_method_17_code 61 = .ok (.invokevirtual 136, 3) := by decide +kernel
theorem d_99_64 : decode prog_6_method_17_code 64 = .ok (.iconst 1, 1) := by decide +kernel
theorem d_99_65 : decode prog_6_method_17_code 65 = .ok (.ireturn, 1) := by decide +kernel
set_option maxRecDepth 20000 in
theorem ok_99 : ∀ r ∈ tb_99, sm_ok 99 r := List.forall_mem_cons.mpr ⟨d_99_0, List.forall_mem_cons.mpr ⟨d_99_1, List.forall_mem_cons.mpr ⟨d_99_2, List.forall_mem_cons.mpr ⟨⟨d_99_3, Or.inl pf_109⟩, List.forall_mem_cons.mpr ⟨d_99_6, List.forall_mem_cons.mpr ⟨⟨d_99_7, ⟨mo_71, mi_71, se_71, pm_103⟩⟩, List.forall_mem_cons.mpr ⟨⟨d_99_10, (by decide)⟩, List.forall_mem_cons.mpr ⟨d_99_13, List.forall_mem_cons.mpr ⟨⟨d_99_14, Or.inl pf_109⟩, List.forall_mem_cons.mpr ⟨⟨d_99_17, ⟨mo_72, mi_72, se_72, pm_113⟩⟩, List.forall_mem_cons.mpr ⟨d_99_20, List.forall_mem_cons.mpr ⟨d_99_21, List.forall_mem_cons.mpr ⟨⟨d_99_22, Or.inl pf_109⟩, List.forall_mem_cons.mpr ⟨d_99_25, List.forall_mem_cons.mpr ⟨⟨d_99_27, ⟨mo_71, mi_71, se_71, pm_103⟩⟩, List.forall_mem_cons.mpr ⟨⟨d_99_30, (by decide)⟩, List.forall_mem_cons.mpr ⟨d_99_33, List.forall_mem_cons.mpr ⟨d_99_34, List.forall_mem_cons.mpr ⟨d_99_35, List.forall_mem_cons.mpr ⟨⟨d_99_36, Or.inl pf_109⟩, List.forall_mem_cons.mpr ⟨d_99_39, List.forall_mem_cons.mpr ⟨⟨d_99_40, ⟨mo_71, mi_71, se_71, pm_103⟩⟩, List.forall_mem_cons.mpr ⟨⟨d_99_43, (by decide)⟩, List.forall_mem_cons.mpr ⟨d_99_46, List.forall_mem_cons.mpr ⟨d_99_47, List.forall_mem_cons.mpr ⟨d_99_48, List.forall_mem_cons.mpr ⟨⟨d_99_49, Or.inl pf_108⟩, List.forall_mem_cons.mpr ⟨d_99_52, List.forall_mem_cons.mpr ⟨d_99_53, List.forall_mem_cons.mpr ⟨⟨d_99_54, Or.inl pf_109⟩, List.forall_mem_cons.mpr ⟨⟨d_99_57, ⟨mo_72, mi_72, se_72, pm_113⟩⟩, List.forall_mem_cons.mpr ⟨d_99_60, List.forall_mem_cons.mpr ⟨⟨d_99_61, ⟨mo_47, mi_47, se_47, pm_120⟩⟩, List.forall_mem_cons.mpr ⟨d_99_64, List.forall_mem_cons.mpr ⟨d_99_65, fun _ h => absurd h List.not_mem_nil⟩⟩⟩⟩⟩⟩⟩⟩⟩⟩⟩⟩⟩⟩⟩⟩⟩⟩⟩⟩⟩⟩⟩⟩⟩⟩⟩⟩⟩⟩⟩⟩⟩⟩⟩
theorem d_100_0 : decode prog_6_method_18_code 0 = .ok (.aload_n 0, 1) := by decide +kernel
theorem d_100_1 : decode prog_6_method_18_code 1 = .ok (.getfield 26, 3) := by decide +kernel
theorem d_100_4 : decode prog_6_method_18_code 4 = .ok (.getfield 99, 3) := by decide +kernel
theorem d_100_7 : decode prog_6_method_18_code 7 = .ok (.istore_n 2, 1) := by decide +kernel
theorem d_100_8 : decode prog_6_method_18_code 8 = .ok (.aload_n 0, 1) := by decide +kernel
theorem d_100_9 : decode prog_6_method_18_code 9 = .ok (.iload_n 1, 1) := by decide +kernel
theorem d_100_10 : decode prog_6_method_18_code 10 = .ok (.invokevirtual 143, 3) := by decide +kernel
theorem d_100_13 : decode prog_6_method_18_code 13 = .ok (.ifCond .ne 5, 3) := by decide +kernel
theorem d_100_16 : decode prog_6_method_18_code 16 = .ok (.iconst 0, 1) := by decide +kernel
theorem d_100_17 : decode prog_6_method_18_code 17 = .ok (.ireturn, 1) := by decide +kernel
theorem d_100_18 : decode prog_6_method_18_code 18 = .ok (.iconst 1, 1) := by decide +kernel
theorem d_100_19 : decode prog_6_method_18_code 19 = .ok (.istore_n 3, 1) := by decide +kernel
theorem d_100_20 : decode prog_6_method_18_code 20 = .ok (.iconst 0, 1) := by decide +kernel
theorem d_100_21 : decode prog_6_method_18_code 21 = .ok (.istore 4, 2) := by decide +kernel
theorem d_100_23 : decode prog_6_method_18_code 23 = .ok (.iload 4, 2) := by decide +kernel
theorem d_100_25 : decode prog_6_method_18_code 25 = .ok (.bipush 80, 2) := by decide +kernel
theorem d_100_27 : decode prog_6_method_18_code 27 = .ok (.if_icmp .ge 42, 3) := by decide +kernel
theorem d_100_30 : decode prog_6_method_18_code 30 = .ok (.aload_n 0, 1) := by decide +kernel
theorem d_100_31 : decode prog_6_method_18_code 31 = .ok (.getfield 12, 3) := by decide +kernel
theorem d_100_34 : decode prog_6_method_18_code 34 = .ok (.bipush 16, 2) := by decide +kernel
theorem d_100_36 : decode prog_6_method_18_code 36 = .ok (.invokevirtual 49, 3) := by decide +kernel
theorem d_100_39 : decode prog_6_method_18_code 39 = .ok (.ifCond .eq 30, 3) := by decide +kernel
theorem d_100_42 : decode prog_6_method_18_code 42 = .ok (.aload_n 0, 1) := by decide +kernel
theorem d_100_43 : decode prog_6_method_18_code 43 = .ok (.iload_n 1, 1) := by decide +kernel
theorem d_100_44 : decode prog_6_method_18_code 44 = .ok (.invokevirtual 143, 3) := by decide +kernel
theorem d_100_47 : decode prog_6_method_18_code 47 = .ok (.ifCond .ne 5, 3) := by decide +kernel
theorem d_100_50 : decode prog_6_method_18_code 50 = .ok (.iconst 0, 1) := by decide +kernel
theorem d_100_51 : decode prog_6_method_18_code 51 = .ok (.ireturn, 1) := by decide +kernel
theorem d_100_52 : decode prog_6_method_18_code 52 = .ok (.aload_n 0, 1) := by decide +kernel
theorem d_100_53 : decode prog_6_method_18_code 53 = .ok (.getfield 26, 3) := by decide +kernel
theorem d_100_56 : decode prog_6_method_18_code 56 = .ok (.bipush 16, 2) := by decide +kernel
theorem d_100_58 : decode prog_6_method_18_code 58 = .ok (.invokevirtual 130, 3) := by decide +kernel
theorem d_100_61 : decode prog_6_method_18_code 61 = .ok (.iconst 0, 1) := by decide +kernel
theorem d_100_62 : decode prog_6_method_18_code 62 = .ok (.istore_n 3, 1) := by decide +kernel
theorem d_100_63 : decode prog_6_method_18_code 63 = .ok (.iinc 4 1, 3) := by decide +kernel
theorem d_100_66 : decode prog_6_method_18_code 66 = .ok (.goto (-43), 3) := by decide +kernel
theorem d_100_69 : decode prog_6_method_18_code 69 = .ok (.iload_n 1, 1) := by decide +kernel
theorem d_100_70 : decode prog_6_method_18_code 70 = .ok (.ifCond .ne 22, 3) := by decide +kernel
theorem d_100_73 : decode prog_6_method_18_code 73 = .ok (.iload_n 3, 1) := by decide +kernel
theorem d_100_74 : decode prog_6_method_18_code 74 = .ok (.ifCond .ne 18, 3) := by decide +kernel
theorem d_100_77 : decode prog_6_method_18_code 77 = .ok (.aload_n 0, 1) := by decide +kernel
theorem d_100_78 : decode prog_6_method_18_code 78 = .ok (.getfield 22, 3) := by decide +kernel
theorem d_100_81 : decode prog_6_method_18_code 81 = .ok (.iload_n 2, 1) := by decide +kernel
theorem d_100_82 : decode prog_6_method_18_code 82 = .ok (.aload_n 0, 1) := by decide +kernel
theorem d_100_83 : decode prog_6_method_18_code 83 = .ok (.getfield 26, 3) := by decide +kernel
theorem d_100_86 : decode prog_6_method_18_code 86 = .ok (.getfield 99, 3) := by decide +kernel
theorem d_100_89 : decode prog_6_method_18_code 89 = .ok (.invokevirtual 146, 3) := by decide +kernel
theorem d_100_92 : decode prog_6_method_18_code 92 = .ok (.iconst 1, 1) := by decide +kernel
theorem d_100_93 : decode prog_6_method_18_code 93 = .ok (.ireturn, 1) := by decide +kernel
set_option maxRecDepth 20000 in
theorem ok_100 : ∀ r ∈ tb_100, sm_ok 100 r := List.forall_mem_cons.mpr ⟨d_100_0, List.forall_mem_cons.mpr ⟨⟨d_100_1, Or.inl pf_108⟩, List.forall_mem_cons.mpr ⟨⟨d_100_4, Or.inl pf_116⟩, List.forall_mem_cons.mpr ⟨d_100_7, List.forall_mem_cons.mpr ⟨d_100_8, List.forall_mem_cons.mpr ⟨d_100_9, List.forall_mem_cons.mpr ⟨⟨d_100_10, ⟨mo_101, mi_101, se_101, pm_122⟩⟩, List.forall_mem_cons.mpr ⟨⟨d_100_13, (by decide)⟩, List.forall_mem_cons.mpr ⟨d_100_16, List.forall_mem_cons.mpr ⟨d_100_17, List.forall_mem_cons.mpr ⟨d_100_18, List.forall_mem_cons.mpr ⟨d_100_19, List.forall_mem_cons.mpr ⟨d_100_20, List.forall_mem_cons.mpr ⟨d_100_21, List.forall_mem_cons.mpr ⟨d_100_23, List.forall_mem_cons.mpr ⟨d_100_25, List.forall_mem_cons.mpr ⟨⟨d_100_27, (by decide)⟩, List.forall_mem_cons.mpr ⟨d_100_30, List.forall_mem_cons.mpr ⟨⟨d_100_31, Or.inl pf_109⟩, List.forall_mem_cons.mpr ⟨d_100_34, List.forall_mem_cons.mpr ⟨⟨d_100_36, ⟨mo_71, mi_71, se_71, pm_103⟩⟩, List.forall_mem_cons.mpr ⟨⟨d_100_39, (by decide)⟩, List.forall_mem_cons.mpr ⟨d_100_42, List.forall_mem_cons.mpr ⟨d_100_43, List.forall_mem_cons.mpr ⟨⟨d_100_44, ⟨mo_101, mi_101, se_101, pm_122⟩⟩, List.forall_mem_cons.mpr ⟨⟨d_100_47, (by decide)⟩, List.forall_mem_cons.mpr ⟨d_100_50, List.forall_mem_cons.mpr ⟨d_100_51, List.forall_mem_cons.mpr ⟨d_100_52, List.forall_mem_cons.mpr ⟨⟨d_100_53, Or.inl pf_108⟩, List.forall_mem_cons.mpr ⟨d_100_56, List.forall_mem_cons.mpr ⟨⟨d_100_58, ⟨mo_46, mi_46, se_46, pm_118⟩⟩, List.forall_mem_cons.mpr ⟨d_100_61, List.forall_mem_cons.mpr ⟨d_100_62, List.forall_mem_cons.mpr ⟨d_100_63, List.forall_mem_cons.mpr ⟨⟨d_100_66, (by decide)⟩, List.forall_mem_cons.mpr ⟨d_100_69, List.forall_mem_cons.mpr ⟨⟨d_100_70, (by decide)⟩, List.forall_mem_cons.mpr ⟨d_100_73, List.forall_mem_cons.mpr ⟨⟨d_100_74, (by decide)⟩, List.forall_mem_cons.mpr ⟨d_100_77, List.forall_mem_cons.mpr ⟨⟨d_100_78, Or.inl pf_107⟩, List.forall_mem_cons.mpr ⟨d_100_81, List.forall_mem_cons.mpr ⟨d_100_82, List.forall_mem_cons.mpr ⟨⟨d_100_83, Or.inl pf_108⟩, List.forall_mem_cons.mpr ⟨⟨d_100_86, Or.inl pf_116⟩, List.forall_mem_cons.mpr ⟨⟨d_100_89, ⟨mo_64, mi_64, se_64, pm_123⟩⟩, List.forall_mem_cons.mpr ⟨d_100_92, List.forall_mem_cons.mpr ⟨d_100_93, fun _ h => absurd h List.not_mem_nil⟩⟩⟩⟩⟩⟩⟩⟩⟩⟩⟩⟩⟩⟩⟩⟩⟩⟩⟩⟩⟩⟩⟩⟩⟩⟩⟩⟩⟩⟩⟩⟩⟩⟩⟩⟩⟩⟩⟩⟩⟩⟩⟩⟩⟩⟩⟩⟩⟩
theorem d_101_0 : decode prog_6_method_19_code 0 = .ok (.aload_n 0, 1) := by decide +kernel
theorem d_101_1 : decode prog_6_method_19_code 1 = .ok (.iload_n 1, 1) := by decide +kernel
theorem d_101_2 : decode prog_6_method_19_code 2 = .ok (.invokevirtual 150, 3) := by decide +kernel
theorem d_101_5 : decode prog_6_method_19_code 5 = .ok (.ifCond .ne 5, 3) := by decide +kernel
theorem d_101_8 : decode prog_6_method_19_code 8 = .ok (.iconst 0, 1) := by decide +kernel
theorem d_101_9 : decode prog_6_method_19_code 9 = .ok (.ireturn, 1) := by decide +kernel
theorem d_101_10 : decode prog_6_method_19_code 10 = .ok (.iconst 0, 1) := by decide +kernel
theorem d_101_11 : decode prog_6_method_19_code 11 = .ok (.istore_n 2, 1) := by decide +kernel
theorem d_101_12 : decode prog_6_method_19_code 12 = .ok (.iload_n 2, 1) := by decide +kernel
theorem d_101_13 : decode prog_6_method_19_code 13 = .ok (.bipush 80, 2) := by decide +kernel
theorem d_101_15 : decode prog_6_method_19_code 15 = .ok (.if_icmp .ge 40, 3) := by decide +kernel
theorem d_101_18 : decode prog_6_method_19_code 18 = .ok (.aload_n 0, 1) := by decide +kernel
theorem d_101_19 : decode prog_6_method_19_code 19 = .ok (.getfield 12, 3) := by decide +kernel
theorem d_101_22 : decode prog_6_method_19_code 22 = .ok (.bipush 17, 2) := by decide +kernel
theorem d_101_24 : decode prog_6_method_19_code 24 = .ok (.invokevirtual 49, 3) := by decide +kernel
theorem d_101_27 : decode prog_6_method_19_code 27 = .ok (.ifCond .eq 28, 3) := by decide +kernel
theorem d_101_30 : decode prog_6_method_19_code 30 = .ok (.aload_n 0, 1) := by decide +kernel
theorem d_101_31 : decode prog_6_method_19_code 31 = .ok (.iload_n 1, 1) := by decide +kernel
theorem d_101_32 : decode prog_6_method_19_code 32 = .ok (.invokevirtual 150, 3) := by decide +kernel
theorem d_101_35 : decode prog_6_method_19_code 35 = .ok (.ifCond .ne 5, 3) := by decide +kernel
theorem d_101_38 : decode prog_6_method_19_code 38 = .ok (.iconst 0, 1) := by decide +kernel
theorem d_101_39 : decode prog_6_method_19_code 39 = .ok (.ireturn, 1) := by decide +kernel
theorem d_101_40 : decode prog_6_method_19_code 40 = .ok (.aload_n 0, 1) := by decide +kernel
theorem d_101_41 : decode prog_6_method_19_code 41 = .ok (.getfield 26, 3) := by decide +kernel
theorem d_101_44 : decode prog_6_method_19_code 44 = .ok (.bipush 17, 2) := by decide +kernel
theorem d_101_46 : decode prog_6_method_19_code 46 = .ok (.invokevirtual 130, 3) := by decide +kernel
theorem d_101_49 : decode prog_6_method_19_code 49 = .ok (.iinc 2 1, 3) := by decide +kernel
theorem d_101_52 : decode prog_6_method_19_code 52 = .ok (.goto (-40), 3) := by decide +kernel
theorem d_101_55 : decode prog_6_method_19_code 55 = .ok (.iconst 1, 1) := by decide +kernel
theorem d_101_56 : decode prog_6_method_19_code 56 = .ok (.ireturn, 1) := by decide +kernel
set_option maxRecDepth 20000 in
theorem ok_101 : ∀ r ∈ tb_101, sm_ok 101 r := List.forall_mem_cons.mpr ⟨d_101_0, List.forall_mem_cons.mpr ⟨d_101_1, List.forall_mem_cons.mpr ⟨⟨d_101_2, ⟨mo_102, mi_102, se_102, pm_124⟩⟩, List.forall_mem_cons.mpr ⟨⟨d_101_5, (by decide)⟩, List.forall_mem_cons.mpr ⟨d_101_8, List.forall_mem_cons.mpr ⟨d_101_9, List.forall_mem_cons.mpr ⟨d_101_10, List.forall_mem_cons.mpr ⟨d_101_11, List.forall_mem_cons.mpr ⟨d_101_12, List.forall_mem_cons.mpr ⟨d_101_13, List.forall_mem_cons.mpr ⟨⟨d_101_15, (by decide)⟩, List.forall_mem_cons.mpr ⟨d_101_18, List.forall_mem_cons.mpr ⟨⟨d_101_19, Or.inl pf_109⟩, List.forall_mem_cons.mpr ⟨d_101_22, List.forall_mem_cons.mpr ⟨⟨d_101_24, ⟨mo_71, mi_71, se_71, pm_103⟩⟩, List.forall_mem_cons.mpr ⟨⟨d_101_27, (by decide)⟩, List.forall_mem_cons.mpr ⟨d_101_30, List.forall_mem_cons.mpr ⟨d_101_31, List.forall_mem_cons.mpr ⟨⟨d_101_32, ⟨mo_102, mi_102, se_102, pm_124⟩⟩, List.forall_mem_cons.mpr ⟨⟨d_101_35, (by decide)⟩, List.forall_mem_cons.mpr ⟨d_101_38, List.forall_mem_cons.mpr ⟨d_101_39, List.forall_mem_cons.mpr ⟨d_101_40, List.forall_mem_cons.mpr ⟨⟨d_101_41, Or.inl pf_108⟩, List.forall_mem_cons.mpr ⟨d_101_44, List.forall_mem_cons.mpr ⟨⟨d_101_46, ⟨mo_46, mi_46, se_46, pm_118⟩⟩, List.forall_mem_cons.mpr ⟨d_101_49, List.forall_mem_cons.mpr ⟨⟨d_101_52, (by decide)⟩, List.forall_mem_cons.mpr ⟨d_101_55, List.forall_mem_cons.mpr ⟨d_101_56, fun _ h => absurd h List.not_mem_nil⟩⟩⟩⟩⟩⟩⟩⟩⟩⟩⟩⟩⟩⟩⟩⟩⟩⟩⟩⟩⟩⟩⟩⟩⟩⟩⟩⟩⟩⟩
theorem d_102_0 : decode prog_6_method_20_code 0 = .ok (.aload_n 0, 1) := by decide +kernel
theorem d_102_1 : decode prog_6_method_20_code 1 = .ok (.getfield 26, 3) := by decide +kernel
theorem d_102_4 : decode prog_6_method_20_code 4 = .ok (.getfield 99, 3) := by decide +kernel
theorem d_102_7 : decode prog_6_method_20_code 7 = .ok (.istore_n 2, 1) := by decide +kernel
theorem d_102_8 : decode prog_6_method_20_code 8 = .ok (.aload_n 0, 1) := by decide +kernel
theorem d_102_9 : decode prog_6_method_20_code 9 = .ok (.iload_n 1, 1) := by decide +kernel
theorem d_102_10 : decode prog_6_method_20_code 10 = .ok (.invokevirtual 153, 3) := by decide +kernel
theorem d_102_13 : decode prog_6_method_20_code 13 = .ok (.ifCond .ne 5, 3) := by decide +kernel
theorem d_102_16 : decode prog_6_method_20_code 16 = .ok (.iconst 0, 1) := by decide +kernel
theorem d_102_17 : decode prog_6_method_20_code 17 = .ok (.ireturn, 1) := by decide +kernel
theorem d_102_18 : decode prog_6_method_20_code 18 = .ok (.iload_n 1, 1) := by decide +kernel
theorem d_102_19 : decode prog_6_method_20_code 19 = .ok (.ifCond .ne 22, 3) := by decide +kernel
theorem d_102_22 : decode prog_6_method_20_code 22 = .ok (.aload_n 0, 1) := by decide +kernel
theorem d_102_23 : decode prog_6_method_20_code 23 = .ok (.getfield 22, 3) := by decide +kernel
theorem d_102_26 : decode prog_6_method_20_code 26 = .ok (.iload_n 2, 1) := by decide +kernel
theorem d_102_27 : decode prog_6_method_20_code 27 = .ok (.aload_n 0, 1) := by decide +kernel
theorem d_102_28 : decode prog_6_method_20_code 28 = .ok (.getfield 18, 3) := by decide +kernel
theorem d_102_31 : decode prog_6_method_20_code 31 = .ok (.aload_n 0, 1) := by decide +kernel
theorem d_102_32 : decode prog_6_method_20_code 32 = .ok (.getfield 26, 3) := by decide +kernel
theorem d_102_35 : decode prog_6_method_20_code 35 = .ok (.getfield 99, 3) := by decide +kernel
theorem d_102_38 : decode prog_6_method_20_code 38 = .ok (.invokevirtual 156, 3) := by decide +kernel
theorem d_102_41 : decode prog_6_method_20_code 41 = .ok (.iconst 1, 1) := by decide +kernel
theorem d_102_42 : decode prog_6_method_20_code 42 = .ok (.ireturn, 1) := by decide +kernel
set_option maxRecDepth 20000 in
theorem ok_102 : ∀ r ∈ tb_102, sm_ok 102 r := List.forall_mem_cons.mpr ⟨d_102_0, List.forall_mem_cons.mpr ⟨⟨d_102_1, Or.inl pf_108⟩, List.forall_mem_cons.mpr ⟨⟨d_102_4, Or.inl pf_116⟩, List.forall_mem_cons.mpr ⟨d_102_7, List.forall_mem_cons.mpr ⟨d_102_8, List.forall_mem_cons.mpr ⟨d_102_9, List.forall_mem_cons.mpr ⟨⟨d_102_10, ⟨mo_103, mi_103, se_103, pm_125⟩⟩, List.forall_mem_cons.mpr ⟨⟨d_102_13, (by decide)⟩, List.forall_mem_cons.mpr ⟨d_102_16, List.forall_mem_cons.mpr ⟨d_102_17, List.forall_mem_cons.mpr ⟨d_102_18, List.forall_mem_cons.mpr ⟨⟨d_102_19, (by decide)⟩, List.forall_mem_cons.mpr ⟨d_102_22, List.forall_mem_cons.mpr ⟨⟨d_102_23, Or.inl pf_107⟩, List.forall_mem_cons.mpr ⟨d_102_26, List.forall_mem_cons.mpr ⟨d_102_27, List.forall_mem_cons.mpr ⟨⟨d_102_28, Or.inl pf_123⟩, List.forall_mem_cons.mpr ⟨d_102_31, List.forall_mem_cons.mpr ⟨⟨d_102_32, Or.inl pf_108⟩, List.forall_mem_cons.mpr ⟨⟨d_102_35, Or.inl pf_116⟩, List.forall_mem_cons.mpr ⟨⟨d_102_38, ⟨mo_63, mi_63, se_63, pm_126⟩⟩, List.forall_mem_cons.mpr ⟨d_102_41, List.forall_mem_cons.mpr ⟨d_102_42, fun _ h => absurd h List.not_mem_nil⟩⟩⟩⟩⟩⟩⟩⟩⟩⟩⟩⟩⟩⟩⟩⟩⟩⟩⟩⟩⟩⟩⟩
theorem d_103_0 : decode prog_6_method_21_code 0 = .ok (.aload_n 0, 1) := by decide +kernel
theorem d_103_1 : decode prog_6_method_21_code 1 = .ok (.getfield 12, 3) := by decide +kernel
theorem d_103_4 : decode prog_6_method_21_code 4 = .ok (.bipush 91, 2) := by decide +kernel
theorem d_103_6 : decode prog_6_method_21_code 6 = .ok (.invokevirtual 49, 3) := by decide +kernel
theorem d_103_9 : decode prog_6_method_21_code 9 = .ok (.ifCond .eq 44, 3) := by decide +kernel
theorem d_103_12 : decode prog_6_method_21_code 12 = .ok (.iload_n 1, 1) := by decide +kernel
theorem d_103_13 : decode prog_6_method_21_code 13 = .ok (.bipush 7, 2) := by decide +kernel
theorem d_103_15 : decode prog_6_method_21_code 15 = .ok (.if_icmp .gt 29, 3) := by decide +kernel
theorem d_103_18 : decode prog_6_method_21_code 18 = .ok (.aload_n 0, 1) := by decide +kernel
theorem d_103_19 : decode prog_6_method_21_code 19 = .ok (.iload_n 1, 1) := by decide +kernel
theorem d_103_20 : decode prog_6_method_21_code 20 = .ok (.iconst 1, 1) := by decide +kernel
theorem d_103_21 : decode prog_6_method_21_code 21 = .ok (.iadd, 1) := by decide +kernel
theorem d_103_22 : decode prog_6_method_21_code 22 = .ok (.invokevirtual 109, 3) := by decide +kernel
theorem d_103_25 : decode prog_6_method_21_code 25 = .ok (.ifCond .eq 19, 3) := by decide +kernel
theorem d_103_28 : decode prog_6_method_21_code 28 = .ok (.aload_n 0, 1) := by decide +kernel
theorem d_103_29 : decode prog_6_method_21_code 29 = .ok (.getfield 12, 3) := by decide +kernel
theorem d_103_32 : decode prog_6_method_21_code 32 = .ok (.bipush 93, 2) := by decide +kernel
theorem d_103_34 : decode prog_6_method_21_code 34 = .ok (.invokevirtual 49, 3) := by decide +kernel
theorem d_103_37 : decode prog_6_method_21_code 37 = .ok (.ifCond .eq 7, 3) := by decide +kernel
theorem d_103_40 : decode prog_6_method_21_code 40 = .ok (.iconst 1, 1) := by decide +kernel
theorem d_103_41 : decode prog_6_method_21_code 41 = .ok (.goto 4, 3) := by decide +kernel
theorem d_103_44 : decode prog_6_method_21_code 44 = .ok (.iconst 0, 1) := by decide +kernel
theorem d_103_45 : decode prog_6_method_21_code 45 = .ok (.istore_n 2, 1) := by decide +kernel
theorem d_103_46 : decode prog_6_method_21_code 46 = .ok (.aload_n 0, 1) := by decide +kernel
theorem d_103_47 : decode prog_6_method_21_code 47 = .ok (.iconst (-1), 1) := by decide +kernel
theorem d_103_48 : decode prog_6_method_21_code 48 = .ok (.putfield 18, 3) := by decide +kernel
theorem d_103_51 : decode prog_6_method_21_code 51 = .ok (.iload_n 2, 1) := by decide +kernel
theorem d_103_52 : decode prog_6_method_21_code 52 = .ok (.ireturn, 1) := by decide +kernel
theorem d_103_53 : decode prog_6_method_21_code 53 = .ok (.aload_n 0, 1) := by decide +kernel
theorem d_103_54 : decode prog_6_method_21_code 54 = .ok (.getfield 12, 3) := by decide +kernel
theorem d_103_57 : decode prog_6_method_21_code 57 = .ok (.bipush 18, 2) := by decide +kernel
theorem d_103_59 : decode prog_6_method_21_code 59 = .ok (.invokevirtual 49, 3) := by decide +kernel
theorem d_103_62 : decode prog_6_method_21_code 62 = .ok (.ifCond .eq 37, 3) := by decide +kernel
theorem d_103_65 : decode prog_6_method_21_code 65 = .ok (.iload_n 1, 1) := by decide +kernel
theorem d_103_66 : decode prog_6_method_21_code 66 = .ok (.bipush 7, 2) := by decide +kernel
theorem d_103_68 : decode prog_6_method_21_code 68 = .ok (.if_icmp .gt 13, 3) := by decide +kernel
theorem d_103_71 : decode prog_6_method_21_code 71 = .ok (.aload_n 0, 1) := by decide +kernel
theorem d_103_72 : decode prog_6_method_21_code 72 = .ok (.iload_n 1, 1) := by decide +kernel
theorem d_103_73 : decode prog_6_method_21_code 73 = .ok (.iconst 1, 1) := by decide +kernel
theorem d_103_74 : decode prog_6_method_21_code 74 = .ok (.iadd, 1) := by decide +kernel
theorem d_103_75 : decode prog_6_method_21_code 75 = .ok (.invokevirtual 153, 3) := by decide +kernel
theorem d_103_78 : decode prog_6_method_21_code 78 = .ok (.ifCond .ne 5, 3) := by decide +kernel
theorem d_103_81 : decode prog_6_method_21_code 81 = .ok (.iconst 0, 1) := by decide +kernel
theorem d_103_82 : decode prog_6_method_21_code 82 = .ok (.ireturn, 1) := by decide +kernel
theorem d_103_83 : decode prog_6_method_21_code 83 = .ok (.aload_n 0, 1) := by decide +kernel
theorem d_103_84 : decode prog_6_method_21_code 84 = .ok (.getfield 26, 3) := by decide +kernel
theorem d_103_87 : decode prog_6_method_21_code 87 = .ok (.bipush 18, 2) := by decide +kernel
theorem d_103_89 : decode prog_6_method_21_code 89 = .ok (.invokevirtual 130, 3) := by decide +kernel
theorem d_103_92 : decode prog_6_method_21_code 92 = .ok (.aload_n 0, 1) := by decide +kernel
theorem d_103_93 : decode prog_6_method_21_code 93 = .ok (.iconst (-1), 1) := by decide +kernel
theorem d_103_94 : decode prog_6_method_21_code 94 = .ok (.putfield 18, 3) := by decide +kernel
theorem d_103_97 : decode prog_6_method_21_code 97 = .ok (.iconst 1, 1) := by decide +kernel
theorem d_103_98 : decode prog_6_method_21_code 98 = .ok (.ireturn, 1) := by decide +kernel
theorem d_103_99 : decode prog_6_method_21_code 99 = .ok (.aload_n 0, 1) := by decide +kernel
theorem d_103_100 : decode prog_6_method_21_code 100 = .ok (.iload_n 1, 1) := by decide +kernel
theorem d_103_101 : decode prog_6_method_21_code 101 = .ok (.invokevirtual 159, 3) := by decide +kernel
theorem d_103_104 : decode prog_6_method_21_code 104 = .ok (.ireturn, 1) := by decide +kernel
set_option maxRecDepth 20000 in
theorem ok_103 : ∀ r ∈ tb_103, sm_ok 103 r := List.forall_mem_cons.mpr ⟨d_103_0, List.forall_mem_cons.mpr ⟨⟨d_103_1, Or.inl pf_109⟩, List.forall_mem_cons.mpr ⟨d_103_4, List.forall_mem_cons.mpr ⟨⟨d_103_6, ⟨mo_71, mi_71, se_71, pm_103⟩⟩, List.forall_mem_cons.mpr ⟨⟨d_103_9, (by decide)⟩, List.forall_mem_cons.mpr ⟨d_103_12, List.forall_mem_cons.mpr ⟨d_103_13, List.forall_mem_cons.mpr ⟨⟨d_103_15, (by decide)⟩, List.forall_mem_cons.mpr ⟨d_103_18, List.forall_mem_cons.mpr ⟨d_103_19, List.forall_mem_cons.mpr ⟨d_103_20, List.forall_mem_cons.mpr ⟨d_103_21, List.forall_mem_cons.mpr ⟨⟨d_103_22, ⟨mo_100, mi_100, se_100, pm_116⟩⟩, List.forall_mem_cons.mpr ⟨⟨d_103_25, (by decide)⟩, List.forall_mem_cons.mpr ⟨d_103_28, List.forall_mem_cons.mpr ⟨⟨d_103_29, Or.inl pf_109⟩, List.forall_mem_cons.mpr ⟨d_103_32, List.forall_mem_cons.mpr ⟨⟨d_103_34, ⟨mo_71, mi_71, se_71, pm_103⟩⟩, List.forall_mem_cons.mpr ⟨⟨d_103_37, (by decide)⟩, List.forall_mem_cons.mpr ⟨d_103_40, List.forall_mem_cons.mpr ⟨⟨d_103_41, (by decide)⟩, List.forall_mem_cons.mpr ⟨d_103_44, List.forall_mem_cons.mpr ⟨d_103_45, List.forall_mem_cons.mpr ⟨d_103_46, List.forall_mem_cons.mpr ⟨d_103_47, List.forall_mem_cons.mpr ⟨⟨d_103_48, pf_104⟩, List.forall_mem_cons.mpr ⟨d_103_51, List.forall_mem_cons.mpr ⟨d_103_52, List.forall_mem_cons.mpr ⟨d_103_53, List.forall_mem_cons.mpr ⟨⟨d_103_54, Or.inl pf_109⟩, List.forall_mem_cons.mpr ⟨d_103_57, List.forall_mem_cons.mpr ⟨⟨d_103_59, ⟨mo_71, mi_71, se_71, pm_103⟩⟩, List.forall_mem_cons.mpr ⟨⟨d_103_62, (by decide)⟩, List.forall_mem_cons.mpr ⟨d_103_65, List.forall_mem_cons.mpr ⟨d_103_66, List.forall_mem_cons.mpr ⟨⟨d_103_68, (by decide)⟩, List.forall_mem_cons.mpr ⟨d_103_71, List.forall_mem_cons.mpr ⟨d_103_72, List.forall_mem_cons.mpr ⟨d_103_73, List.forall_mem_cons.mpr ⟨d_103_74, List.forall_mem_cons.mpr ⟨⟨d_103_75, ⟨mo_103, mi_103, se_103, pm_125⟩⟩, List.forall_mem_cons.mpr ⟨⟨d_103_78, (by decide)⟩, List.forall_mem_cons.mpr ⟨d_103_81, List.forall_mem_cons.mpr ⟨d_103_82, List.forall_mem_cons.mpr ⟨d_103_83, List.forall_mem_cons.mpr ⟨⟨d_103_84, Or.inl pf_108⟩, List.forall_mem_cons.mpr ⟨d_103_87, List.forall_mem_cons.mpr ⟨⟨d_103_89, ⟨mo_46, mi_46, se_46, pm_118⟩⟩, List.forall_mem_cons.mpr ⟨d_103_92, List.forall_mem_cons.mpr ⟨d_103_93, List.forall_mem_cons.mpr ⟨⟨d_103_94, pf_104⟩, List.forall_mem_cons.mpr ⟨d_103_97, List.forall_mem_cons.mpr ⟨d_103_98, List.forall_mem_cons.mpr ⟨d_103_99, List.forall_mem_cons.mpr ⟨d_103_100, List.forall_mem_cons.mpr ⟨⟨d_103_101, ⟨mo_104, mi_104, se_104, pm_127⟩⟩, List.forall_mem_cons.mpr ⟨d_103_104, fun _ h => absurd h List.not_mem_nil⟩⟩⟩⟩⟩⟩⟩⟩⟩⟩⟩⟩⟩⟩⟩⟩⟩⟩⟩⟩⟩⟩⟩⟩⟩⟩⟩⟩⟩⟩⟩⟩⟩⟩⟩⟩⟩⟩⟩⟩⟩⟩⟩⟩⟩⟩⟩⟩⟩⟩⟩⟩⟩⟩⟩⟩⟩
theorem d_104_0 : decode prog_6_method_22_code 0 = .ok (.aload_n 0, 1) := by decide +kernel
theorem d_104_1 : decode prog_6_method_22_code 1 = .ok (.iconst (-1), 1) := by decide +kernel
theorem d_104_2 : decode prog_6_method_22_code 2 = .ok (.putfield 18, 3) := by decide +kernel
theorem d_104_5 : decode prog_6_method_22_code 5 = .ok (.aload_n 0, 1) := by decide +kernel
theorem d_104_6 : decode prog_6_method_22_code 6 = .ok (.iload_n 1, 1) := by decide +kernel
theorem d_104_7 : decode prog_6_method_22_code 7 = .ok (.invokevirtual 96, 3) := by decide +kernel
theorem d_104_10 : decode prog_6_method_22_code 10 = .ok (.ifCond .ne 5, 3) := by decide +kernel
theorem d_104_13 : decode prog_6_method_22_code 13 = .ok (.iconst 0, 1) := by decide +kernel
theorem d_104_14 : decode prog_6_method_22_code 14 = .ok (.ireturn, 1) := by decide +kernel
theorem d_104_15 : decode prog_6_method_22_code 15 = .ok (.aload_n 0, 1) := by decide +kernel
theorem d_104_16 : decode prog_6_method_22_code 16 = .ok (.getfield 12, 3) := by decide +kernel
theorem d_104_19 : decode prog_6_method_22_code 19 = .ok (.bipush 15, 2) := by decide +kernel
theorem d_104_21 : decode prog_6_method_22_code 21 = .ok (.invokevirtual 49, 3) := by decide +kernel
theorem d_104_24 : decode prog_6_method_22_code 24 = .ok (.ifCond .eq 14, 3) := by decide +kernel
theorem d_104_27 : decode prog_6_method_22_code 27 = .ok (.aload_n 0, 1) := by decide +kernel
theorem d_104_28 : decode prog_6_method_22_code 28 = .ok (.getfield 26, 3) := by decide +kernel
theorem d_104_31 : decode prog_6_method_22_code 31 = .ok (.bipush 31, 2) := by decide +kernel
theorem d_104_33 : decode prog_6_method_22_code 33 = .ok (.invokevirtual 130, 3) := by decide +kernel
theorem d_104_36 : decode prog_6_method_22_code 36 = .ok (.iconst 1, 1) := by decide +kernel
theorem d_104_37 : decode prog_6_method_22_code 37 = .ok (.ireturn, 1) := by decide +kernel
theorem d_104_38 : decode prog_6_method_22_code 38 = .ok (.aload_n 0, 1) := by decide +kernel
theorem d_104_39 : decode prog_6_method_22_code 39 = .ok (.getfield 12, 3) := by decide +kernel
theorem d_104_42 : decode prog_6_method_22_code 42 = .ok (.invokevirtual 42, 3) := by decide +kernel
theorem d_104_45 : decode prog_6_method_22_code 45 = .ok (.istore_n 2, 1) := by decide +kernel
theorem d_104_46 : decode prog_6_method_22_code 46 = .ok (.aload_n 0, 1) := by decide +kernel
theorem d_104_47 : decode prog_6_method_22_code 47 = .ok (.getfield 26, 3) := by decide +kernel
theorem d_104_50 : decode prog_6_method_22_code 50 = .ok (.getfield 99, 3) := by decide +kernel
theorem d_104_53 : decode prog_6_method_22_code 53 = .ok (.istore_n 3, 1) := by decide +kernel
theorem d_104_54 : decode prog_6_method_22_code 54 = .ok (.aload_n 0, 1) := by decide +kernel
theorem d_104_55 : decode prog_6_method_22_code 55 = .ok (.getfield 12, 3) := by decide +kernel
theorem d_104_58 : decode prog_6_method_22_code 58 = .ok (.bipush 61, 2) := by decide +kernel
theorem d_104_60 : decode prog_6_method_22_code 60 = .ok (.invokevirtual 49, 3) := by decide +kernel
theorem d_104_63 : decode prog_6_method_22_code 63 = .ok (.ifCond .ne 27, 3) := by decide +kernel
theorem d_104_66 : decode prog_6_method_22_code 66 = .ok (.aload_n 0, 1) := by decide +kernel
theorem d_104_67 : decode prog_6_method_22_code 67 = .ok (.getfield 12, 3) := by decide +kernel
theorem d_104_70 : decode prog_6_method_22_code 70 = .ok (.bipush 60, 2) := by decide +kernel
theorem d_104_72 : decode prog_6_method_22_code 72 = .ok (.invokevirtual 49, 3) := by decide +kernel
theorem d_104_75 : decode prog_6_method_22_code 75 = .ok (.ifCond .ne 15, 3) := by decide +kernel
theorem d_104_78 : decode prog_6_method_22_code 78 = .ok (.aload_n 0, 1) := by decide +kernel
theorem d_104_79 : decode prog_6_method_22_code 79 = .ok (.getfield 12, 3) := by decide +kernel
theorem d_104_82 : decode prog_6_method_22_code 82 = .ok (.bipush 62, 2) := by decide +kernel
theorem d_104_84 : decode prog_6_method_22_code 84 = .ok (.invokevirtual 49, 3) := by decide +kernel
theorem d_104_87 : decode prog_6_method_22_code 87 = .ok (.ifCond .eq 11, 3) := by decide +kernel
theorem d_104_90 : decode prog_6_method_22_code 90 = .ok (.aload_n 0, 1) := by decide +kernel
theorem d_104_91 : decode prog_6_method_22_code 91 = .ok (.iload_n 1, 1) := by decide +kernel
theorem d_104_92 : decode prog_6_method_22_code 92 = .ok (.invokevirtual 96, 3) := by decide +kernel
theorem d_104_95 : decode prog_6_method_22_code 95 = .ok (.ifCond .ne 5, 3) := by decide +kernel
theorem d_104_98 : decode prog_6_method_22_code 98 = .ok (.iconst 0, 1) := by decide +kernel
theorem d_104_99 : decode prog_6_method_22_code 99 = .ok (.ireturn, 1) := by decide +kernel
theorem d_104_100 : decode prog_6_method_22_code 100 = .ok (.aload_n 0, 1) := by decide +kernel
theorem d_104_101 : decode prog_6_method_22_code 101 = .ok (.getfield 26, 3) := by decide +kernel
theorem d_104_104 : decode prog_6_method_22_code 104 = .ok (.iload_n 2, 1) := by decide +kernel
theorem d_104_105 : decode prog_6_method_22_code 105 = .ok (.invokevirtual 130, 3) := by decide +kernel
theorem d_104_108 : decode prog_6_method_22_code 108 = .ok (.iload_n 2, 1) := by decide +kernel
theorem d_104_109 : decode prog_6_method_22_code 109 = .ok (.bipush 61, 2) := by decide +kernel
theorem d_104_111 : decode prog_6_method_22_code 111 = .ok (.if_icmp .ne 8, 3) := by decide +kernel
theorem d_104_114 : decode prog_6_method_22_code 114 = .ok (.aload_n 0, 1) := by decide +kernel
theorem d_104_115 : decode prog_6_method_22_code 115 = .ok (.iload_n 3, 1) := by decide +kernel
theorem d_104_116 : decode prog_6_method_22_code 116 = .ok (.putfield 18, 3) := by decide +kernel
theorem d_104_119 : decode prog_6_method_22_code 119 = .ok (.iconst 1, 1) := by decide +kernel
theorem d_104_120 : decode prog_6_method_22_code 120 = .ok (.ireturn, 1) := by decide +kernel
set_option maxRecDepth 20000 in
theorem ok_104 : ∀ r ∈ tb_104, sm_ok 104 r := List.forall_mem_cons.mpr ⟨d_104_0, List.forall_mem_cons.mpr ⟨d_104_1, List.forall_mem_cons.mpr ⟨⟨d_104_2, pf_104⟩, List.forall_mem_cons.mpr ⟨d_104_5, List.forall_mem_cons.mpr ⟨d_104_6, List.forall_mem_cons.mpr ⟨⟨d_104_7, ⟨mo_96, mi_96, se_96, pm_114⟩⟩, List.forall_mem_cons.mpr ⟨⟨d_104_10, (by decide)⟩, List.forall_mem_cons.mpr ⟨d_104_13, List.forall_mem_cons.mpr ⟨d_104_14, List.forall_mem_cons.mpr ⟨d_104_15, List.forall_mem_cons.mpr ⟨⟨d_104_16, Or.inl pf_109⟩, List.forall_mem_cons.mpr ⟨d_104_19, List.forall_mem_cons.mpr ⟨⟨d_104_21, ⟨mo_71, mi_71, se_71, pm_103⟩⟩, List.forall_mem_cons.mpr ⟨⟨d_104_24, (by decide)⟩, List.forall_mem_cons.mpr ⟨d_104_27, List.forall_mem_cons.mpr ⟨⟨d_104_28, Or.inl pf_108⟩, List.forall_mem_cons.mpr ⟨d_104_31, List.forall_mem_cons.mpr ⟨⟨d_104_33, ⟨mo_46, mi_46, se_46, pm_118⟩⟩, List.forall_mem_cons.mpr ⟨d_104_36, List.forall_mem_cons.mpr ⟨d_104_37, List.forall_mem_cons.mpr ⟨d_104_38, List.forall_mem_cons.mpr ⟨⟨d_104_39, Or.inl pf_109⟩, List.forall_mem_cons.mpr ⟨⟨d_104_42, ⟨mo_70, mi_70, se_70, pm_102⟩⟩, List.forall_mem_cons.mpr ⟨d_104_45, List.forall_mem_cons.mpr ⟨d_104_46, List.forall_mem_cons.mpr ⟨⟨d_104_47, Or.inl pf_108⟩, List.forall_mem_cons.mpr ⟨⟨d_104_50, Or.inl pf_116⟩, List.forall_mem_cons.mpr ⟨d_104_53, List.forall_mem_cons.mpr ⟨d_104_54, List.forall_mem_cons.mpr ⟨⟨d_104_55, Or.inl pf_109⟩, List.forall_mem_cons.mpr ⟨d_104_58, List.forall_mem_cons.mpr ⟨⟨d_104_60, ⟨mo_71, mi_71, se_71, pm_103⟩⟩, List.forall_mem_cons.mpr ⟨⟨d_104_63, (by decide)⟩, List.forall_mem_cons.mpr ⟨d_104_66, List.forall_mem_cons.mpr ⟨⟨d_104_67, Or.inl pf_109⟩, List.forall_mem_cons.mpr ⟨d_104_70, List.forall_mem_cons.mpr ⟨⟨d_104_72, ⟨mo_71, mi_71, se_71, pm_103⟩⟩, List.forall_mem_cons.mpr ⟨⟨d_104_75, (by decide)⟩, List.forall_mem_cons.mpr ⟨d_104_78, List.forall_mem_cons.mpr ⟨⟨d_104_79, Or.inl pf_109⟩, List.forall_mem_cons.mpr ⟨d_104_82, List.forall_mem_cons.mpr ⟨⟨d_104_84, ⟨mo_71, mi_71, se_71, pm_103⟩⟩, List.forall_mem_cons.mpr ⟨⟨d_104_87, (by decide)⟩, List.forall_mem_cons.mpr ⟨d_104_90, List.forall_mem_cons.mpr ⟨d_104_91, List.forall_mem_cons.mpr ⟨⟨d_104_92, ⟨mo_96, mi_96, se_96, pm_114⟩⟩, List.forall_mem_cons.mpr ⟨⟨d_104_95, (by decide)⟩, List.forall_mem_cons.mpr ⟨d_104_98, List.forall_mem_cons.mpr ⟨d_104_99, List.forall_mem_cons.mpr ⟨d_104_100, List.forall_mem_cons.mpr ⟨⟨d_104_101, Or.inl pf_108⟩, List.forall_mem_cons.mpr ⟨d_104_104, List.forall_mem_cons.mpr ⟨⟨d_104_105, ⟨mo_46, mi_46, se_46, pm_118⟩⟩, List.forall_mem_cons.mpr ⟨d_104_108, List.forall_mem_cons.mpr ⟨d_104_109, List.forall_mem_cons.mpr ⟨⟨d_104_111, (by decide)⟩, List.forall_mem_cons.mpr ⟨d_104_114, List.forall_mem_cons.mpr ⟨d_104_115, List.forall_mem_cons.mpr ⟨⟨d_104_116, pf_104⟩, List.forall_mem_cons.mpr ⟨d_104_119, List.forall_mem_cons.mpr ⟨d_104_120, fun _ h => absurd h List.not_mem_nil⟩⟩⟩⟩⟩⟩⟩⟩⟩⟩⟩⟩⟩⟩⟩⟩⟩⟩⟩⟩⟩⟩⟩⟩⟩⟩⟩⟩⟩⟩⟩⟩⟩⟩⟩⟩⟩⟩⟩⟩⟩⟩⟩⟩⟩⟩⟩⟩⟩⟩⟩⟩⟩⟩⟩⟩⟩⟩⟩⟩⟩
theorem d_105_0 : decode prog_3_method_1_code 0 = .ok (.aload_n 0, 1) := by decide +kernel
theorem d_105_1 : decode prog_3_method_1_code 1 = .ok (.invokespecial 3, 3) := by decide +kernel
theorem d_105_4 : decode prog_3_method_1_code 4 = .ok (.aload_n 0, 1) := by decide +kernel
theorem d_105_5 : decode prog_3_method_1_code 5 = .ok (.aload_n 1, 1) := by decide +kernel
theorem d_105_6 : decode prog_3_method_1_code 6 = .ok (.putfield 9, 3) := by decide +kernel
theorem d_105_9 : decode prog_3_method_1_code 9 = .ok (.aload_n 0, 1) := by decide +kernel
theorem d_105_10 : decode prog_3_method_1_code 10 = .ok (.aload_n 2, 1) := by decide +kernel
theorem d_105_11 : decode prog_3_method_1_code 11 = .ok (.putfield 15, 3) := by decide +kernel
theorem d_105_14 : decode prog_3_method_1_code 14 = .ok (.aload_n 0, 1) := by decide +kernel
theorem d_105_15 : decode prog_3_method_1_code 15 = .ok (.aload_n 3, 1) := by decide +kernel
theorem d_105_16 : decode prog_3_method_1_code 16 = .ok (.putfield 19, 3) := by decide +kernel
theorem d_105_19 : decode prog_3_method_1_code 19 = .ok (.return_, 1) := by decide +kernel
set_option maxRecDepth 20000 in
theorem ok_105 : ∀ r ∈ tb_105, sm_ok 105 r := List.forall_mem_cons.mpr ⟨d_105_0, List.forall_mem_cons.mpr ⟨⟨d_105_1, (Or.inl ⟨rfl, wd_253, wd_34, wd_35⟩)⟩, List.forall_mem_cons.mpr ⟨d_105_4, List.forall_mem_cons.mpr ⟨d_105_5, List.forall_mem_cons.mpr ⟨⟨d_105_6, pf_124 rfl⟩, List.forall_mem_cons.mpr ⟨d_105_9, List.forall_mem_cons.mpr ⟨d_105_10, List.forall_mem_cons.mpr ⟨⟨d_105_11, pf_125 rfl⟩, List.forall_mem_cons.mpr ⟨d_105_14, List.forall_mem_cons.mpr ⟨d_105_15, List.forall_mem_cons.mpr ⟨⟨d_105_16, pf_126 rfl⟩, List.forall_mem_cons.mpr ⟨d_105_19, fun _ h => absurd h List.not_mem_nil⟩⟩⟩⟩⟩⟩⟩⟩⟩⟩⟩⟩
theorem d_106_0 : decode prog_3_method_2_code 0 = .ok (.aload_n 0, 1) := by decide +kernel
theorem d_106_1 : decode prog_3_method_2_code 1 = .ok (.invokevirtual 23, 3) := by decide +kernel
theorem d_106_4 : decode prog_3_method_2_code 4 = .ok (.ifCond .eq 17, 3) := by decide +kernel
theorem d_106_7 : decode prog_3_method_2_code 7 = .ok (.aload_n 0, 1) := by decide +kernel
theorem d_106_8 : decode prog_3_method_2_code 8 = .ok (.invokevirtual 27, 3) := by decide +kernel
theorem d_106_11 : decode prog_3_method_2_code 11 = .ok (.ifCond .eq 10, 3) := by decide +kernel
theorem d_106_14 : decode prog_3_method_2_code 14 = .ok (.aload_n 0, 1) := by decide +kernel
theorem d_106_15 : decode prog_3_method_2_code 15 = .ok (.invokevirtual 30, 3) := by decide +kernel
theorem d_106_18 : decode prog_3_method_2_code 18 = .ok (.ifCond .ne 5, 3) := by decide +kernel
theorem d_106_21 : decode prog_3_method_2_code 21 = .ok (.iconst 2, 1) := by decide +kernel
theorem d_106_22 : decode prog_3_method_2_code 22 = .ok (.ireturn, 1) := by decide +kernel
theorem d_106_23 : decode prog_3_method_2_code 23 = .ok (.aload_n 0, 1) := by decide +kernel
theorem d_106_24 : decode prog_3_method_2_code 24 = .ok (.invokevirtual 33, 3) := by decide +kernel
theorem d_106_27 : decode prog_3_method_2_code 27 = .ok (.ifCond .eq 7, 3) := by decide +kernel
theorem d_106_30 : decode prog_3_method_2_code 30 = .ok (.iconst 0, 1) := by decide +kernel
theorem d_106_31 : decode prog_3_method_2_code 31 = .ok (.goto 4, 3) := by decide +kernel
theorem d_106_34 : decode prog_3_method_2_code 34 = .ok (.iconst 3, 1) := by decide +kernel
theorem d_106_35 : decode prog_3_method_2_code 35 = .ok (.ireturn, 1) := by decide +kernel
set_option maxRecDepth 20000 in
theorem ok_106 : ∀ r ∈ tb_106, sm_ok 106 r := List.forall_mem_cons.mpr ⟨d_106_0, List.forall_mem_cons.mpr ⟨⟨d_106_1, ⟨mo_107, mi_107, se_107, pm_128⟩⟩, List.forall_mem_cons.mpr ⟨⟨d_106_4, (by decide)⟩, List.forall_mem_cons.mpr ⟨d_106_7, List.forall_mem_cons.mpr ⟨⟨d_106_8, ⟨mo_108, mi_108, se_108, pm_129⟩⟩, List.forall_mem_cons.mpr ⟨⟨d_106_11, (by decide)⟩, List.forall_mem_cons.mpr ⟨d_106_14, List.forall_mem_cons.mpr ⟨⟨d_106_15, ⟨mo_109, mi_109, se_109, pm_130⟩⟩, List.forall_mem_cons.mpr ⟨⟨d_106_18, (by decide)⟩, List.forall_mem_cons.mpr ⟨d_106_21, List.forall_mem_cons.mpr ⟨d_106_22, List.forall_mem_cons.mpr ⟨d_106_23, List.forall_mem_cons.mpr ⟨⟨d_106_24, ⟨mo_112, mi_112, se_112, pm_131⟩⟩, List.forall_mem_cons.mpr ⟨⟨d_106_27, (by decide)⟩, List.forall_mem_cons.mpr ⟨d_106_30, List.forall_mem_cons.mpr ⟨⟨d_106_31, (by decide)⟩, List.forall_mem_cons.mpr ⟨d_106_34, List.forall_mem_cons.mpr ⟨d_106_35, fun _ h => absurd h List.not_mem_nil⟩⟩⟩⟩⟩⟩⟩⟩⟩⟩⟩⟩⟩⟩⟩⟩⟩⟩
theorem d_107_0 : decode prog_3_method_3_code 0 = .ok (.aload_n 0, 1) := by decide +kernel
theorem d_107_1 : decode prog_3_method_3_code 1 = .ok (.getfield 9, 3) := by decide +kernel
theorem d_107_4 : decode prog_3_method_3_code 4 = .ok (.aload_n 0, 1) := by decide +kernel
theorem d_107_5 : decode prog_3_method_3_code 5 = .ok (.getfield 15, 3) := by decide +kernel
theorem d_107_8 : decode prog_3_method_3_code 8 = .ok (.getfield 36, 3) := by decide +kernel
theorem d_107_11 : decode prog_3_method_3_code 11 = .ok (.aaload, 1) := by decide +kernel
theorem d_107_12 : decode prog_3_method_3_code 12 = .ok (.invokevirtual 42, 3) := by decide +kernel
theorem d_107_15 : decode prog_3_method_3_code 15 = .ok (.istore_n 1, 1) := by decide +kernel
theorem d_107_16 : decode prog_3_method_3_code 16 = .ok (.aload_n 0, 1) := by decide +kernel
theorem d_107_17 : decode prog_3_method_3_code 17 = .ok (.getfield 15, 3) := by decide +kernel
theorem d_107_20 : decode prog_3_method_3_code 20 = .ok (.getfield 47, 3) := by decide +kernel
theorem d_107_23 : decode prog_3_method_3_code 23 = .ok (.iconst 4, 1) := by decide +kernel
theorem d_107_24 : decode prog_3_method_3_code 24 = .ok (.if_icmp .ne 13, 3) := by decide +kernel
theorem d_107_27 : decode prog_3_method_3_code 27 = .ok (.iload_n 1, 1) := by decide +kernel
theorem d_107_28 : decode prog_3_method_3_code 28 = .ok (.ifCond .ne 7, 3) := by decide +kernel
theorem d_107_31 : decode prog_3_method_3_code 31 = .ok (.iconst 1, 1) := by decide +kernel
theorem d_107_32 : decode prog_3_method_3_code 32 = .ok (.goto 4, 3) := by decide +kernel
theorem d_107_35 : decode prog_3_method_3_code 35 = .ok (.iconst 0, 1) := by decide +kernel
theorem d_107_36 : decode prog_3_method_3_code 36 = .ok (.ireturn, 1) := by decide +kernel
theorem d_107_37 : decode prog_3_method_3_code 37 = .ok (.aload_n 0, 1) := by decide +kernel
theorem d_107_38 : decode prog_3_method_3_code 38 = .ok (.getfield 15, 3) := by decide +kernel
theorem d_107_41 : decode prog_3_method_3_code 41 = .ok (.getfield 52, 3) := by decide +kernel
theorem d_107_44 : decode prog_3_method_3_code 44 = .ok (.iconst (-1), 1) := by decide +kernel
theorem d_107_45 : decode prog_3_method_3_code 45 = .ok (.if_icmp .ne 5, 3) := by decide +kernel
theorem d_107_48 : decode prog_3_method_3_code 48 = .ok (.iload_n 1, 1) := by decide +kernel
theorem d_107_49 : decode prog_3_method_3_code 49 = .ok (.ireturn, 1) := by decide +kernel
theorem d_107_50 : decode prog_3_method_3_code 50 = .ok (.iload_n 1, 1) := by decide +kernel
theorem d_107_51 : decode prog_3_method_3_code 51 = .ok (.ifCond .eq 42, 3) := by decide +kernel
theorem d_107_54 : decode prog_3_method_3_code 54 = .ok (.aload_n 0, 1) := by decide +kernel
theorem d_107_55 : decode prog_3_method_3_code 55 = .ok (.getfield 15, 3) := by decide +kernel
theorem d_107_58 : decode prog_3_method_3_code 58 = .ok (.getfield 52, 3) := by decide +kernel
theorem d_107_61 : decode prog_3_method_3_code 61 = .ok (.aload_n 0, 1) := by decide +kernel
theorem d_107_62 : decode prog_3_method_3_code 62 = .ok (.getfield 15, 3) := by decide +kernel
theorem d_107_65 : decode prog_3_method_3_code 65 = .ok (.getfield 36, 3) := by decide +kernel
theorem d_107_68 : decode prog_3_method_3_code 68 = .ok (.if_icmp .eq 25, 3) := by decide +kernel
theorem d_107_71 : decode prog_3_method_3_code 71 = .ok (.aload_n 0, 1) := by decide +kernel
theorem d_107_72 : decode prog_3_method_3_code 72 = .ok (.getfield 9, 3) := by decide +kernel
theorem d_107_75 : decode prog_3_method_3_code 75 = .ok (.aload_n 0, 1) := by decide +kernel
theorem d_107_76 : decode prog_3_method_3_code 76 = .ok (.getfield 15, 3) := by decide +kernel
theorem d_107_79 : decode prog_3_method_3_code 79 = .ok (.getfield 52, 3) := by decide +kernel
theorem d_107_82 : decode prog_3_method_3_code 82 = .ok (.aaload, 1) := by decide +kernel
theorem d_107_83 : decode prog_3_method_3_code 83 = .ok (.invokevirtual 42, 3) := by decide +kernel
theorem d_107_86 : decode prog_3_method_3_code 86 = .ok (.ifCond .eq 7, 3) := by decide +kernel
theorem d_107_89 : decode prog_3_method_3_code 89 = .ok (.iconst 1, 1) := by decide +kernel
theorem d_107_90 : decode prog_3_method_3_code 90 = .ok (.goto 4, 3) := by decide +kernel
theorem d_107_93 : decode prog_3_method_3_code 93 = .ok (.iconst 0, 1) := by decide +kernel
theorem d_107_94 : decode prog_3_method_3_code 94 = .ok (.ireturn, 1) := by decide +kernel
set_option maxRecDepth 20000 in
theorem ok_107 : ∀ r ∈ tb_107, sm_ok 107 r := List.forall_mem_cons.mpr ⟨d_107_0, List.forall_mem_cons.mpr ⟨⟨d_107_1, Or.inl pf_127⟩, List.forall_mem_cons.mpr ⟨d_107_4, List.forall_mem_cons.mpr ⟨⟨d_107_5, Or.inl pf_128⟩, List.forall_mem_cons.mpr ⟨⟨d_107_8, Or.inl pf_129⟩, List.forall_mem_cons.mpr ⟨d_107_11, List.forall_mem_cons.mpr ⟨⟨d_107_12, ⟨mo_26, mi_26, se_26, pm_132⟩⟩, List.forall_mem_cons.mpr ⟨d_107_15, List.forall_mem_cons.mpr ⟨d_107_16, List.forall_mem_cons.mpr ⟨⟨d_107_17, Or.inl pf_128⟩, List.forall_mem_cons.mpr ⟨⟨d_107_20, Or.inl pf_130⟩, List.forall_mem_cons.mpr ⟨d_107_23, List.forall_mem_cons.mpr ⟨⟨d_107_24, (by decide)⟩, List.forall_mem_cons.mpr ⟨d_107_27, List.forall_mem_cons.mpr ⟨⟨d_107_28, (by decide)⟩, List.forall_mem_cons.mpr ⟨d_107_31, List.forall_mem_cons.mpr ⟨⟨d_107_32, (by decide)⟩, List.forall_mem_cons.mpr ⟨d_107_35, List.forall_mem_cons.mpr ⟨d_107_36, List.forall_mem_cons.mpr ⟨d_107_37, List.forall_mem_cons.mpr ⟨⟨d_107_38, Or.inl pf_128⟩, List.forall_mem_cons.mpr ⟨⟨d_107_41, Or.inl pf_131⟩, List.forall_mem_cons.mpr ⟨d_107_44, List.forall_mem_cons.mpr ⟨⟨d_107_45, (by decide)⟩, List.forall_mem_cons.mpr ⟨d_107_48, List.forall_mem_cons.mpr ⟨d_107_49, List.forall_mem_cons.mpr ⟨d_107_50, List.forall_mem_cons.mpr ⟨⟨d_107_51, (by decide)⟩, List.forall_mem_cons.mpr ⟨d_107_54, List.forall_mem_cons.mpr ⟨⟨d_107_55, Or.inl pf_128⟩, List.forall_mem_cons.mpr ⟨⟨d_107_58, Or.inl pf_131⟩, List.forall_mem_cons.mpr ⟨d_107_61, List.forall_mem_cons.mpr ⟨⟨d_107_62, Or.inl pf_128⟩, List.forall_mem_cons.mpr ⟨⟨d_107_65, Or.inl pf_129⟩, List.forall_mem_cons.mpr ⟨⟨d_107_68, (by decide)⟩, List.forall_mem_cons.mpr ⟨d_107_71, List.forall_mem_cons.mpr ⟨⟨d_107_72, Or.inl pf_127⟩, List.forall_mem_cons.mpr ⟨d_107_75, List.forall_mem_cons.mpr ⟨⟨d_107_76, Or.inl pf_128⟩, List.forall_mem_cons.mpr ⟨⟨d_107_79, Or.inl pf_131⟩, List.forall_mem_cons.mpr ⟨d_107_82, List.forall_mem_cons.mpr ⟨⟨d_107_83, ⟨mo_26, mi_26, se_26, pm_132⟩⟩, List.forall_mem_cons.mpr ⟨⟨d_107_86, (by decide)⟩, List.forall_mem_cons.mpr ⟨d_107_89, List.forall_mem_cons.mpr ⟨⟨d_107_90, (by decide)⟩, List.forall_mem_cons.mpr ⟨d_107_93, List.forall_mem_cons.mpr ⟨d_107_94, fun _ h => absurd h List.not_mem_nil⟩⟩⟩⟩⟩⟩⟩⟩⟩⟩⟩⟩⟩⟩⟩⟩⟩⟩⟩⟩⟩⟩⟩⟩⟩⟩⟩⟩⟩⟩⟩⟩⟩⟩⟩⟩⟩⟩⟩⟩⟩⟩⟩⟩⟩⟩⟩
theorem d_108_0 : decode prog_3_method_4_code 0 = .ok (.aload_n 0, 1) := by decide +kernel
theorem d_108_1 : decode prog_3_method_4_code 1 = .ok (.getfield 9, 3) := by decide +kernel
theorem d_108_4 : decode prog_3_method_4_code 4 = .ok (.aload_n 0, 1) := by decide +kernel
theorem d_108_5 : decode prog_3_method_4_code 5 = .ok (.getfield 15, 3) := by decide +kernel
theorem d_108_8 : decode prog_3_method_4_code 8 = .ok (.getfield 36, 3) := by decide +kernel
theorem d_108_11 : decode prog_3_method_4_code 11 = .ok (.aaload, 1) := by decide +kernel
theorem d_108_12 : decode prog_3_method_4_code 12 = .ok (.astore_n 1, 1) := by decide +kernel
theorem d_108_13 : decode prog_3_method_4_code 13 = .ok (.aload_n 0, 1) := by decide +kernel
theorem d_108_14 : decode prog_3_method_4_code 14 = .ok (.getfield 15, 3) := by decide +kernel
theorem d_108_17 : decode prog_3_method_4_code 17 = .ok (.getfield 47, 3) := by decide +kernel
theorem d_108_20 : decode prog_3_method_4_code 20 = .ok (.lookupswitch 84 #[(5, 28), (7, 72)], 28) := by decide +kernel
theorem d_108_48 : decode prog_3_method_4_code 48 = .ok (.aload_n 0, 1) := by decide +kernel
theorem d_108_49 : decode prog_3_method_4_code 49 = .ok (.getfield 15, 3) := by decide +kernel
theorem d_108_52 : decode prog_3_method_4_code 52 = .ok (.getfield 55, 3) := by decide +kernel
theorem d_108_55 : decode prog_3_method_4_code 55 = .ok (.ifCond .le 35, 3) := by decide +kernel
theorem d_108_58 : decode prog_3_method_4_code 58 = .ok (.aload_n 1, 1) := by decide +kernel
theorem d_108_59 : decode prog_3_method_4_code 59 = .ok (.aload_n 0, 1) := by decide +kernel
theorem d_108_60 : decode prog_3_method_4_code 60 = .ok (.getfield 15, 3) := by decide +kernel
theorem d_108_63 : decode prog_3_method_4_code 63 = .ok (.getfield 55, 3) := by decide +kernel
theorem d_108_66 : decode prog_3_method_4_code 66 = .ok (.invokevirtual 58, 3) := by decide +kernel
theorem d_108_69 : decode prog_3_method_4_code 69 = .ok (.ifCond .eq 21, 3) := by decide +kernel
theorem d_108_72 : decode prog_3_method_4_code 72 = .ok (.aload_n 1, 1) := by decide +kernel
theorem d_108_73 : decode prog_3_method_4_code 73 = .ok (.aload_n 0, 1) := by decide +kernel
theorem d_108_74 : decode prog_3_method_4_code 74 = .ok (.getfield 15, 3) := by decide +kernel
theorem d_108_77 : decode prog_3_method_4_code 77 = .ok (.getfield 55, 3) := by decide +kernel
theorem d_108_80 : decode prog_3_method_4_code 80 = .ok (.invokevirtual 62, 3) := by decide +kernel
theorem d_108_83 : decode prog_3_method_4_code 83 = .ok (.ifCond .ne 7, 3) := by decide +kernel
theorem d_108_86 : decode prog_3_method_4_code 86 = .ok (.iconst 1, 1) := by decide +kernel
theorem d_108_87 : decode prog_3_method_4_code 87 = .ok (.goto 4, 3) := by decide +kernel
theorem d_108_90 : decode prog_3_method_4_code 90 = .ok (.iconst 0, 1) := by decide +kernel
theorem d_108_91 : decode prog_3_method_4_code 91 = .ok (.ireturn, 1) := by decide +kernel
theorem d_108_92 : decode prog_3_method_4_code 92 = .ok (.aload_n 1, 1) := by decide +kernel
theorem d_108_93 : decode prog_3_method_4_code 93 = .ok (.aload_n 0, 1) := by decide +kernel
theorem d_108_94 : decode prog_3_method_4_code 94 = .ok (.getfield 15, 3) := by decide +kernel
theorem d_108_97 : decode prog_3_method_4_code 97 = .ok (.getfield 55, 3) := by decide +kernel
theorem d_108_100 : decode prog_3_method_4_code 100 = .ok (.invokevirtual 58, 3) := by decide +kernel
theorem d_108_103 : decode prog_3_method_4_code 103 = .ok (.ireturn, 1) := by decide +kernel
theorem d_108_104 : decode prog_3_method_4_code 104 = .ok (.iconst 1, 1) := by decide +kernel
theorem d_108_105 : decode prog_3_method_4_code 105 = .ok (.ireturn, 1) := by decide +kernel
set_option maxRecDepth 20000 in
theorem ok_108 : ∀ r ∈ tb_108, sm_ok 108 r := List.forall_mem_cons.mpr ⟨d_108_0, List.forall_mem_cons.mpr ⟨⟨d_108_1, Or.inl pf_127⟩, List.forall_mem_cons.mpr ⟨d_108_4, List.forall_mem_cons.mpr ⟨⟨d_108_5, Or.inl pf_128⟩, List.forall_mem_cons.mpr ⟨⟨d_108_8, Or.inl pf_129⟩, List.forall_mem_cons.mpr ⟨d_108_11, List.forall_mem_cons.mpr ⟨d_108_12, List.forall_mem_cons.mpr ⟨d_108_13, List.forall_mem_cons.mpr ⟨⟨d_108_14, Or.inl pf_128⟩, List.forall_mem_cons.mpr ⟨⟨d_108_17, Or.inl pf_130⟩, List.forall_mem_cons.mpr ⟨⟨⟨_, d_108_20⟩, by decide⟩, List.forall_mem_cons.mpr ⟨d_108_48, List.forall_mem_cons.mpr ⟨⟨d_108_49, Or.inl pf_128⟩, List.forall_mem_cons.mpr ⟨⟨d_108_52, Or.inl pf_132⟩, List.forall_mem_cons.mpr ⟨⟨d_108_55, (by decide)⟩, List.forall_mem_cons.mpr ⟨d_108_58, List.forall_mem_cons.mpr ⟨d_108_59, List.forall_mem_cons.mpr ⟨⟨d_108_60, Or.inl pf_128⟩, List.forall_mem_cons.mpr ⟨⟨d_108_63, Or.inl pf_132⟩, List.forall_mem_cons.mpr ⟨⟨d_108_66, ⟨mo_27, mi_27, se_27, pm_133⟩⟩, List.forall_mem_cons.mpr ⟨⟨d_108_69, (by decide)⟩, List.forall_mem_cons.mpr ⟨d_108_72, List.forall_mem_cons.mpr ⟨d_108_73, List.forall_mem_cons.mpr ⟨⟨d_108_74, Or.inl pf_128⟩, List.forall_mem_cons.mpr ⟨⟨d_108_77, Or.inl pf_132⟩, List.forall_mem_cons.mpr ⟨⟨d_108_80, ⟨mo_28, mi_28, se_28, pm_134⟩⟩, List.forall_mem_cons.mpr ⟨⟨d_108_83, (by decide)⟩, List.forall_mem_cons.mpr ⟨d_108_86, List.forall_mem_cons.mpr ⟨⟨d_108_87, (by decide)⟩, List.forall_mem_cons.mpr ⟨d_108_90, List.forall_mem_cons.mpr ⟨d_108_91, List.forall_mem_cons.mpr ⟨d_108_92, List.forall_mem_cons.mpr ⟨d_108_93, List.forall_mem_cons.mpr ⟨⟨d_108_94, Or.inl pf_128⟩, List.forall_mem_cons.mpr ⟨⟨d_108_97, Or.inl pf_132⟩, List.forall_mem_cons.mpr ⟨⟨d_108_100, ⟨mo_27, mi_27, se_27, pm_133⟩⟩, List.forall_mem_cons.mpr ⟨d_108_103, List.forall_mem_cons.mpr ⟨d_108_104, List.forall_mem_cons.mpr ⟨d_108_105, fun _ h => absurd h List.not_mem_nil⟩⟩⟩⟩⟩⟩⟩⟩⟩⟩⟩⟩⟩⟩⟩⟩⟩⟩⟩⟩⟩⟩⟩⟩⟩⟩⟩⟩⟩⟩⟩⟩⟩⟩⟩⟩⟩⟩⟩
theorem d_109_0 : decode prog_3_method_5_code 0 = .ok (.iconst 0, 1) := by decide +kernel
theorem d_109_1 : decode prog_3_method_5_code 1 = .ok (.istore_n 1, 1) := by decide +kernel
theorem d_109_2 : decode prog_3_method_5_code 2 = .ok (.iload_n 1, 1) := by decide +kernel
theorem d_109_3 : decode prog_3_method_5_code 3 = .ok (.aload_n 0, 1) := by decide +kernel
theorem d_109_4 : decode prog_3_method_5_code 4 = .ok (.getfield 19, 3) := by decide +kernel
theorem d_109_7 : decode prog_3_method_5_code 7 = .ok (.getfield 65, 3) := by decide +kernel
theorem d_109_10 : decode prog_3_method_5_code 10 = .ok (.if_icmp .ge 76, 3) := by decide +kernel
theorem d_109_13 : decode prog_3_method_5_code 13 = .ok (.aload_n 0, 1) := by decide +kernel
theorem d_109_14 : decode prog_3_method_5_code 14 = .ok (.getfield 19, 3) := by decide +kernel
theorem d_109_17 : decode prog_3_method_5_code 17 = .ok (.iload_n 1, 1) := by decide +kernel
theorem d_109_18 : decode prog_3_method_5_code 18 = .ok (.invokevirtual 70, 3) := by decide +kernel
theorem d_109_21 : decode prog_3_method_5_code 21 = .ok (.ifCond .eq 59, 3) := by decide +kernel
theorem d_109_24 : decode prog_3_method_5_code 24 = .ok (.aload_n 0, 1) := by decide +kernel
theorem d_109_25 : decode prog_3_method_5_code 25 = .ok (.getfield 15, 3) := by decide +kernel
theorem d_109_28 : decode prog_3_method_5_code 28 = .ok (.getfield 47, 3) := by decide +kernel
theorem d_109_31 : decode prog_3_method_5_code 31 = .ok (.bipush 6, 2) := by decide +kernel
theorem d_109_33 : decode prog_3_method_5_code 33 = .ok (.if_icmp .ne 7, 3) := by decide +kernel
theorem d_109_36 : decode prog_3_method_5_code 36 = .ok (.iconst (-1), 1) := by decide +kernel
theorem d_109_37 : decode prog_3_method_5_code 37 = .ok (.goto 25, 3) := by decide +kernel
theorem d_109_40 : decode prog_3_method_5_code 40 = .ok (.aload_n 0, 1) := by decide +kernel
theorem d_109_41 : decode prog_3_method_5_code 41 = .ok (.aload_n 0, 1) := by decide +kernel
theorem d_109_42 : decode prog_3_method_5_code 42 = .ok (.getfield 19, 3) := by decide +kernel
theorem d_109_45 : decode prog_3_method_5_code 45 = .ok (.getfield 73, 3) := by decide +kernel
theorem d_109_48 : decode prog_3_method_5_code 48 = .ok (.iload_n 1, 1) := by decide +kernel
theorem d_109_49 : decode prog_3_method_5_code 49 = .ok (.iaload, 1) := by decide +kernel
theorem d_109_50 : decode prog_3_method_5_code 50 = .ok (.aload_n 0, 1) := by decide +kernel
theorem d_109_51 : decode prog_3_method_5_code 51 = .ok (.getfield 19, 3) := by decide +kernel
theorem d_109_54 : decode prog_3_method_5_code 54 = .ok (.getfield 77, 3) := by decide +kernel
theorem d_109_57 : decode prog_3_method_5_code 57 = .ok (.iload_n 1, 1) := by decide +kernel
theorem d_109_58 : decode prog_3_method_5_code 58 = .ok (.iaload, 1) := by decide +kernel
theorem d_109_59 : decode prog_3_method_5_code 59 = .ok (.invokevirtual 80, 3) := by decide +kernel
theorem d_109_62 : decode prog_3_method_5_code 62 = .ok (.istore_n 2, 1) := by decide +kernel
theorem d_109_63 : decode prog_3_method_5_code 63 = .ok (.iload_n 2, 1) := by decide +kernel
theorem d_109_64 : decode prog_3_method_5_code 64 = .ok (.iconst (-1), 1) := by decide +kernel
theorem d_109_65 : decode prog_3_method_5_code 65 = .ok (.if_icmp .ne 5, 3) := by decide +kernel
theorem d_109_68 : decode prog_3_method_5_code 68 = .ok (.iconst 0, 1) := by decide +kernel
theorem d_109_69 : decode prog_3_method_5_code 69 = .ok (.ireturn, 1) := by decide +kernel
theorem d_109_70 : decode prog_3_method_5_code 70 = .ok (.aload_n 0, 1) := by decide +kernel
theorem d_109_71 : decode prog_3_method_5_code 71 = .ok (.getfield 19, 3) := by decide +kernel
theorem d_109_74 : decode prog_3_method_5_code 74 = .ok (.getfield 84, 3) := by decide +kernel
theorem d_109_77 : decode prog_3_method_5_code 77 = .ok (.iload_n 1, 1) := by decide +kernel
theorem d_109_78 : decode prog_3_method_5_code 78 = .ok (.iload_n 2, 1) := by decide +kernel
theorem d_109_79 : decode prog_3_method_5_code 79 = .ok (.iastore, 1) := by decide +kernel
theorem d_109_80 : decode prog_3_method_5_code 80 = .ok (.iinc 1 1, 3) := by decide +kernel
theorem d_109_83 : decode prog_3_method_5_code 83 = .ok (.goto (-81), 3) := by decide +kernel
theorem d_109_86 : decode prog_3_method_5_code 86 = .ok (.iconst 1, 1) := by decide +kernel
theorem d_109_87 : decode prog_3_method_5_code 87 = .ok (.ireturn, 1) := by decide +kernel
set_option maxRecDepth 20000 in
theorem ok_109 : ∀ r ∈ tb_109, sm_ok 109 r := List.forall_mem_cons.mpr ⟨d_109_0, List.forall_mem_cons.mpr ⟨d_109_1, List.forall_mem_cons.mpr ⟨d_109_2, List.forall_mem_cons.mpr ⟨d_109_3, List.forall_mem_cons.mpr ⟨⟨d_109_4, Or.inl pf_133⟩, List.forall_mem_cons.mpr ⟨⟨d_109_7, Or.inl pf_134⟩, List.forall_mem_cons.mpr ⟨⟨d_109_10, (by decide)⟩, List.forall_mem_cons.mpr ⟨d_109_13, List.forall_mem_cons.mpr ⟨⟨d_109_14, Or.inl pf_133⟩, List.forall_mem_cons.mpr ⟨d_109_17, List.forall_mem_cons.mpr ⟨⟨d_109_18, ⟨mo_48, mi_48, se_48, pm_135⟩⟩, List.forall_mem_cons.mpr ⟨⟨d_109_21, (by decide)⟩, List.forall_mem_cons.mpr ⟨d_109_24, List.forall_mem_cons.mpr ⟨⟨d_109_25, Or.inl pf_128⟩, List.forall_mem_cons.mpr ⟨⟨d_109_28, Or.inl pf_130⟩, List.forall_mem_cons.mpr ⟨d_109_31, List.forall_mem_cons.mpr ⟨⟨d_109_33, (by decide)⟩, List.forall_mem_cons.mpr ⟨d_109_36, List.forall_mem_cons.mpr ⟨⟨d_109_37, (by decide)⟩, List.forall_mem_cons.mpr ⟨d_109_40, List.forall_mem_cons.mpr ⟨d_109_41, List.forall_mem_cons.mpr ⟨⟨d_109_42, Or.inl pf_133⟩, List.forall_mem_cons.mpr ⟨⟨d_109_45, Or.inl pf_135⟩, List.forall_mem_cons.mpr ⟨d_109_48, List.forall_mem_cons.mpr ⟨d_109_49, List.forall_mem_cons.mpr ⟨d_109_50, List.forall_mem_cons.mpr ⟨⟨d_109_51, Or.inl pf_133⟩, List.forall_mem_cons.mpr ⟨⟨d_109_54, Or.inl pf_136⟩, List.forall_mem_cons.mpr ⟨d_109_57, List.forall_mem_cons.mpr ⟨d_109_58, List.forall_mem_cons.mpr ⟨⟨d_109_59, ⟨mo_110, mi_110, se_110, pm_136⟩⟩, List.forall_mem_cons.mpr ⟨d_109_62, List.forall_mem_cons.mpr ⟨d_109_63, List.forall_mem_cons.mpr ⟨d_109_64, List.forall_mem_cons.mpr ⟨⟨d_109_65, (by decide)⟩, List.forall_mem_cons.mpr ⟨d_109_68, List.forall_mem_cons.mpr ⟨d_109_69, List.forall_mem_cons.mpr ⟨d_109_70, List.forall_mem_cons.mpr ⟨⟨d_109_71, Or.inl pf_133⟩, List.forall_mem_cons.mpr ⟨⟨d_109_74, Or.inl pf_137⟩, List.forall_mem_cons.mpr ⟨d_109_77, List.forall_mem_cons.mpr ⟨d_109_78, List.forall_mem_cons.mpr ⟨d_109_79, List.forall_mem_cons.mpr ⟨d_109_80, List.forall_mem_cons.mpr ⟨⟨d_109_83, (by decide)⟩, List.forall_mem_cons.mpr ⟨d_109_86, List.forall_mem_cons.mpr ⟨d_109_87, fun _ h => absurd h List.not_mem_nil⟩⟩⟩⟩⟩⟩⟩⟩⟩⟩⟩⟩⟩⟩⟩⟩⟩⟩⟩⟩⟩⟩⟩⟩⟩⟩⟩⟩⟩⟩⟩⟩⟩⟩⟩⟩⟩⟩⟩⟩⟩⟩⟩⟩⟩⟩⟩
theorem d_110_0 : decode prog_3_method_6_code 0 = .ok (.aload_n 0, 1) := by decide +kernel
theorem d_110_1 : decode prog_3_method_6_code 1 = .ok (.aload_n 0, 1) := by decide +kernel
theorem d_110_2 : decode prog_3_method_6_code 2 = .ok (.getfield 15, 3) := by decide +kernel
theorem d_110_5 : decode prog_3_method_6_code 5 = .ok (.getfield 36, 3) := by decide +kernel
theorem d_110_8 : decode prog_3_method_6_code 8 = .ok (.iload_n 1, 1) := by decide +kernel
theorem d_110_9 : decode prog_3_method_6_code 9 = .ok (.iload_n 2, 1) := by decide +kernel
theorem d_110_10 : decode prog_3_method_6_code 10 = .ok (.invokevirtual 87, 3) := by decide +kernel
theorem d_110_13 : decode prog_3_method_6_code 13 = .ok (.istore_n 3, 1) := by decide +kernel
theorem d_110_14 : decode prog_3_method_6_code 14 = .ok (.aload_n 0, 1) := by decide +kernel
theorem d_110_15 : decode prog_3_method_6_code 15 = .ok (.aload_n 0, 1) := by decide +kernel
theorem d_110_16 : decode prog_3_method_6_code 16 = .ok (.getfield 15, 3) := by decide +kernel
theorem d_110_19 : decode prog_3_method_6_code 19 = .ok (.getfield 52, 3) := by decide +kernel
theorem d_110_22 : decode prog_3_method_6_code 22 = .ok (.iload_n 1, 1) := by decide +kernel
theorem d_110_23 : decode prog_3_method_6_code 23 = .ok (.iload_n 2, 1) := by decide +kernel
theorem d_110_24 : decode prog_3_method_6_code 24 = .ok (.invokevirtual 87, 3) := by decide +kernel
theorem d_110_27 : decode prog_3_method_6_code 27 = .ok (.istore 4, 2) := by decide +kernel
theorem d_110_29 : decode prog_3_method_6_code 29 = .ok (.iload_n 3, 1) := by decide +kernel
theorem d_110_30 : decode prog_3_method_6_code 30 = .ok (.iload 4, 2) := by decide +kernel
theorem d_110_32 : decode prog_3_method_6_code 32 = .ok (.if_icmp .ne 5, 3) := by decide +kernel
theorem d_110_35 : decode prog_3_method_6_code 35 = .ok (.iconst (-1), 1) := by decide +kernel
theorem d_110_36 : decode prog_3_method_6_code 36 = .ok (.ireturn, 1) := by decide +kernel
theorem d_110_37 : decode prog_3_method_6_code 37 = .ok (.iload_n 3, 1) := by decide +kernel
theorem d_110_38 : decode prog_3_method_6_code 38 = .ok (.ifCond .eq 7, 3) := by decide +kernel
theorem d_110_41 : decode prog_3_method_6_code 41 = .ok (.iconst 0, 1) := by decide +kernel
theorem d_110_42 : decode prog_3_method_6_code 42 = .ok (.goto 4, 3) := by decide +kernel
theorem d_110_45 : decode prog_3_method_6_code 45 = .ok (.iconst 1, 1) := by decide +kernel
theorem d_110_46 : decode prog_3_method_6_code 46 = .ok (.ireturn, 1) := by decide +kernel
set_option maxRecDepth 20000 in
theorem ok_110 : ∀ r ∈ tb_110, sm_ok 110 r := List.forall_mem_cons.mpr ⟨d_110_0, List.forall_mem_cons.mpr ⟨d_110_1, List.forall_mem_cons.mpr ⟨⟨d_110_2, Or.inl pf_128⟩, List.forall_mem_cons.mpr ⟨⟨d_110_5, Or.inl pf_129⟩, List.forall_mem_cons.mpr ⟨d_110_8, List.forall_mem_cons.mpr ⟨d_110_9, List.forall_mem_cons.mpr ⟨⟨d_110_10, ⟨mo_111, mi_111, se_111, pm_137⟩⟩, List.forall_mem_cons.mpr ⟨d_110_13, List.forall_mem_cons.mpr ⟨d_110_14, List.forall_mem_cons.mpr ⟨d_110_15, List.forall_mem_cons.mpr ⟨⟨d_110_16, Or.inl pf_128⟩, List.forall_mem_cons.mpr ⟨⟨d_110_19, Or.inl pf_131⟩, List.forall_mem_cons.mpr ⟨d_110_22, List.forall_mem_cons.mpr ⟨d_110_23, List.forall_mem_cons.mpr ⟨⟨d_110_24, ⟨mo_111, mi_111, se_111, pm_137⟩⟩, List.forall_mem_cons.mpr ⟨d_110_27, List.forall_mem_cons.mpr ⟨d_110_29, List.forall_mem_cons.mpr ⟨d_110_30, List.forall_mem_cons.mpr ⟨⟨d_110_32, (by decide)⟩, List.forall_mem_cons.mpr ⟨d_110_35, List.forall_mem_cons.mpr ⟨d_110_36, List.forall_mem_cons.mpr ⟨d_110_37, List.forall_mem_cons.mpr ⟨⟨d_110_38, (by decide)⟩, List.forall_mem_cons.mpr ⟨d_110_41, List.forall_mem_cons.mpr ⟨⟨d_110_42, (by decide)⟩, List.forall_mem_cons.mpr ⟨d_110_45, List.forall_mem_cons.mpr ⟨d_110_46, fun _ h => absurd h List.not_mem_nil⟩⟩⟩⟩⟩⟩⟩⟩⟩⟩⟩⟩⟩⟩⟩⟩⟩⟩⟩⟩⟩⟩⟩⟩⟩⟩⟩
theorem d_111_0 : decode prog_3_method_7_code 0 = .ok (.iload_n 1, 1) := by decide +kernel
theorem d_111_1 : decode prog_3_method_7_code 1 = .ok (.iconst (-1), 1) := by decide +kernel
theorem d_111_2 : decode prog_3_method_7_code 2 = .ok (.if_icmp .eq 30, 3) := by decide +kernel
theorem d_111_5 : decode prog_3_method_7_code 5 = .ok (.iload_n 2, 1) := by decide +kernel
theorem d_111_6 : decode prog_3_method_7_code 6 = .ok (.iconst (-1), 1) := by decide +kernel
theorem d_111_7 : decode prog_3_method_7_code 7 = .ok (.if_icmp .eq 8, 3) := by decide +kernel
theorem d_111_10 : decode prog_3_method_7_code 10 = .ok (.iload_n 2, 1) := by decide +kernel
theorem d_111_11 : decode prog_3_method_7_code 11 = .ok (.iload_n 1, 1) := by decide +kernel
theorem d_111_12 : decode prog_3_method_7_code 12 = .ok (.if_icmp .ne 20, 3) := by decide +kernel
theorem d_111_15 : decode prog_3_method_7_code 15 = .ok (.aload_n 0, 1) := by decide +kernel
theorem d_111_16 : decode prog_3_method_7_code 16 = .ok (.getfield 9, 3) := by decide +kernel
theorem d_111_19 : decode prog_3_method_7_code 19 = .ok (.iload_n 1, 1) := by decide +kernel
theorem d_111_20 : decode prog_3_method_7_code 20 = .ok (.aaload, 1) := by decide +kernel
theorem d_111_21 : decode prog_3_method_7_code 21 = .ok (.iload_n 3, 1) := by decide +kernel
theorem d_111_22 : decode prog_3_method_7_code 22 = .ok (.invokevirtual 58, 3) := by decide +kernel
theorem d_111_25 : decode prog_3_method_7_code 25 = .ok (.ifCond .eq 7, 3) := by decide +kernel
theorem d_111_28 : decode prog_3_method_7_code 28 = .ok (.iconst 1, 1) := by decide +kernel
theorem d_111_29 : decode prog_3_method_7_code 29 = .ok (.goto 4, 3) := by decide +kernel
theorem d_111_32 : decode prog_3_method_7_code 32 = .ok (.iconst 0, 1) := by decide +kernel
theorem d_111_33 : decode prog_3_method_7_code 33 = .ok (.ireturn, 1) := by decide +kernel
set_option maxRecDepth 20000 in
theorem ok_111 : ∀ r ∈ tb_111, sm_ok 111 r := List.forall_mem_cons.mpr ⟨d_111_0, List.forall_mem_cons.mpr ⟨d_111_1, List.forall_mem_cons.mpr ⟨⟨d_111_2, (by decide)⟩, List.forall_mem_cons.mpr ⟨d_111_5, List.forall_mem_cons.mpr ⟨d_111_6, List.forall_mem_cons.mpr ⟨⟨d_111_7, (by decide)⟩, List.forall_mem_cons.mpr ⟨d_111_10, List.forall_mem_cons.mpr ⟨d_111_11, List.forall_mem_cons.mpr ⟨⟨d_111_12, (by decide)⟩, List.forall_mem_cons.mpr ⟨d_111_15, List.forall_mem_cons.mpr ⟨⟨d_111_16, Or.inl pf_127⟩, List.forall_mem_cons.mpr ⟨d_111_19, List.forall_mem_cons.mpr ⟨d_111_20, List.forall_mem_cons.mpr ⟨d_111_21, List.forall_mem_cons.mpr ⟨⟨d_111_22, ⟨mo_27, mi_27, se_27, pm_133⟩⟩, List.forall_mem_cons.mpr ⟨⟨d_111_25, (by decide)⟩, List.forall_mem_cons.mpr ⟨d_111_28, List.forall_mem_cons.mpr ⟨⟨d_111_29, (by decide)⟩, List.forall_mem_cons.mpr ⟨d_111_32, List.forall_mem_cons.mpr ⟨d_111_33, fun _ h => absurd h List.not_mem_nil⟩⟩⟩⟩⟩⟩⟩⟩⟩⟩⟩⟩⟩⟩⟩⟩⟩⟩⟩⟩
theorem d_112_0 : decode prog_3_method_8_code 0 = .ok (.aload_n 0, 1) := by decide +kernel
theorem d_112_1 : decode prog_3_method_8_code 1 = .ok (.getfield 15, 3) := by decide +kernel
theorem d_112_4 : decode prog_3_method_8_code 4 = .ok (.getfield 47, 3) := by decide +kernel
theorem d_112_7 : decode prog_3_method_8_code 7 = .ok (.lookupswitch 84 #[(4, 25), (6, 53)], 25) := by decide +kernel
theorem d_112_32 : decode prog_3_method_8_code 32 = .ok (.aload_n 0, 1) := by decide +kernel
theorem d_112_33 : decode prog_3_method_8_code 33 = .ok (.getfield 15, 3) := by decide +kernel
theorem d_112_36 : decode prog_3_method_8_code 36 = .ok (.getfield 91, 3) := by decide +kernel
theorem d_112_39 : decode prog_3_method_8_code 39 = .ok (.iconst 1, 1) := by decide +kernel
theorem d_112_40 : decode prog_3_method_8_code 40 = .ok (.if_icmp .lt 18, 3) := by decide +kernel
theorem d_112_43 : decode prog_3_method_8_code 43 = .ok (.aload_n 0, 1) := by decide +kernel
theorem d_112_44 : decode prog_3_method_8_code 44 = .ok (.getfield 15, 3) := by decide +kernel
theorem d_112_47 : decode prog_3_method_8_code 47 = .ok (.getfield 91, 3) := by decide +kernel
theorem d_112_50 : decode prog_3_method_8_code 50 = .ok (.iconst 4, 1) := by decide +kernel
theorem d_112_51 : decode prog_3_method_8_code 51 = .ok (.if_icmp .gt 7, 3) := by decide +kernel
theorem d_112_54 : decode prog_3_method_8_code 54 = .ok (.iconst 1, 1) := by decide +kernel
theorem d_112_55 : decode prog_3_method_8_code 55 = .ok (.goto 4, 3) := by decide +kernel
theorem d_112_58 : decode prog_3_method_8_code 58 = .ok (.iconst 0, 1) := by decide +kernel
theorem d_112_59 : decode prog_3_method_8_code 59 = .ok (.ireturn, 1) := by decide +kernel
theorem d_112_60 : decode prog_3_method_8_code 60 = .ok (.aload_n 0, 1) := by decide +kernel
theorem d_112_61 : decode prog_3_method_8_code 61 = .ok (.getfield 15, 3) := by decide +kernel
theorem d_112_64 : decode prog_3_method_8_code 64 = .ok (.getfield 94, 3) := by decide +kernel
theorem d_112_67 : decode prog_3_method_8_code 67 = .ok (.aload_n 0, 1) := by decide +kernel
theorem d_112_68 : decode prog_3_method_8_code 68 = .ok (.getfield 9, 3) := by decide +kernel
theorem d_112_71 : decode prog_3_method_8_code 71 = .ok (.aload_n 0, 1) := by decide +kernel
theorem d_112_72 : decode prog_3_method_8_code 72 = .ok (.getfield 15, 3) := by decide +kernel
theorem d_112_75 : decode prog_3_method_8_code 75 = .ok (.getfield 36, 3) := by decide +kernel
theorem d_112_78 : decode prog_3_method_8_code 78 = .ok (.aaload, 1) := by decide +kernel
theorem d_112_79 : decode prog_3_method_8_code 79 = .ok (.getfield 97, 3) := by decide +kernel
theorem d_112_82 : decode prog_3_method_8_code 82 = .ok (.if_icmp .ne 7, 3) := by decide +kernel
theorem d_112_85 : decode prog_3_method_8_code 85 = .ok (.iconst 1, 1) := by decide +kernel
theorem d_112_86 : decode prog_3_method_8_code 86 = .ok (.goto 4, 3) := by decide +kernel
theorem d_112_89 : decode prog_3_method_8_code 89 = .ok (.iconst 0, 1) := by decide +kernel
theorem d_112_90 : decode prog_3_method_8_code 90 = .ok (.ireturn, 1) := by decide +kernel
theorem d_112_91 : decode prog_3_method_8_code 91 = .ok (.iconst 1, 1) := by decide +kernel
theorem d_112_92 : decode prog_3_method_8_code 92 = .ok (.ireturn, 1) := by decide +kernel
set_option maxRecDepth 20000 in
theorem ok_112 : ∀ r ∈ tb_112, sm_ok 112 r := List.forall_mem_cons.mpr ⟨d_112_0, List.forall_mem_cons.mpr ⟨⟨d_112_1, Or.inl pf_128⟩, List.forall_mem_cons.mpr ⟨⟨d_112_4, Or.inl pf_130⟩, List.forall_mem_cons.mpr ⟨⟨⟨_, d_112_7⟩, by decide⟩, List.forall_mem_cons.mpr ⟨d_112_32, List.forall_mem_cons.mpr ⟨⟨d_112_33, Or.inl pf_128⟩, List.forall_mem_cons.mpr ⟨⟨d_112_36, Or.inl pf_138⟩, List.forall_mem_cons.mpr ⟨d_112_39, List.forall_mem_cons.mpr ⟨⟨d_112_40, (by decide)⟩, List.forall_mem_cons.mpr ⟨d_112_43, List.forall_mem_cons.mpr ⟨⟨d_112_44, Or.inl pf_128⟩, List.forall_mem_cons.mpr ⟨⟨d_112_47, Or.inl pf_138⟩, List.forall_mem_cons.mpr ⟨d_112_50, List.forall_mem_cons.mpr ⟨⟨d_112_51, (by decide)⟩, List.forall_mem_cons.mpr ⟨d_112_54, List.forall_mem_cons.mpr ⟨⟨d_112_55, (by decide)⟩, List.forall_mem_cons.mpr ⟨d_112_58, List.forall_mem_cons.mpr ⟨d_112_59, List.forall_mem_cons.mpr ⟨d_112_60, List.forall_mem_cons.mpr ⟨⟨d_112_61, Or.inl pf_128⟩, List.forall_mem_cons.mpr ⟨⟨d_112_64, Or.inl pf_139⟩, List.forall_mem_cons.mpr ⟨d_112_67, List.forall_mem_cons.mpr ⟨⟨d_112_68, Or.inl pf_127⟩, List.forall_mem_cons.mpr ⟨d_112_71, List.forall_mem_cons.mpr ⟨⟨d_112_72, Or.inl pf_128⟩, List.forall_mem_cons.mpr ⟨⟨d_112_75, Or.inl pf_129⟩, List.forall_mem_cons.mpr ⟨d_112_78, List.forall_mem_cons.mpr ⟨⟨d_112_79, Or.inl pf_140⟩, List.forall_mem_cons.mpr ⟨⟨d_112_82, (by decide)⟩, List.forall_mem_cons.mpr ⟨d_112_85, List.forall_mem_cons.mpr ⟨⟨d_112_86, (by decide)⟩, List.forall_mem_cons.mpr ⟨d_112_89, List.forall_mem_cons.mpr ⟨d_112_90, List.forall_mem_cons.mpr ⟨d_112_91, List.forall_mem_cons.mpr ⟨d_112_92, fun _ h => absurd h List.not_mem_nil⟩⟩⟩⟩⟩⟩⟩⟩⟩⟩⟩⟩⟩⟩⟩⟩⟩⟩⟩⟩⟩⟩⟩⟩⟩⟩⟩⟩⟩⟩⟩⟩⟩⟩⟩
theorem d_113_0 : decode prog_2_method_1_code 0 = .ok (.aload_n 0, 1) := by decide +kernel
theorem d_113_1 : decode prog_2_method_1_code 1 = .ok (.invokespecial 3, 3) := by decide +kernel
theorem d_113_4 : decode prog_2_method_1_code 4 = .ok (.aload_n 0, 1) := by decide +kernel
theorem d_113_5 : decode prog_2_method_1_code 5 = .ok (.iconst 1, 1) := by decide +kernel
theorem d_113_6 : decode prog_2_method_1_code 6 = .ok (.putfield 11, 3) := by decide +kernel
theorem d_113_9 : decode prog_2_method_1_code 9 = .ok (.aload_n 0, 1) := by decide +kernel
theorem d_113_10 : decode prog_2_method_1_code 10 = .ok (.aload_n 1, 1) := by decide +kernel
theorem d_113_11 : decode prog_2_method_1_code 11 = .ok (.putfield 15, 3) := by decide +kernel
theorem d_113_14 : decode prog_2_method_1_code 14 = .ok (.aload_n 0, 1) := by decide +kernel
theorem d_113_15 : decode prog_2_method_1_code 15 = .ok (.aload_n 2, 1) := by decide +kernel
theorem d_113_16 : decode prog_2_method_1_code 16 = .ok (.putfield 19, 3) := by decide +kernel
theorem d_113_19 : decode prog_2_method_1_code 19 = .ok (.aload_n 0, 1) := by decide +kernel
theorem d_113_20 : decode prog_2_method_1_code 20 = .ok (.iload_n 3, 1) := by decide +kernel
theorem d_113_21 : decode prog_2_method_1_code 21 = .ok (.putfield 23, 3) := by decide +kernel
theorem d_113_24 : decode prog_2_method_1_code 24 = .ok (.aload_n 0, 1) := by decide +kernel
theorem d_113_25 : decode prog_2_method_1_code 25 = .ok (.iload 4, 2) := by decide +kernel
theorem d_113_27 : decode prog_2_method_1_code 27 = .ok (.putfield 26, 3) := by decide +kernel
theorem d_113_30 : decode prog_2_method_1_code 30 = .ok (.return_, 1) := by decide +kernel
set_option maxRecDepth 20000 in
theorem ok_113 : ∀ r ∈ tb_113, sm_ok 113 r := List.forall_mem_cons.mpr ⟨d_113_0, List.forall_mem_cons.mpr ⟨⟨d_113_1, (Or.inl ⟨rfl, wd_278, wd_34, wd_35⟩)⟩, List.forall_mem_cons.mpr ⟨d_113_4, List.forall_mem_cons.mpr ⟨d_113_5, List.forall_mem_cons.mpr ⟨⟨d_113_6, pf_141⟩, List.forall_mem_cons.mpr ⟨d_113_9, List.forall_mem_cons.mpr ⟨d_113_10, List.forall_mem_cons.mpr ⟨⟨d_113_11, pf_142 rfl⟩, List.forall_mem_cons.mpr ⟨d_113_14, List.forall_mem_cons.mpr ⟨d_113_15, List.forall_mem_cons.mpr ⟨⟨d_113_16, pf_143 rfl⟩, List.forall_mem_cons.mpr ⟨d_113_19, List.forall_mem_cons.mpr ⟨d_113_20, List.forall_mem_cons.mpr ⟨⟨d_113_21, pf_144 rfl⟩, List.forall_mem_cons.mpr ⟨d_113_24, List.forall_mem_cons.mpr ⟨d_113_25, List.forall_mem_cons.mpr ⟨⟨d_113_27, pf_145 rfl⟩, List.forall_mem_cons.mpr ⟨d_113_30, fun _ h => absurd h List.not_mem_nil⟩⟩⟩⟩⟩⟩⟩⟩⟩⟩⟩⟩⟩⟩⟩⟩⟩⟩
theorem d_114_0 : decode prog_2_method_2_code 0 = .ok (.aload_n 0, 1) := by decide +kernel
theorem d_114_1 : decode prog_2_method_2_code 1 = .ok (.iconst 1, 1) := by decide +kernel
theorem d_114_2 : decode prog_2_method_2_code 2 = .ok (.putfield 11, 3) := by decide +kernel
theorem d_114_5 : decode prog_2_method_2_code 5 = .ok (.iconst 0, 1) := by decide +kernel
theorem d_114_6 : decode prog_2_method_2_code 6 = .ok (.istore_n 2, 1) := by decide +kernel
theorem d_114_7 : decode prog_2_method_2_code 7 = .ok (.iload_n 2, 1) := by decide +kernel
theorem d_114_8 : decode prog_2_method_2_code 8 = .ok (.aload_n 0, 1) := by decide +kernel
theorem d_114_9 : decode prog_2_method_2_code 9 = .ok (.getfield 15, 3) := by decide +kernel
theorem d_114_12 : decode prog_2_method_2_code 12 = .ok (.getfield 29, 3) := by decide +kernel
theorem d_114_15 : decode prog_2_method_2_code 15 = .ok (.if_icmp .ge 100, 3) := by decide +kernel
theorem d_114_18 : decode prog_2_method_2_code 18 = .ok (.aload_n 0, 1) := by decide +kernel
theorem d_114_19 : decode prog_2_method_2_code 19 = .ok (.getfield 11, 3) := by decide +kernel
theorem d_114_22 : decode prog_2_method_2_code 22 = .ok (.iconst 3, 1) := by decide +kernel
theorem d_114_23 : decode prog_2_method_2_code 23 = .ok (.if_icmp .eq 92, 3) := by decide +kernel
theorem d_114_26 : decode prog_2_method_2_code 26 = .ok (.aload_n 0, 1) := by decide +kernel
theorem d_114_27 : decode prog_2_method_2_code 27 = .ok (.getfield 15, 3) := by decide +kernel
theorem d_114_30 : decode prog_2_method_2_code 30 = .ok (.getfield 34, 3) := by decide +kernel
theorem d_114_33 : decode prog_2_method_2_code 33 = .ok (.iload_n 2, 1) := by decide +kernel
theorem d_114_34 : decode prog_2_method_2_code 34 = .ok (.iaload, 1) := by decide +kernel
theorem d_114_35 : decode prog_2_method_2_code 35 = .ok (.istore_n 3, 1) := by decide +kernel
theorem d_114_36 : decode prog_2_method_2_code 36 = .ok (.iload_n 3, 1) := by decide +kernel
theorem d_114_37 : decode prog_2_method_2_code 37 = .ok (.iconst (-1), 1) := by decide +kernel
theorem d_114_38 : decode prog_2_method_2_code 38 = .ok (.if_icmp .eq 71, 3) := by decide +kernel
theorem d_114_41 : decode prog_2_method_2_code 41 = .ok (.aload_n 0, 1) := by decide +kernel
theorem d_114_42 : decode prog_2_method_2_code 42 = .ok (.getfield 15, 3) := by decide +kernel
theorem d_114_45 : decode prog_2_method_2_code 45 = .ok (.getfield 38, 3) := by decide +kernel
theorem d_114_48 : decode prog_2_method_2_code 48 = .ok (.iload_n 2, 1) := by decide +kernel
theorem d_114_49 : decode prog_2_method_2_code 49 = .ok (.iaload, 1) := by decide +kernel
theorem d_114_50 : decode prog_2_method_2_code 50 = .ok (.istore 4, 2) := by decide +kernel
theorem d_114_52 : decode prog_2_method_2_code 52 = .ok (.aload_n 0, 1) := by decide +kernel
theorem d_114_53 : decode prog_2_method_2_code 53 = .ok (.getfield 15, 3) := by decide +kernel
theorem d_114_56 : decode prog_2_method_2_code 56 = .ok (.getfield 41, 3) := by decide +kernel
theorem d_114_59 : decode prog_2_method_2_code 59 = .ok (.iload_n 2, 1) := by decide +kernel
theorem d_114_60 : decode prog_2_method_2_code 60 = .ok (.iaload, 1) := by decide +kernel
theorem d_114_61 : decode prog_2_method_2_code 61 = .ok (.iconst 1, 1) := by decide +kernel
theorem d_114_62 : decode prog_2_method_2_code 62 = .ok (.isub, 1) := by decide +kernel
theorem d_114_63 : decode prog_2_method_2_code 63 = .ok (.istore 5, 2) := by decide +kernel
theorem d_114_65 : decode prog_2_method_2_code 65 = .ok (.aload_n 0, 1) := by decide +kernel
theorem d_114_66 : decode prog_2_method_2_code 66 = .ok (.aload_n 1, 1) := by decide +kernel
theorem d_114_67 : decode prog_2_method_2_code 67 = .ok (.aload_n 0, 1) := by decide +kernel
theorem d_114_68 : decode prog_2_method_2_code 68 = .ok (.getfield 19, 3) := by decide +kernel
theorem d_114_71 : decode prog_2_method_2_code 71 = .ok (.iload 4, 2) := by decide +kernel
theorem d_114_73 : decode prog_2_method_2_code 73 = .ok (.iload_n 3, 1) := by decide +kernel
theorem d_114_74 : decode prog_2_method_2_code 74 = .ok (.aload_n 0, 1) := by decide +kernel
theorem d_114_75 : decode prog_2_method_2_code 75 = .ok (.getfield 23, 3) := by decide +kernel
theorem d_114_78 : decode prog_2_method_2_code 78 = .ok (.invokevirtual 44, 3) := by decide +kernel
theorem d_114_81 : decode prog_2_method_2_code 81 = .ok (.iload_n 3, 1) := by decide +kernel
theorem d_114_82 : decode prog_2_method_2_code 82 = .ok (.iload 5, 2) := by decide +kernel
theorem d_114_84 : decode prog_2_method_2_code 84 = .ok (.invokevirtual 50, 3) := by decide +kernel
theorem d_114_87 : decode prog_2_method_2_code 87 = .ok (.aload_n 0, 1) := by decide +kernel
theorem d_114_88 : decode prog_2_method_2_code 88 = .ok (.aload_n 1, 1) := by decide +kernel
theorem d_114_89 : decode prog_2_method_2_code 89 = .ok (.aload_n 0, 1) := by decide +kernel
theorem d_114_90 : decode prog_2_method_2_code 90 = .ok (.getfield 19, 3) := by decide +kernel
theorem d_114_93 : decode prog_2_method_2_code 93 = .ok (.iload_n 3, 1) := by decide +kernel
theorem d_114_94 : decode prog_2_method_2_code 94 = .ok (.iload 5, 2) := by decide +kernel
theorem d_114_96 : decode prog_2_method_2_code 96 = .ok (.aload_n 0, 1) := by decide +kernel
theorem d_114_97 : decode prog_2_method_2_code 97 = .ok (.getfield 23, 3) := by decide +kernel
theorem d_114_100 : decode prog_2_method_2_code 100 = .ok (.invokevirtual 44, 3) := by decide +kernel
theorem d_114_103 : decode prog_2_method_2_code 103 = .ok (.iload 4, 2) := by decide +kernel
theorem d_114_105 : decode prog_2_method_2_code 105 = .ok (.iload_n 3, 1) := by decide +kernel
theorem d_114_106 : decode prog_2_method_2_code 106 = .ok (.invokevirtual 50, 3) := by decide +kernel
theorem d_114_109 : decode prog_2_method_2_code 109 = .ok (.iinc 2 1, 3) := by decide +kernel
theorem d_114_112 : decode prog_2_method_2_code 112 = .ok (.goto (-105), 3) := by decide +kernel
theorem d_114_115 : decode prog_2_method_2_code 115 = .ok (.return_, 1) := by decide +kernel
set_option maxRecDepth 20000 in
theorem ok_114 : ∀ r ∈ tb_114, sm_ok 114 r := List.forall_mem_cons.mpr ⟨d_114_0, List.forall_mem_cons.mpr ⟨d_114_1, List.forall_mem_cons.mpr ⟨⟨d_114_2, pf_141⟩, List.forall_mem_cons.mpr ⟨d_114_5, List.forall_mem_cons.mpr ⟨d_114_6, List.forall_mem_cons.mpr ⟨d_114_7, List.forall_mem_cons.mpr ⟨d_114_8, List.forall_mem_cons.mpr ⟨⟨d_114_9, Or.inl pf_146⟩, List.forall_mem_cons.mpr ⟨⟨d_114_12, Or.inl pf_147⟩, List.forall_mem_cons.mpr ⟨⟨d_114_15, (by decide)⟩, List.forall_mem_cons.mpr ⟨d_114_18, List.forall_mem_cons.mpr ⟨⟨d_114_19, Or.inl pf_148⟩, List.forall_mem_cons.mpr ⟨d_114_22, List.forall_mem_cons.mpr ⟨⟨d_114_23, (by decide)⟩, List.forall_mem_cons.mpr ⟨d_114_26, List.forall_mem_cons.mpr ⟨⟨d_114_27, Or.inl pf_146⟩, List.forall_mem_cons.mpr ⟨⟨d_114_30, Or.inl pf_149⟩, List.forall_mem_cons.mpr ⟨d_114_33, List.forall_mem_cons.mpr ⟨d_114_34, List.forall_mem_cons.mpr ⟨d_114_35, List.forall_mem_cons.mpr ⟨d_114_36, List.forall_mem_cons.mpr ⟨d_114_37, List.forall_mem_cons.mpr ⟨⟨d_114_38, (by decide)⟩, List.forall_mem_cons.mpr ⟨d_114_41, List.forall_mem_cons.mpr ⟨⟨d_114_42, Or.inl pf_146⟩, List.forall_mem_cons.mpr ⟨⟨d_114_45, Or.inl pf_150⟩, List.forall_mem_cons.mpr ⟨d_114_48, List.forall_mem_cons.mpr ⟨d_114_49, List.forall_mem_cons.mpr ⟨d_114_50, List.forall_mem_cons.mpr ⟨d_114_52, List.forall_mem_cons.mpr ⟨⟨d_114_53, Or.inl pf_146⟩, List.forall_mem_cons.mpr ⟨⟨d_114_56, Or.inl pf_151⟩, List.forall_mem_cons.mpr ⟨d_114_59, List.forall_mem_cons.mpr ⟨d_114_60, List.forall_mem_cons.mpr ⟨d_114_61, List.forall_mem_cons.mpr ⟨d_114_62, List.forall_mem_cons.mpr ⟨d_114_63, List.forall_mem_cons.mpr ⟨d_114_65, List.forall_mem_cons.mpr ⟨d_114_66, List.forall_mem_cons.mpr ⟨d_114_67, List.forall_mem_cons.mpr ⟨⟨d_114_68, Or.inl pf_152⟩, List.forall_mem_cons.mpr ⟨d_114_71, List.forall_mem_cons.mpr ⟨d_114_73, List.forall_mem_cons.mpr ⟨d_114_74, List.forall_mem_cons.mpr ⟨⟨d_114_75, Or.inl pf_153⟩, List.forall_mem_cons.mpr ⟨⟨d_114_78, ⟨mo_50, mi_50, se_50, pm_138⟩⟩, List.forall_mem_cons.mpr ⟨d_114_81, List.forall_mem_cons.mpr ⟨d_114_82, List.forall_mem_cons.mpr ⟨⟨d_114_84, ⟨mo_115, mi_115, se_115, pm_139⟩⟩, List.forall_mem_cons.mpr ⟨d_114_87, List.forall_mem_cons.mpr ⟨d_114_88, List.forall_mem_cons.mpr ⟨d_114_89, List.forall_mem_cons.mpr ⟨⟨d_114_90, Or.inl pf_152⟩, List.forall_mem_cons.mpr ⟨d_114_93, List.forall_mem_cons.mpr ⟨d_114_94, List.forall_mem_cons.mpr ⟨d_114_96, List.forall_mem_cons.mpr ⟨⟨d_114_97, Or.inl pf_153⟩, List.forall_mem_cons.mpr ⟨⟨d_114_100, ⟨mo_50, mi_50, se_50, pm_138⟩⟩, List.forall_mem_cons.mpr ⟨d_114_103, List.forall_mem_cons.mpr ⟨d_114_105, List.forall_mem_cons.mpr ⟨⟨d_114_106, ⟨mo_115, mi_115, se_115, pm_139⟩⟩, List.forall_mem_cons.mpr ⟨d_114_109, List.forall_mem_cons.mpr ⟨⟨d_114_112, (by decide)⟩, List.forall_mem_cons.mpr ⟨d_114_115, fun _ h => absurd h List.not_mem_nil⟩⟩⟩⟩⟩⟩⟩⟩⟩⟩⟩⟩⟩⟩⟩⟩⟩⟩⟩⟩⟩⟩⟩⟩⟩⟩⟩⟩⟩⟩⟩⟩⟩⟩⟩⟩⟩⟩⟩⟩⟩⟩⟩⟩⟩⟩⟩⟩⟩⟩⟩⟩⟩⟩⟩⟩⟩⟩⟩⟩⟩⟩⟩⟩
