/-! DECODE ROWS, by program -/
theorem d_24_0 : decode prog_1_method_24_code 0 = .ok (.aload_n 0, 1) := by decide +kernel
theorem d_24_1 : decode prog_1_method_24_code 1 = .ok (.getfield 66, 3) := by decide +kernel
theorem d_24_4 : decode prog_1_method_24_code 4 = .ok (.getfield 221, 3) := by decide +kernel
theorem d_24_7 : decode prog_1_method_24_code 7 = .ok (.bipush 60, 2) := by decide +kernel
theorem d_24_9 : decode prog_1_method_24_code 9 = .ok (.if_icmp .le 5, 3) := by decide +kernel
theorem d_24_12 : decode prog_1_method_24_code 12 = .ok (.iconst 5, 1) := by decide +kernel
theorem d_24_13 : decode prog_1_method_24_code 13 = .ok (.ireturn, 1) := by decide +kernel
theorem d_24_14 : decode prog_1_method_24_code 14 = .ok (.aload_n 0, 1) := by decide +kernel
theorem d_24_15 : decode prog_1_method_24_code 15 = .ok (.aload_n 0, 1) := by decide +kernel
theorem d_24_16 : decode prog_1_method_24_code 16 = .ok (.getfield 66, 3) := by decide +kernel
theorem d_24_19 : decode prog_1_method_24_code 19 = .ok (.getfield 221, 3) := by decide +kernel
theorem d_24_22 : decode prog_1_method_24_code 22 = .ok (.aload_n 0, 1) := by decide +kernel
theorem d_24_23 : decode prog_1_method_24_code 23 = .ok (.getfield 23, 3) := by decide +kernel
theorem d_24_26 : decode prog_1_method_24_code 26 = .ok (.getfield 240, 3) := by decide +kernel
theorem d_24_29 : decode prog_1_method_24_code 29 = .ok (.invokestatic 243, 3) := by decide +kernel
theorem d_24_32 : decode prog_1_method_24_code 32 = .ok (.putfield 99, 3) := by decide +kernel
theorem d_24_35 : decode prog_1_method_24_code 35 = .ok (.aload_n 0, 1) := by decide +kernel
theorem d_24_36 : decode prog_1_method_24_code 36 = .ok (.aload_n 0, 1) := by decide +kernel
theorem d_24_37 : decode prog_1_method_24_code 37 = .ok (.getfield 23, 3) := by decide +kernel
theorem d_24_40 : decode prog_1_method_24_code 40 = .ok (.getfield 197, 3) := by decide +kernel
theorem d_24_43 : decode prog_1_method_24_code 43 = .ok (.putfield 102, 3) := by decide +kernel
theorem d_24_46 : decode prog_1_method_24_code 46 = .ok (.iconst 0, 1) := by decide +kernel
theorem d_24_47 : decode prog_1_method_24_code 47 = .ok (.istore_n 1, 1) := by decide +kernel
theorem d_24_48 : decode prog_1_method_24_code 48 = .ok (.iload_n 1, 1) := by decide +kernel
theorem d_24_49 : decode prog_1_method_24_code 49 = .ok (.aload_n 0, 1) := by decide +kernel
theorem d_24_50 : decode prog_1_method_24_code 50 = .ok (.getfield 99, 3) := by decide +kernel
theorem d_24_53 : decode prog_1_method_24_code 53 = .ok (.if_icmp .ge 75, 3) := by decide +kernel
theorem d_24_56 : decode prog_1_method_24_code 56 = .ok (.aload_n 0, 1) := by decide +kernel
theorem d_24_57 : decode prog_1_method_24_code 57 = .ok (.getfield 66, 3) := by decide +kernel
theorem d_24_60 : decode prog_1_method_24_code 60 = .ok (.iload_n 1, 1) := by decide +kernel
theorem d_24_61 : decode prog_1_method_24_code 61 = .ok (.invokevirtual 224, 3) := by decide +kernel
theorem d_24_64 : decode prog_1_method_24_code 64 = .ok (.iconst 0, 1) := by decide +kernel
theorem d_24_65 : decode prog_1_method_24_code 65 = .ok (.istore_n 2, 1) := by decide +kernel
theorem d_24_66 : decode prog_1_method_24_code 66 = .ok (.iload_n 2, 1) := by decide +kernel
theorem d_24_67 : decode prog_1_method_24_code 67 = .ok (.aload_n 0, 1) := by decide +kernel
theorem d_24_68 : decode prog_1_method_24_code 68 = .ok (.getfield 102, 3) := by decide +kernel
theorem d_24_71 : decode prog_1_method_24_code 71 = .ok (.if_icmp .ge 51, 3) := by decide +kernel
theorem d_24_74 : decode prog_1_method_24_code 74 = .ok (.iload_n 2, 1) := by decide +kernel
theorem d_24_75 : decode prog_1_method_24_code 75 = .ok (.iconst 3, 1) := by decide +kernel
theorem d_24_76 : decode prog_1_method_24_code 76 = .ok (.if_icmp .ge 46, 3) := by decide +kernel
theorem d_24_79 : decode prog_1_method_24_code 79 = .ok (.aload_n 0, 1) := by decide +kernel
theorem d_24_80 : decode prog_1_method_24_code 80 = .ok (.getfield 70, 3) := by decide +kernel
theorem d_24_83 : decode prog_1_method_24_code 83 = .ok (.iload_n 1, 1) := by decide +kernel
theorem d_24_84 : decode prog_1_method_24_code 84 = .ok (.iconst 3, 1) := by decide +kernel
theorem d_24_85 : decode prog_1_method_24_code 85 = .ok (.imul, 1) := by decide +kernel
theorem d_24_86 : decode prog_1_method_24_code 86 = .ok (.iload_n 2, 1) := by decide +kernel
theorem d_24_87 : decode prog_1_method_24_code 87 = .ok (.iadd, 1) := by decide +kernel
theorem d_24_88 : decode prog_1_method_24_code 88 = .ok (.aload_n 0, 1) := by decide +kernel
theorem d_24_89 : decode prog_1_method_24_code 89 = .ok (.getfield 30, 3) := by decide +kernel
theorem d_24_92 : decode prog_1_method_24_code 92 = .ok (.aload_n 0, 1) := by decide +kernel
theorem d_24_93 : decode prog_1_method_24_code 93 = .ok (.getfield 23, 3) := by decide +kernel
theorem d_24_96 : decode prog_1_method_24_code 96 = .ok (.iload_n 2, 1) := by decide +kernel
theorem d_24_97 : decode prog_1_method_24_code 97 = .ok (.invokevirtual 200, 3) := by decide +kernel
theorem d_24_100 : decode prog_1_method_24_code 100 = .ok (.aload_n 0, 1) := by decide +kernel
theorem d_24_101 : decode prog_1_method_24_code 101 = .ok (.getfield 23, 3) := by decide +kernel
theorem d_24_104 : decode prog_1_method_24_code 104 = .ok (.iload_n 2, 1) := by decide +kernel
theorem d_24_105 : decode prog_1_method_24_code 105 = .ok (.invokevirtual 204, 3) := by decide +kernel
theorem d_24_108 : decode prog_1_method_24_code 108 = .ok (.aload_n 0, 1) := by decide +kernel
theorem d_24_109 : decode prog_1_method_24_code 109 = .ok (.getfield 39, 3) := by decide +kernel
theorem d_24_112 : decode prog_1_method_24_code 112 = .ok (.invokevirtual 207, 3) := by decide +kernel
theorem d_24_115 : decode prog_1_method_24_code 115 = .ok (.lastore, 1) := by decide +kernel
theorem d_24_116 : decode prog_1_method_24_code 116 = .ok (.iinc 2 1, 3) := by decide +kernel
theorem d_24_119 : decode prog_1_method_24_code 119 = .ok (.goto (-53), 3) := by decide +kernel
theorem d_24_122 : decode prog_1_method_24_code 122 = .ok (.iinc 1 1, 3) := by decide +kernel
theorem d_24_125 : decode prog_1_method_24_code 125 = .ok (.goto (-77), 3) := by decide +kernel
theorem d_24_128 : decode prog_1_method_24_code 128 = .ok (.iconst 0, 1) := by decide +kernel
theorem d_24_129 : decode prog_1_method_24_code 129 = .ok (.ireturn, 1) := by decide +kernel
set_option maxRecDepth 20000 in
theorem ok_24 : ∀ r ∈ tb_24, sm_ok 24 r := List.forall_mem_cons.mpr ⟨d_24_0, List.forall_mem_cons.mpr ⟨⟨d_24_1, Or.inl pf_32⟩, List.forall_mem_cons.mpr ⟨⟨d_24_4, Or.inl pf_39⟩, List.forall_mem_cons.mpr ⟨d_24_7, List.forall_mem_cons.mpr ⟨⟨d_24_9, (by decide)⟩, List.forall_mem_cons.mpr ⟨d_24_12, List.forall_mem_cons.mpr ⟨d_24_13, List.forall_mem_cons.mpr ⟨d_24_14, List.forall_mem_cons.mpr ⟨d_24_15, List.forall_mem_cons.mpr ⟨⟨d_24_16, Or.inl pf_32⟩, List.forall_mem_cons.mpr ⟨⟨d_24_19, Or.inl pf_39⟩, List.forall_mem_cons.mpr ⟨d_24_22, List.forall_mem_cons.mpr ⟨⟨d_24_23, Or.inl pf_6⟩, List.forall_mem_cons.mpr ⟨⟨d_24_26, Or.inl pf_40⟩, List.forall_mem_cons.mpr ⟨⟨d_24_29, (Or.inr ((Or.inr (Or.inl ⟨rfl, wd_114, wd_115, wd_116, wd_117⟩))))⟩, List.forall_mem_cons.mpr ⟨⟨d_24_32, pf_25⟩, List.forall_mem_cons.mpr ⟨d_24_35, List.forall_mem_cons.mpr ⟨d_24_36, List.forall_mem_cons.mpr ⟨⟨d_24_37, Or.inl pf_6⟩, List.forall_mem_cons.mpr ⟨⟨d_24_40, Or.inl pf_37⟩, List.forall_mem_cons.mpr ⟨⟨d_24_43, pf_26⟩, List.forall_mem_cons.mpr ⟨d_24_46, List.forall_mem_cons.mpr ⟨d_24_47, List.forall_mem_cons.mpr ⟨d_24_48, List.forall_mem_cons.mpr ⟨d_24_49, List.forall_mem_cons.mpr ⟨⟨d_24_50, Or.inl pf_18⟩, List.forall_mem_cons.mpr ⟨⟨d_24_53, (by decide)⟩, List.forall_mem_cons.mpr ⟨d_24_56, List.forall_mem_cons.mpr ⟨⟨d_24_57, Or.inl pf_32⟩, List.forall_mem_cons.mpr ⟨d_24_60, List.forall_mem_cons.mpr ⟨⟨d_24_61, ⟨mo_130, mi_130, se_130, pm_65⟩⟩, List.forall_mem_cons.mpr ⟨d_24_64, List.forall_mem_cons.mpr ⟨d_24_65, List.forall_mem_cons.mpr ⟨d_24_66, List.forall_mem_cons.mpr ⟨d_24_67, List.forall_mem_cons.mpr ⟨⟨d_24_68, Or.inl pf_19⟩, List.forall_mem_cons.mpr ⟨⟨d_24_71, (by decide)⟩, List.forall_mem_cons.mpr ⟨d_24_74, List.forall_mem_cons.mpr ⟨d_24_75, List.forall_mem_cons.mpr ⟨⟨d_24_76, (by decide)⟩, List.forall_mem_cons.mpr ⟨d_24_79, List.forall_mem_cons.mpr ⟨⟨d_24_80, Or.inl pf_20⟩, List.forall_mem_cons.mpr ⟨d_24_83, List.forall_mem_cons.mpr ⟨d_24_84, List.forall_mem_cons.mpr ⟨d_24_85, List.forall_mem_cons.mpr ⟨d_24_86, List.forall_mem_cons.mpr ⟨d_24_87, List.forall_mem_cons.mpr ⟨d_24_88, List.forall_mem_cons.mpr ⟨⟨d_24_89, Or.inl pf_7⟩, List.forall_mem_cons.mpr ⟨d_24_92, List.forall_mem_cons.mpr ⟨⟨d_24_93, Or.inl pf_6⟩, List.forall_mem_cons.mpr ⟨d_24_96, List.forall_mem_cons.mpr ⟨⟨d_24_97, ⟨mo_61, mi_61, se_61, pm_60⟩⟩, List.forall_mem_cons.mpr ⟨d_24_100, List.forall_mem_cons.mpr ⟨⟨d_24_101, Or.inl pf_6⟩, List.forall_mem_cons.mpr ⟨d_24_104, List.forall_mem_cons.mpr ⟨⟨d_24_105, ⟨mo_62, mi_62, se_62, pm_61⟩⟩, List.forall_mem_cons.mpr ⟨d_24_108, List.forall_mem_cons.mpr ⟨⟨d_24_109, Or.inl pf_10⟩, List.forall_mem_cons.mpr ⟨⟨d_24_112, ⟨mo_51, mi_51, se_51, pm_62⟩⟩, List.forall_mem_cons.mpr ⟨d_24_115, List.forall_mem_cons.mpr ⟨d_24_116, List.forall_mem_cons.mpr ⟨⟨d_24_119, (by decide)⟩, List.forall_mem_cons.mpr ⟨d_24_122, List.forall_mem_cons.mpr ⟨⟨d_24_125, (by decide)⟩, List.forall_mem_cons.mpr ⟨d_24_128, List.forall_mem_cons.mpr ⟨d_24_129, fun _ h => absurd h List.not_mem_nil⟩⟩⟩⟩⟩⟩⟩⟩⟩⟩⟩⟩⟩⟩⟩⟩⟩⟩⟩⟩⟩⟩⟩⟩⟩⟩⟩⟩⟩⟩⟩⟩⟩⟩⟩⟩⟩⟩⟩⟩⟩⟩⟩⟩⟩⟩⟩⟩⟩⟩⟩⟩⟩⟩⟩⟩⟩⟩⟩⟩⟩⟩⟩⟩⟩⟩⟩
theorem d_25_0 : decode prog_9_method_1_code 0 = .ok (.aload_n 0, 1) := by decide +kernel
theorem d_25_1 : decode prog_9_method_1_code 1 = .ok (.invokespecial 3, 3) := by decide +kernel
theorem d_25_4 : decode prog_9_method_1_code 4 = .ok (.aload_n 0, 1) := by decide +kernel
theorem d_25_5 : decode prog_9_method_1_code 5 = .ok (.bipush 80, 2) := by decide +kernel
theorem d_25_7 : decode prog_9_method_1_code 7 = .ok (.newarray .long, 2) := by decide +kernel
theorem d_25_9 : decode prog_9_method_1_code 9 = .ok (.putfield 9, 3) := by decide +kernel
theorem d_25_12 : decode prog_9_method_1_code 12 = .ok (.aload_n 0, 1) := by decide +kernel
theorem d_25_13 : decode prog_9_method_1_code 13 = .ok (.iconst 4, 1) := by decide +kernel
theorem d_25_14 : decode prog_9_method_1_code 14 = .ok (.newarray .boolean, 2) := by decide +kernel
theorem d_25_16 : decode prog_9_method_1_code 16 = .ok (.putfield 15, 3) := by decide +kernel
theorem d_25_19 : decode prog_9_method_1_code 19 = .ok (.return_, 1) := by decide +kernel
set_option maxRecDepth 20000 in
theorem ok_25 : ∀ r ∈ tb_25, sm_ok 25 r := List.forall_mem_cons.mpr ⟨d_25_0, List.forall_mem_cons.mpr ⟨⟨d_25_1, (Or.inl ⟨rfl, wd_118, wd_34, wd_35⟩)⟩, List.forall_mem_cons.mpr ⟨d_25_4, List.forall_mem_cons.mpr ⟨d_25_5, List.forall_mem_cons.mpr ⟨⟨d_25_7, ⟨wd_60, Or.inr (Or.inl ⟨rfl, rfl⟩)⟩⟩, List.forall_mem_cons.mpr ⟨⟨d_25_9, pf_41 rfl⟩, List.forall_mem_cons.mpr ⟨d_25_12, List.forall_mem_cons.mpr ⟨d_25_13, List.forall_mem_cons.mpr ⟨⟨d_25_14, ⟨wd_120, Or.inr (Or.inr (Or.inr ⟨rfl, rfl⟩))⟩⟩, List.forall_mem_cons.mpr ⟨⟨d_25_16, pf_42 rfl⟩, List.forall_mem_cons.mpr ⟨d_25_19, fun _ h => absurd h List.not_mem_nil⟩⟩⟩⟩⟩⟩⟩⟩⟩⟩⟩
theorem d_26_0 : decode prog_9_method_2_code 0 = .ok (.aload_n 0, 1) := by decide +kernel
theorem d_26_1 : decode prog_9_method_2_code 1 = .ok (.getfield 19, 3) := by decide +kernel
theorem d_26_4 : decode prog_9_method_2_code 4 = .ok (.ifCond .le 7, 3) := by decide +kernel
theorem d_26_7 : decode prog_9_method_2_code 7 = .ok (.iconst 1, 1) := by decide +kernel
theorem d_26_8 : decode prog_9_method_2_code 8 = .ok (.goto 4, 3) := by decide +kernel
theorem d_26_11 : decode prog_9_method_2_code 11 = .ok (.iconst 0, 1) := by decide +kernel
theorem d_26_12 : decode prog_9_method_2_code 12 = .ok (.ireturn, 1) := by decide +kernel
set_option maxRecDepth 20000 in
theorem ok_26 : ∀ r ∈ tb_26, sm_ok 26 r := List.forall_mem_cons.mpr ⟨d_26_0, List.forall_mem_cons.mpr ⟨⟨d_26_1, Or.inl pf_43⟩, List.forall_mem_cons.mpr ⟨⟨d_26_4, (by decide)⟩, List.forall_mem_cons.mpr ⟨d_26_7, List.forall_mem_cons.mpr ⟨⟨d_26_8, (by decide)⟩, List.forall_mem_cons.mpr ⟨d_26_11, List.forall_mem_cons.mpr ⟨d_26_12, fun _ h => absurd h List.not_mem_nil⟩⟩⟩⟩⟩⟩⟩
theorem d_27_0 : decode prog_9_method_3_code 0 = .ok (.iload_n 1, 1) := by decide +kernel
theorem d_27_1 : decode prog_9_method_3_code 1 = .ok (.ifCond .lt 15, 3) := by decide +kernel
theorem d_27_4 : decode prog_9_method_3_code 4 = .ok (.iload_n 1, 1) := by decide +kernel
theorem d_27_5 : decode prog_9_method_3_code 5 = .ok (.aload_n 0, 1) := by decide +kernel
theorem d_27_6 : decode prog_9_method_3_code 6 = .ok (.getfield 19, 3) := by decide +kernel
theorem d_27_9 : decode prog_9_method_3_code 9 = .ok (.if_icmp .ge 7, 3) := by decide +kernel
theorem d_27_12 : decode prog_9_method_3_code 12 = .ok (.iconst 1, 1) := by decide +kernel
theorem d_27_13 : decode prog_9_method_3_code 13 = .ok (.goto 4, 3) := by decide +kernel
theorem d_27_16 : decode prog_9_method_3_code 16 = .ok (.iconst 0, 1) := by decide +kernel
theorem d_27_17 : decode prog_9_method_3_code 17 = .ok (.ireturn, 1) := by decide +kernel
set_option maxRecDepth 20000 in
theorem ok_27 : ∀ r ∈ tb_27, sm_ok 27 r := List.forall_mem_cons.mpr ⟨d_27_0, List.forall_mem_cons.mpr ⟨⟨d_27_1, (by decide)⟩, List.forall_mem_cons.mpr ⟨d_27_4, List.forall_mem_cons.mpr ⟨d_27_5, List.forall_mem_cons.mpr ⟨⟨d_27_6, Or.inl pf_43⟩, List.forall_mem_cons.mpr ⟨⟨d_27_9, (by decide)⟩, List.forall_mem_cons.mpr ⟨d_27_12, List.forall_mem_cons.mpr ⟨⟨d_27_13, (by decide)⟩, List.forall_mem_cons.mpr ⟨d_27_16, List.forall_mem_cons.mpr ⟨d_27_17, fun _ h => absurd h List.not_mem_nil⟩⟩⟩⟩⟩⟩⟩⟩⟩⟩
theorem d_28_0 : decode prog_9_method_4_code 0 = .ok (.aload_n 0, 1) := by decide +kernel
theorem d_28_1 : decode prog_9_method_4_code 1 = .ok (.iload_n 1, 1) := by decide +kernel
theorem d_28_2 : decode prog_9_method_4_code 2 = .ok (.invokevirtual 23, 3) := by decide +kernel
theorem d_28_5 : decode prog_9_method_4_code 5 = .ok (.ifCond .eq 16, 3) := by decide +kernel
theorem d_28_8 : decode prog_9_method_4_code 8 = .ok (.aload_n 0, 1) := by decide +kernel
theorem d_28_9 : decode prog_9_method_4_code 9 = .ok (.getfield 15, 3) := by decide +kernel
theorem d_28_12 : decode prog_9_method_4_code 12 = .ok (.iload_n 1, 1) := by decide +kernel
theorem d_28_13 : decode prog_9_method_4_code 13 = .ok (.baload, 1) := by decide +kernel
theorem d_28_14 : decode prog_9_method_4_code 14 = .ok (.ifCond .eq 7, 3) := by decide +kernel
theorem d_28_17 : decode prog_9_method_4_code 17 = .ok (.iconst 1, 1) := by decide +kernel
theorem d_28_18 : decode prog_9_method_4_code 18 = .ok (.goto 4, 3) := by decide +kernel
theorem d_28_21 : decode prog_9_method_4_code 21 = .ok (.iconst 0, 1) := by decide +kernel
theorem d_28_22 : decode prog_9_method_4_code 22 = .ok (.ireturn, 1) := by decide +kernel
set_option maxRecDepth 20000 in
theorem ok_28 : ∀ r ∈ tb_28, sm_ok 28 r := List.forall_mem_cons.mpr ⟨d_28_0, List.forall_mem_cons.mpr ⟨d_28_1, List.forall_mem_cons.mpr ⟨⟨d_28_2, ⟨mo_27, mi_27, se_27, pm_70⟩⟩, List.forall_mem_cons.mpr ⟨⟨d_28_5, (by decide)⟩, List.forall_mem_cons.mpr ⟨d_28_8, List.forall_mem_cons.mpr ⟨⟨d_28_9, Or.inl pf_44⟩, List.forall_mem_cons.mpr ⟨d_28_12, List.forall_mem_cons.mpr ⟨d_28_13, List.forall_mem_cons.mpr ⟨⟨d_28_14, (by decide)⟩, List.forall_mem_cons.mpr ⟨d_28_17, List.forall_mem_cons.mpr ⟨⟨d_28_18, (by decide)⟩, List.forall_mem_cons.mpr ⟨d_28_21, List.forall_mem_cons.mpr ⟨d_28_22, fun _ h => absurd h List.not_mem_nil⟩⟩⟩⟩⟩⟩⟩⟩⟩⟩⟩⟩⟩
theorem d_29_0 : decode prog_9_method_5_code 0 = .ok (.iload_n 1, 1) := by decide +kernel
theorem d_29_1 : decode prog_9_method_5_code 1 = .ok (.ifCond .lt 27, 3) := by decide +kernel
theorem d_29_4 : decode prog_9_method_5_code 4 = .ok (.iload_n 1, 1) := by decide +kernel
theorem d_29_5 : decode prog_9_method_5_code 5 = .ok (.aload_n 0, 1) := by decide +kernel
theorem d_29_6 : decode prog_9_method_5_code 6 = .ok (.getfield 27, 3) := by decide +kernel
theorem d_29_9 : decode prog_9_method_5_code 9 = .ok (.if_icmp .ge 19, 3) := by decide +kernel
theorem d_29_12 : decode prog_9_method_5_code 12 = .ok (.iload_n 2, 1) := by decide +kernel
theorem d_29_13 : decode prog_9_method_5_code 13 = .ok (.ifCond .lt 15, 3) := by decide +kernel
theorem d_29_16 : decode prog_9_method_5_code 16 = .ok (.iload_n 2, 1) := by decide +kernel
theorem d_29_17 : decode prog_9_method_5_code 17 = .ok (.aload_n 0, 1) := by decide +kernel
theorem d_29_18 : decode prog_9_method_5_code 18 = .ok (.getfield 19, 3) := by decide +kernel
theorem d_29_21 : decode prog_9_method_5_code 21 = .ok (.if_icmp .ge 7, 3) := by decide +kernel
theorem d_29_24 : decode prog_9_method_5_code 24 = .ok (.iconst 1, 1) := by decide +kernel
theorem d_29_25 : decode prog_9_method_5_code 25 = .ok (.goto 4, 3) := by decide +kernel
theorem d_29_28 : decode prog_9_method_5_code 28 = .ok (.iconst 0, 1) := by decide +kernel
theorem d_29_29 : decode prog_9_method_5_code 29 = .ok (.istore_n 3, 1) := by decide +kernel
theorem d_29_30 : decode prog_9_method_5_code 30 = .ok (.iload_n 3, 1) := by decide +kernel
theorem d_29_31 : decode prog_9_method_5_code 31 = .ok (.ifCond .eq 16, 3) := by decide +kernel
theorem d_29_34 : decode prog_9_method_5_code 34 = .ok (.aload_n 0, 1) := by decide +kernel
theorem d_29_35 : decode prog_9_method_5_code 35 = .ok (.getfield 9, 3) := by decide +kernel
theorem d_29_38 : decode prog_9_method_5_code 38 = .ok (.iload_n 1, 1) := by decide +kernel
theorem d_29_39 : decode prog_9_method_5_code 39 = .ok (.iconst 4, 1) := by decide +kernel
theorem d_29_40 : decode prog_9_method_5_code 40 = .ok (.imul, 1) := by decide +kernel
theorem d_29_41 : decode prog_9_method_5_code 41 = .ok (.iload_n 2, 1) := by decide +kernel
theorem d_29_42 : decode prog_9_method_5_code 42 = .ok (.iadd, 1) := by decide +kernel
theorem d_29_43 : decode prog_9_method_5_code 43 = .ok (.laload, 1) := by decide +kernel
theorem d_29_44 : decode prog_9_method_5_code 44 = .ok (.goto 6, 3) := by decide +kernel
theorem d_29_47 : decode prog_9_method_5_code 47 = .ok (.ldc2_w 30, 3) := by decide +kernel
theorem d_29_50 : decode prog_9_method_5_code 50 = .ok (.lreturn, 1) := by decide +kernel
set_option maxRecDepth 20000 in
theorem ok_29 : ∀ r ∈ tb_29, sm_ok 29 r := List.forall_mem_cons.mpr ⟨d_29_0, List.forall_mem_cons.mpr ⟨⟨d_29_1, (by decide)⟩, List.forall_mem_cons.mpr ⟨d_29_4, List.forall_mem_cons.mpr ⟨d_29_5, List.forall_mem_cons.mpr ⟨⟨d_29_6, Or.inl pf_45⟩, List.forall_mem_cons.mpr ⟨⟨d_29_9, (by decide)⟩, List.forall_mem_cons.mpr ⟨d_29_12, List.forall_mem_cons.mpr ⟨⟨d_29_13, (by decide)⟩, List.forall_mem_cons.mpr ⟨d_29_16, List.forall_mem_cons.mpr ⟨d_29_17, List.forall_mem_cons.mpr ⟨⟨d_29_18, Or.inl pf_43⟩, List.forall_mem_cons.mpr ⟨⟨d_29_21, (by decide)⟩, List.forall_mem_cons.mpr ⟨d_29_24, List.forall_mem_cons.mpr ⟨⟨d_29_25, (by decide)⟩, List.forall_mem_cons.mpr ⟨d_29_28, List.forall_mem_cons.mpr ⟨d_29_29, List.forall_mem_cons.mpr ⟨d_29_30, List.forall_mem_cons.mpr ⟨⟨d_29_31, (by decide)⟩, List.forall_mem_cons.mpr ⟨d_29_34, List.forall_mem_cons.mpr ⟨⟨d_29_35, Or.inl pf_46⟩, List.forall_mem_cons.mpr ⟨d_29_38, List.forall_mem_cons.mpr ⟨d_29_39, List.forall_mem_cons.mpr ⟨d_29_40, List.forall_mem_cons.mpr ⟨d_29_41, List.forall_mem_cons.mpr ⟨d_29_42, List.forall_mem_cons.mpr ⟨d_29_43, List.forall_mem_cons.mpr ⟨⟨d_29_44, (by decide)⟩, List.forall_mem_cons.mpr ⟨⟨d_29_47, (fun _ h => Option.some.inj h ▸ wd_125)⟩, List.forall_mem_cons.mpr ⟨d_29_50, fun _ h => absurd h List.not_mem_nil⟩⟩⟩⟩⟩⟩⟩⟩⟩⟩⟩⟩⟩⟩⟩⟩⟩⟩⟩⟩⟩⟩⟩⟩⟩⟩⟩⟩⟩
theorem d_30_0 : decode prog_9_method_6_code 0 = .ok (.iconst 0, 1) := by decide +kernel
theorem d_30_1 : decode prog_9_method_6_code 1 = .ok (.istore 4, 2) := by decide +kernel
theorem d_30_3 : decode prog_9_method_6_code 3 = .ok (.iconst 0, 1) := by decide +kernel
theorem d_30_4 : decode prog_9_method_6_code 4 = .ok (.istore 5, 2) := by decide +kernel
theorem d_30_6 : decode prog_9_method_6_code 6 = .ok (.iload 5, 2) := by decide +kernel
theorem d_30_8 : decode prog_9_method_6_code 8 = .ok (.aload_n 0, 1) := by decide +kernel
theorem d_30_9 : decode prog_9_method_6_code 9 = .ok (.getfield 27, 3) := by decide +kernel
theorem d_30_12 : decode prog_9_method_6_code 12 = .ok (.if_icmp .ge 28, 3) := by decide +kernel
theorem d_30_15 : decode prog_9_method_6_code 15 = .ok (.aload_n 0, 1) := by decide +kernel
theorem d_30_16 : decode prog_9_method_6_code 16 = .ok (.getfield 9, 3) := by decide +kernel
theorem d_30_19 : decode prog_9_method_6_code 19 = .ok (.iload 5, 2) := by decide +kernel
theorem d_30_21 : decode prog_9_method_6_code 21 = .ok (.iconst 4, 1) := by decide +kernel
theorem d_30_22 : decode prog_9_method_6_code 22 = .ok (.imul, 1) := by decide +kernel
theorem d_30_23 : decode prog_9_method_6_code 23 = .ok (.iload_n 1, 1) := by decide +kernel
theorem d_30_24 : decode prog_9_method_6_code 24 = .ok (.iadd, 1) := by decide +kernel
theorem d_30_25 : decode prog_9_method_6_code 25 = .ok (.laload, 1) := by decide +kernel
theorem d_30_26 : decode prog_9_method_6_code 26 = .ok (.lload_n 2, 1) := by decide +kernel
theorem d_30_27 : decode prog_9_method_6_code 27 = .ok (.lcmp, 1) := by decide +kernel
theorem d_30_28 : decode prog_9_method_6_code 28 = .ok (.ifCond .ne 6, 3) := by decide +kernel
theorem d_30_31 : decode prog_9_method_6_code 31 = .ok (.iinc 4 1, 3) := by decide +kernel
theorem d_30_34 : decode prog_9_method_6_code 34 = .ok (.iinc 5 1, 3) := by decide +kernel
theorem d_30_37 : decode prog_9_method_6_code 37 = .ok (.goto (-31), 3) := by decide +kernel
theorem d_30_40 : decode prog_9_method_6_code 40 = .ok (.iload 4, 2) := by decide +kernel
theorem d_30_42 : decode prog_9_method_6_code 42 = .ok (.ireturn, 1) := by decide +kernel
set_option maxRecDepth 20000 in
theorem ok_30 : ∀ r ∈ tb_30, sm_ok 30 r := List.forall_mem_cons.mpr ⟨d_30_0, List.forall_mem_cons.mpr ⟨d_30_1, List.forall_mem_cons.mpr ⟨d_30_3, List.forall_mem_cons.mpr ⟨d_30_4, List.forall_mem_cons.mpr ⟨d_30_6, List.forall_mem_cons.mpr ⟨d_30_8, List.forall_mem_cons.mpr ⟨⟨d_30_9, Or.inl pf_45⟩, List.forall_mem_cons.mpr ⟨⟨d_30_12, (by decide)⟩, List.forall_mem_cons.mpr ⟨d_30_15, List.forall_mem_cons.mpr ⟨⟨d_30_16, Or.inl pf_46⟩, List.forall_mem_cons.mpr ⟨d_30_19, List.forall_mem_cons.mpr ⟨d_30_21, List.forall_mem_cons.mpr ⟨d_30_22, List.forall_mem_cons.mpr ⟨d_30_23, List.forall_mem_cons.mpr ⟨d_30_24, List.forall_mem_cons.mpr ⟨d_30_25, List.forall_mem_cons.mpr ⟨d_30_26, List.forall_mem_cons.mpr ⟨d_30_27, List.forall_mem_cons.mpr ⟨⟨d_30_28, (by decide)⟩, List.forall_mem_cons.mpr ⟨d_30_31, List.forall_mem_cons.mpr ⟨d_30_34, List.forall_mem_cons.mpr ⟨⟨d_30_37, (by decide)⟩, List.forall_mem_cons.mpr ⟨d_30_40, List.forall_mem_cons.mpr ⟨d_30_42, fun _ h => absurd h List.not_mem_nil⟩⟩⟩⟩⟩⟩⟩⟩⟩⟩⟩⟩⟩⟩⟩⟩⟩⟩⟩⟩⟩⟩⟩⟩
theorem d_31_0 : decode prog_9_method_7_code 0 = .ok (.aload_n 0, 1) := by decide +kernel
theorem d_31_1 : decode prog_9_method_7_code 1 = .ok (.iload_n 1, 1) := by decide +kernel
theorem d_31_2 : decode prog_9_method_7_code 2 = .ok (.putfield 19, 3) := by decide +kernel
theorem d_31_5 : decode prog_9_method_7_code 5 = .ok (.return_, 1) := by decide +kernel
set_option maxRecDepth 20000 in
theorem ok_31 : ∀ r ∈ tb_31, sm_ok 31 r := List.forall_mem_cons.mpr ⟨d_31_0, List.forall_mem_cons.mpr ⟨d_31_1, List.forall_mem_cons.mpr ⟨⟨d_31_2, pf_47⟩, List.forall_mem_cons.mpr ⟨d_31_5, fun _ h => absurd h List.not_mem_nil⟩⟩⟩⟩
theorem d_32_0 : decode prog_9_method_8_code 0 = .ok (.aload_n 0, 1) := by decide +kernel
theorem d_32_1 : decode prog_9_method_8_code 1 = .ok (.iload_n 1, 1) := by decide +kernel
theorem d_32_2 : decode prog_9_method_8_code 2 = .ok (.invokevirtual 23, 3) := by decide +kernel
theorem d_32_5 : decode prog_9_method_8_code 5 = .ok (.ifCond .eq 10, 3) := by decide +kernel
theorem d_32_8 : decode prog_9_method_8_code 8 = .ok (.aload_n 0, 1) := by decide +kernel
theorem d_32_9 : decode prog_9_method_8_code 9 = .ok (.getfield 15, 3) := by decide +kernel
theorem d_32_12 : decode prog_9_method_8_code 12 = .ok (.iload_n 1, 1) := by decide +kernel
theorem d_32_13 : decode prog_9_method_8_code 13 = .ok (.iconst 1, 1) := by decide +kernel
theorem d_32_14 : decode prog_9_method_8_code 14 = .ok (.bastore, 1) := by decide +kernel
theorem d_32_15 : decode prog_9_method_8_code 15 = .ok (.return_, 1) := by decide +kernel
set_option maxRecDepth 20000 in
theorem ok_32 : ∀ r ∈ tb_32, sm_ok 32 r := List.forall_mem_cons.mpr ⟨d_32_0, List.forall_mem_cons.mpr ⟨d_32_1, List.forall_mem_cons.mpr ⟨⟨d_32_2, ⟨mo_27, mi_27, se_27, pm_70⟩⟩, List.forall_mem_cons.mpr ⟨⟨d_32_5, (by decide)⟩, List.forall_mem_cons.mpr ⟨d_32_8, List.forall_mem_cons.mpr ⟨⟨d_32_9, Or.inl pf_44⟩, List.forall_mem_cons.mpr ⟨d_32_12, List.forall_mem_cons.mpr ⟨d_32_13, List.forall_mem_cons.mpr ⟨d_32_14, List.forall_mem_cons.mpr ⟨d_32_15, fun _ h => absurd h List.not_mem_nil⟩⟩⟩⟩⟩⟩⟩⟩⟩⟩
theorem d_33_0 : decode prog_9_method_9_code 0 = .ok (.aload_n 0, 1) := by decide +kernel
theorem d_33_1 : decode prog_9_method_9_code 1 = .ok (.getfield 27, 3) := by decide +kernel
theorem d_33_4 : decode prog_9_method_9_code 4 = .ok (.bipush 20, 2) := by decide +kernel
theorem d_33_6 : decode prog_9_method_9_code 6 = .ok (.if_icmp .lt 4, 3) := by decide +kernel
theorem d_33_9 : decode prog_9_method_9_code 9 = .ok (.return_, 1) := by decide +kernel
theorem d_33_10 : decode prog_9_method_9_code 10 = .ok (.iconst 0, 1) := by decide +kernel
theorem d_33_11 : decode prog_9_method_9_code 11 = .ok (.istore_n 2, 1) := by decide +kernel
theorem d_33_12 : decode prog_9_method_9_code 12 = .ok (.iload_n 2, 1) := by decide +kernel
theorem d_33_13 : decode prog_9_method_9_code 13 = .ok (.aload_n 0, 1) := by decide +kernel
theorem d_33_14 : decode prog_9_method_9_code 14 = .ok (.getfield 19, 3) := by decide +kernel
theorem d_33_17 : decode prog_9_method_9_code 17 = .ok (.if_icmp .ge 25, 3) := by decide +kernel
theorem d_33_20 : decode prog_9_method_9_code 20 = .ok (.aload_n 0, 1) := by decide +kernel
theorem d_33_21 : decode prog_9_method_9_code 21 = .ok (.getfield 9, 3) := by decide +kernel
theorem d_33_24 : decode prog_9_method_9_code 24 = .ok (.aload_n 0, 1) := by decide +kernel
theorem d_33_25 : decode prog_9_method_9_code 25 = .ok (.getfield 27, 3) := by decide +kernel
theorem d_33_28 : decode prog_9_method_9_code 28 = .ok (.iconst 4, 1) := by decide +kernel
theorem d_33_29 : decode prog_9_method_9_code 29 = .ok (.imul, 1) := by decide +kernel
theorem d_33_30 : decode prog_9_method_9_code 30 = .ok (.iload_n 2, 1) := by decide +kernel
theorem d_33_31 : decode prog_9_method_9_code 31 = .ok (.iadd, 1) := by decide +kernel
theorem d_33_32 : decode prog_9_method_9_code 32 = .ok (.aload_n 1, 1) := by decide +kernel
theorem d_33_33 : decode prog_9_method_9_code 33 = .ok (.iload_n 2, 1) := by decide +kernel
theorem d_33_34 : decode prog_9_method_9_code 34 = .ok (.laload, 1) := by decide +kernel
theorem d_33_35 : decode prog_9_method_9_code 35 = .ok (.lastore, 1) := by decide +kernel
theorem d_33_36 : decode prog_9_method_9_code 36 = .ok (.iinc 2 1, 3) := by decide +kernel
theorem d_33_39 : decode prog_9_method_9_code 39 = .ok (.goto (-27), 3) := by decide +kernel
theorem d_33_42 : decode prog_9_method_9_code 42 = .ok (.aload_n 0, 1) := by decide +kernel
theorem d_33_43 : decode prog_9_method_9_code 43 = .ok (.dup, 1) := by decide +kernel
theorem d_33_44 : decode prog_9_method_9_code 44 = .ok (.getfield 27, 3) := by decide +kernel
theorem d_33_47 : decode prog_9_method_9_code 47 = .ok (.iconst 1, 1) := by decide +kernel
theorem d_33_48 : decode prog_9_method_9_code 48 = .ok (.iadd, 1) := by decide +kernel
theorem d_33_49 : decode prog_9_method_9_code 49 = .ok (.putfield 27, 3) := by decide +kernel
theorem d_33_52 : decode prog_9_method_9_code 52 = .ok (.aload_n 0, 1) := by decide +kernel
theorem d_33_53 : decode prog_9_method_9_code 53 = .ok (.aload_n 0, 1) := by decide +kernel
theorem d_33_54 : decode prog_9_method_9_code 54 = .ok (.getfield 27, 3) := by decide +kernel
theorem d_33_57 : decode prog_9_method_9_code 57 = .ok (.iconst 1, 1) := by decide +kernel
theorem d_33_58 : decode prog_9_method_9_code 58 = .ok (.isub, 1) := by decide +kernel
theorem d_33_59 : decode prog_9_method_9_code 59 = .ok (.invokevirtual 32, 3) := by decide +kernel
theorem d_33_62 : decode prog_9_method_9_code 62 = .ok (.return_, 1) := by decide +kernel
set_option maxRecDepth 20000 in
theorem ok_33 : ∀ r ∈ tb_33, sm_ok 33 r := List.forall_mem_cons.mpr ⟨d_33_0, List.forall_mem_cons.mpr ⟨⟨d_33_1, Or.inl pf_45⟩, List.forall_mem_cons.mpr ⟨d_33_4, List.forall_mem_cons.mpr ⟨⟨d_33_6, (by decide)⟩, List.forall_mem_cons.mpr ⟨d_33_9, List.forall_mem_cons.mpr ⟨d_33_10, List.forall_mem_cons.mpr ⟨d_33_11, List.forall_mem_cons.mpr ⟨d_33_12, List.forall_mem_cons.mpr ⟨d_33_13, List.forall_mem_cons.mpr ⟨⟨d_33_14, Or.inl pf_43⟩, List.forall_mem_cons.mpr ⟨⟨d_33_17, (by decide)⟩, List.forall_mem_cons.mpr ⟨d_33_20, List.forall_mem_cons.mpr ⟨⟨d_33_21, Or.inl pf_46⟩, List.forall_mem_cons.mpr ⟨d_33_24, List.forall_mem_cons.mpr ⟨⟨d_33_25, Or.inl pf_45⟩, List.forall_mem_cons.mpr ⟨d_33_28, List.forall_mem_cons.mpr ⟨d_33_29, List.forall_mem_cons.mpr ⟨d_33_30, List.forall_mem_cons.mpr ⟨d_33_31, List.forall_mem_cons.mpr ⟨d_33_32, List.forall_mem_cons.mpr ⟨d_33_33, List.forall_mem_cons.mpr ⟨d_33_34, List.forall_mem_cons.mpr ⟨d_33_35, List.forall_mem_cons.mpr ⟨d_33_36, List.forall_mem_cons.mpr ⟨⟨d_33_39, (by decide)⟩, List.forall_mem_cons.mpr ⟨d_33_42, List.forall_mem_cons.mpr ⟨d_33_43, List.forall_mem_cons.mpr ⟨⟨d_33_44, Or.inl pf_45⟩, List.forall_mem_cons.mpr ⟨d_33_47, List.forall_mem_cons.mpr ⟨d_33_48, List.forall_mem_cons.mpr ⟨⟨d_33_49, pf_48⟩, List.forall_mem_cons.mpr ⟨d_33_52, List.forall_mem_cons.mpr ⟨d_33_53, List.forall_mem_cons.mpr ⟨⟨d_33_54, Or.inl pf_45⟩, List.forall_mem_cons.mpr ⟨d_33_57, List.forall_mem_cons.mpr ⟨d_33_58, List.forall_mem_cons.mpr ⟨⟨d_33_59, ⟨mo_37, mi_37, se_37, pm_71⟩⟩, List.forall_mem_cons.mpr ⟨d_33_62, fun _ h => absurd h List.not_mem_nil⟩⟩⟩⟩⟩⟩⟩⟩⟩⟩⟩⟩⟩⟩⟩⟩⟩⟩⟩⟩⟩⟩⟩⟩⟩⟩⟩⟩⟩⟩⟩⟩⟩⟩⟩⟩⟩⟩
theorem d_34_0 : decode prog_9_method_10_code 0 = .ok (.iload_n 1, 1) := by decide +kernel
theorem d_34_1 : decode prog_9_method_10_code 1 = .ok (.ifCond .lt 11, 3) := by decide +kernel
theorem d_34_4 : decode prog_9_method_10_code 4 = .ok (.iload_n 1, 1) := by decide +kernel
theorem d_34_5 : decode prog_9_method_10_code 5 = .ok (.aload_n 0, 1) := by decide +kernel
theorem d_34_6 : decode prog_9_method_10_code 6 = .ok (.getfield 27, 3) := by decide +kernel
theorem d_34_9 : decode prog_9_method_10_code 9 = .ok (.if_icmp .lt 4, 3) := by decide +kernel
theorem d_34_12 : decode prog_9_method_10_code 12 = .ok (.return_, 1) := by decide +kernel
theorem d_34_13 : decode prog_9_method_10_code 13 = .ok (.iload_n 1, 1) := by decide +kernel
theorem d_34_14 : decode prog_9_method_10_code 14 = .ok (.iconst 1, 1) := by decide +kernel
theorem d_34_15 : decode prog_9_method_10_code 15 = .ok (.iadd, 1) := by decide +kernel
theorem d_34_16 : decode prog_9_method_10_code 16 = .ok (.iconst 4, 1) := by decide +kernel
theorem d_34_17 : decode prog_9_method_10_code 17 = .ok (.imul, 1) := by decide +kernel
theorem d_34_18 : decode prog_9_method_10_code 18 = .ok (.istore_n 2, 1) := by decide +kernel
theorem d_34_19 : decode prog_9_method_10_code 19 = .ok (.aload_n 0, 1) := by decide +kernel
theorem d_34_20 : decode prog_9_method_10_code 20 = .ok (.getfield 9, 3) := by decide +kernel
theorem d_34_23 : decode prog_9_method_10_code 23 = .ok (.iload_n 2, 1) := by decide +kernel
theorem d_34_24 : decode prog_9_method_10_code 24 = .ok (.aload_n 0, 1) := by decide +kernel
theorem d_34_25 : decode prog_9_method_10_code 25 = .ok (.getfield 9, 3) := by decide +kernel
theorem d_34_28 : decode prog_9_method_10_code 28 = .ok (.iload_n 1, 1) := by decide +kernel
theorem d_34_29 : decode prog_9_method_10_code 29 = .ok (.iconst 4, 1) := by decide +kernel
theorem d_34_30 : decode prog_9_method_10_code 30 = .ok (.imul, 1) := by decide +kernel
theorem d_34_31 : decode prog_9_method_10_code 31 = .ok (.aload_n 0, 1) := by decide +kernel
theorem d_34_32 : decode prog_9_method_10_code 32 = .ok (.getfield 27, 3) := by decide +kernel
theorem d_34_35 : decode prog_9_method_10_code 35 = .ok (.iconst 4, 1) := by decide +kernel
theorem d_34_36 : decode prog_9_method_10_code 36 = .ok (.imul, 1) := by decide +kernel
theorem d_34_37 : decode prog_9_method_10_code 37 = .ok (.iload_n 2, 1) := by decide +kernel
theorem d_34_38 : decode prog_9_method_10_code 38 = .ok (.isub, 1) := by decide +kernel
theorem d_34_39 : decode prog_9_method_10_code 39 = .ok (.invokestatic 36, 3) := by decide +kernel
theorem d_34_42 : decode prog_9_method_10_code 42 = .ok (.aload_n 0, 1) := by decide +kernel
theorem d_34_43 : decode prog_9_method_10_code 43 = .ok (.dup, 1) := by decide +kernel
theorem d_34_44 : decode prog_9_method_10_code 44 = .ok (.getfield 27, 3) := by decide +kernel
theorem d_34_47 : decode prog_9_method_10_code 47 = .ok (.iconst 1, 1) := by decide +kernel
theorem d_34_48 : decode prog_9_method_10_code 48 = .ok (.isub, 1) := by decide +kernel
theorem d_34_49 : decode prog_9_method_10_code 49 = .ok (.putfield 27, 3) := by decide +kernel
theorem d_34_52 : decode prog_9_method_10_code 52 = .ok (.return_, 1) := by decide +kernel
set_option maxRecDepth 20000 in
theorem ok_34 : ∀ r ∈ tb_34, sm_ok 34 r := List.forall_mem_cons.mpr ⟨d_34_0, List.forall_mem_cons.mpr ⟨⟨d_34_1, (by decide)⟩, List.forall_mem_cons.mpr ⟨d_34_4, List.forall_mem_cons.mpr ⟨d_34_5, List.forall_mem_cons.mpr ⟨⟨d_34_6, Or.inl pf_45⟩, List.forall_mem_cons.mpr ⟨⟨d_34_9, (by decide)⟩, List.forall_mem_cons.mpr ⟨d_34_12, List.forall_mem_cons.mpr ⟨d_34_13, List.forall_mem_cons.mpr ⟨d_34_14, List.forall_mem_cons.mpr ⟨d_34_15, List.forall_mem_cons.mpr ⟨d_34_16, List.forall_mem_cons.mpr ⟨d_34_17, List.forall_mem_cons.mpr ⟨d_34_18, List.forall_mem_cons.mpr ⟨d_34_19, List.forall_mem_cons.mpr ⟨⟨d_34_20, Or.inl pf_46⟩, List.forall_mem_cons.mpr ⟨d_34_23, List.forall_mem_cons.mpr ⟨d_34_24, List.forall_mem_cons.mpr ⟨⟨d_34_25, Or.inl pf_46⟩, List.forall_mem_cons.mpr ⟨d_34_28, List.forall_mem_cons.mpr ⟨d_34_29, List.forall_mem_cons.mpr ⟨d_34_30, List.forall_mem_cons.mpr ⟨d_34_31, List.forall_mem_cons.mpr ⟨⟨d_34_32, Or.inl pf_45⟩, List.forall_mem_cons.mpr ⟨d_34_35, List.forall_mem_cons.mpr ⟨d_34_36, List.forall_mem_cons.mpr ⟨d_34_37, List.forall_mem_cons.mpr ⟨d_34_38, List.forall_mem_cons.mpr ⟨⟨d_34_39, (Or.inr (Or.inl ⟨rfl, wd_127, wd_128, wd_129, wd_130⟩))⟩, List.forall_mem_cons.mpr ⟨d_34_42, List.forall_mem_cons.mpr ⟨d_34_43, List.forall_mem_cons.mpr ⟨⟨d_34_44, Or.inl pf_45⟩, List.forall_mem_cons.mpr ⟨d_34_47, List.forall_mem_cons.mpr ⟨d_34_48, List.forall_mem_cons.mpr ⟨⟨d_34_49, pf_48⟩, List.forall_mem_cons.mpr ⟨d_34_52, fun _ h => absurd h List.not_mem_nil⟩⟩⟩⟩⟩⟩⟩⟩⟩⟩⟩⟩⟩⟩⟩⟩⟩⟩⟩⟩⟩⟩⟩⟩⟩⟩⟩⟩⟩⟩⟩⟩⟩⟩⟩
theorem d_35_0 : decode prog_9_method_11_code 0 = .ok (.iconst 0, 1) := by decide +kernel
theorem d_35_1 : decode prog_9_method_11_code 1 = .ok (.istore_n 3, 1) := by decide +kernel
theorem d_35_2 : decode prog_9_method_11_code 2 = .ok (.iload_n 3, 1) := by decide +kernel
theorem d_35_3 : decode prog_9_method_11_code 3 = .ok (.aload_n 0, 1) := by decide +kernel
theorem d_35_4 : decode prog_9_method_11_code 4 = .ok (.getfield 27, 3) := by decide +kernel
theorem d_35_7 : decode prog_9_method_11_code 7 = .ok (.if_icmp .ge 22, 3) := by decide +kernel
theorem d_35_10 : decode prog_9_method_11_code 10 = .ok (.aload_n 2, 1) := by decide +kernel
theorem d_35_11 : decode prog_9_method_11_code 11 = .ok (.iload_n 3, 1) := by decide +kernel
theorem d_35_12 : decode prog_9_method_11_code 12 = .ok (.aload_n 0, 1) := by decide +kernel
theorem d_35_13 : decode prog_9_method_11_code 13 = .ok (.getfield 9, 3) := by decide +kernel
theorem d_35_16 : decode prog_9_method_11_code 16 = .ok (.iload_n 3, 1) := by decide +kernel
theorem d_35_17 : decode prog_9_method_11_code 17 = .ok (.iconst 4, 1) := by decide +kernel
theorem d_35_18 : decode prog_9_method_11_code 18 = .ok (.imul, 1) := by decide +kernel
theorem d_35_19 : decode prog_9_method_11_code 19 = .ok (.iload_n 1, 1) := by decide +kernel
theorem d_35_20 : decode prog_9_method_11_code 20 = .ok (.iadd, 1) := by decide +kernel
theorem d_35_21 : decode prog_9_method_11_code 21 = .ok (.laload, 1) := by decide +kernel
theorem d_35_22 : decode prog_9_method_11_code 22 = .ok (.lastore, 1) := by decide +kernel
theorem d_35_23 : decode prog_9_method_11_code 23 = .ok (.iinc 3 1, 3) := by decide +kernel
theorem d_35_26 : decode prog_9_method_11_code 26 = .ok (.goto (-24), 3) := by decide +kernel
theorem d_35_29 : decode prog_9_method_11_code 29 = .ok (.return_, 1) := by decide +kernel
set_option maxRecDepth 20000 in
theorem ok_35 : ∀ r ∈ tb_35, sm_ok 35 r := List.forall_mem_cons.mpr ⟨d_35_0, List.forall_mem_cons.mpr ⟨d_35_1, List.forall_mem_cons.mpr ⟨d_35_2, List.forall_mem_cons.mpr ⟨d_35_3, List.forall_mem_cons.mpr ⟨⟨d_35_4, Or.inl pf_45⟩, List.forall_mem_cons.mpr ⟨⟨d_35_7, (by decide)⟩, List.forall_mem_cons.mpr ⟨d_35_10, List.forall_mem_cons.mpr ⟨d_35_11, List.forall_mem_cons.mpr ⟨d_35_12, List.forall_mem_cons.mpr ⟨⟨d_35_13, Or.inl pf_46⟩, List.forall_mem_cons.mpr ⟨d_35_16, List.forall_mem_cons.mpr ⟨d_35_17, List.forall_mem_cons.mpr ⟨d_35_18, List.forall_mem_cons.mpr ⟨d_35_19, List.forall_mem_cons.mpr ⟨d_35_20, List.forall_mem_cons.mpr ⟨d_35_21, List.forall_mem_cons.mpr ⟨d_35_22, List.forall_mem_cons.mpr ⟨d_35_23, List.forall_mem_cons.mpr ⟨⟨d_35_26, (by decide)⟩, List.forall_mem_cons.mpr ⟨d_35_29, fun _ h => absurd h List.not_mem_nil⟩⟩⟩⟩⟩⟩⟩⟩⟩⟩⟩⟩⟩⟩⟩⟩⟩⟩⟩⟩
theorem d_36_0 : decode prog_9_method_12_code 0 = .ok (.iconst 0, 1) := by decide +kernel
theorem d_36_1 : decode prog_9_method_12_code 1 = .ok (.istore_n 3, 1) := by decide +kernel
theorem d_36_2 : decode prog_9_method_12_code 2 = .ok (.iload_n 3, 1) := by decide +kernel
theorem d_36_3 : decode prog_9_method_12_code 3 = .ok (.aload_n 0, 1) := by decide +kernel
theorem d_36_4 : decode prog_9_method_12_code 4 = .ok (.getfield 27, 3) := by decide +kernel
theorem d_36_7 : decode prog_9_method_12_code 7 = .ok (.if_icmp .ge 22, 3) := by decide +kernel
theorem d_36_10 : decode prog_9_method_12_code 10 = .ok (.aload_n 0, 1) := by decide +kernel
theorem d_36_11 : decode prog_9_method_12_code 11 = .ok (.getfield 9, 3) := by decide +kernel
theorem d_36_14 : decode prog_9_method_12_code 14 = .ok (.iload_n 3, 1) := by decide +kernel
theorem d_36_15 : decode prog_9_method_12_code 15 = .ok (.iconst 4, 1) := by decide +kernel
theorem d_36_16 : decode prog_9_method_12_code 16 = .ok (.imul, 1) := by decide +kernel
theorem d_36_17 : decode prog_9_method_12_code 17 = .ok (.iload_n 1, 1) := by decide +kernel
theorem d_36_18 : decode prog_9_method_12_code 18 = .ok (.iadd, 1) := by decide +kernel
theorem d_36_19 : decode prog_9_method_12_code 19 = .ok (.aload_n 2, 1) := by decide +kernel
theorem d_36_20 : decode prog_9_method_12_code 20 = .ok (.iload_n 3, 1) := by decide +kernel
theorem d_36_21 : decode prog_9_method_12_code 21 = .ok (.laload, 1) := by decide +kernel
theorem d_36_22 : decode prog_9_method_12_code 22 = .ok (.lastore, 1) := by decide +kernel
theorem d_36_23 : decode prog_9_method_12_code 23 = .ok (.iinc 3 1, 3) := by decide +kernel
theorem d_36_26 : decode prog_9_method_12_code 26 = .ok (.goto (-24), 3) := by decide +kernel
theorem d_36_29 : decode prog_9_method_12_code 29 = .ok (.iconst 1, 1) := by decide +kernel
theorem d_36_30 : decode prog_9_method_12_code 30 = .ok (.istore_n 3, 1) := by decide +kernel
theorem d_36_31 : decode prog_9_method_12_code 31 = .ok (.iload_n 3, 1) := by decide +kernel
theorem d_36_32 : decode prog_9_method_12_code 32 = .ok (.aload_n 0, 1) := by decide +kernel
theorem d_36_33 : decode prog_9_method_12_code 33 = .ok (.getfield 27, 3) := by decide +kernel
theorem d_36_36 : decode prog_9_method_12_code 36 = .ok (.if_icmp .ge 14, 3) := by decide +kernel
theorem d_36_39 : decode prog_9_method_12_code 39 = .ok (.aload_n 0, 1) := by decide +kernel
theorem d_36_40 : decode prog_9_method_12_code 40 = .ok (.iload_n 3, 1) := by decide +kernel
theorem d_36_41 : decode prog_9_method_12_code 41 = .ok (.invokevirtual 32, 3) := by decide +kernel
theorem d_36_44 : decode prog_9_method_12_code 44 = .ok (.iinc 3 1, 3) := by decide +kernel
theorem d_36_47 : decode prog_9_method_12_code 47 = .ok (.goto (-16), 3) := by decide +kernel
theorem d_36_50 : decode prog_9_method_12_code 50 = .ok (.return_, 1) := by decide +kernel
set_option maxRecDepth 20000 in
theorem ok_36 : ∀ r ∈ tb_36, sm_ok 36 r := List.forall_mem_cons.mpr ⟨d_36_0, List.forall_mem_cons.mpr ⟨d_36_1, List.forall_mem_cons.mpr ⟨d_36_2, List.forall_mem_cons.mpr ⟨d_36_3, List.forall_mem_cons.mpr ⟨⟨d_36_4, Or.inl pf_45⟩, List.forall_mem_cons.mpr ⟨⟨d_36_7, (by decide)⟩, List.forall_mem_cons.mpr ⟨d_36_10, List.forall_mem_cons.mpr ⟨⟨d_36_11, Or.inl pf_46⟩, List.forall_mem_cons.mpr ⟨d_36_14, List.forall_mem_cons.mpr ⟨d_36_15, List.forall_mem_cons.mpr ⟨d_36_16, List.forall_mem_cons.mpr ⟨d_36_17, List.forall_mem_cons.mpr ⟨d_36_18, List.forall_mem_cons.mpr ⟨d_36_19, List.forall_mem_cons.mpr ⟨d_36_20, List.forall_mem_cons.mpr ⟨d_36_21, List.forall_mem_cons.mpr ⟨d_36_22, List.forall_mem_cons.mpr ⟨d_36_23, List.forall_mem_cons.mpr ⟨⟨d_36_26, (by decide)⟩, List.forall_mem_cons.mpr ⟨d_36_29, List.forall_mem_cons.mpr ⟨d_36_30, List.forall_mem_cons.mpr ⟨d_36_31, List.forall_mem_cons.mpr ⟨d_36_32, List.forall_mem_cons.mpr ⟨⟨d_36_33, Or.inl pf_45⟩, List.forall_mem_cons.mpr ⟨⟨d_36_36, (by decide)⟩, List.forall_mem_cons.mpr ⟨d_36_39, List.forall_mem_cons.mpr ⟨d_36_40, List.forall_mem_cons.mpr ⟨⟨d_36_41, ⟨mo_37, mi_37, se_37, pm_71⟩⟩, List.forall_mem_cons.mpr ⟨d_36_44, List.forall_mem_cons.mpr ⟨⟨d_36_47, (by decide)⟩, List.forall_mem_cons.mpr ⟨d_36_50, fun _ h => absurd h List.not_mem_nil⟩⟩⟩⟩⟩⟩⟩⟩⟩⟩⟩⟩⟩⟩⟩⟩⟩⟩⟩⟩⟩⟩⟩⟩⟩⟩⟩⟩⟩⟩⟩
theorem d_37_0 : decode prog_9_method_13_code 0 = .ok (.iload_n 1, 1) := by decide +kernel
theorem d_37_1 : decode prog_9_method_13_code 1 = .ok (.istore_n 2, 1) := by decide +kernel
theorem d_37_2 : decode prog_9_method_13_code 2 = .ok (.iload_n 2, 1) := by decide +kernel
theorem d_37_3 : decode prog_9_method_13_code 3 = .ok (.ifCond .le 38, 3) := by decide +kernel
theorem d_37_6 : decode prog_9_method_13_code 6 = .ok (.aload_n 0, 1) := by decide +kernel
theorem d_37_7 : decode prog_9_method_13_code 7 = .ok (.getfield 9, 3) := by decide +kernel
theorem d_37_10 : decode prog_9_method_13_code 10 = .ok (.iload_n 2, 1) := by decide +kernel
theorem d_37_11 : decode prog_9_method_13_code 11 = .ok (.iconst 1, 1) := by decide +kernel
theorem d_37_12 : decode prog_9_method_13_code 12 = .ok (.isub, 1) := by decide +kernel
theorem d_37_13 : decode prog_9_method_13_code 13 = .ok (.iconst 4, 1) := by decide +kernel
theorem d_37_14 : decode prog_9_method_13_code 14 = .ok (.imul, 1) := by decide +kernel
theorem d_37_15 : decode prog_9_method_13_code 15 = .ok (.laload, 1) := by decide +kernel
theorem d_37_16 : decode prog_9_method_13_code 16 = .ok (.aload_n 0, 1) := by decide +kernel
theorem d_37_17 : decode prog_9_method_13_code 17 = .ok (.getfield 9, 3) := by decide +kernel
theorem d_37_20 : decode prog_9_method_13_code 20 = .ok (.iload_n 2, 1) := by decide +kernel
theorem d_37_21 : decode prog_9_method_13_code 21 = .ok (.iconst 4, 1) := by decide +kernel
theorem d_37_22 : decode prog_9_method_13_code 22 = .ok (.imul, 1) := by decide +kernel
theorem d_37_23 : decode prog_9_method_13_code 23 = .ok (.laload, 1) := by decide +kernel
theorem d_37_24 : decode prog_9_method_13_code 24 = .ok (.lcmp, 1) := by decide +kernel
theorem d_37_25 : decode prog_9_method_13_code 25 = .ok (.ifCond .le 16, 3) := by decide +kernel
theorem d_37_28 : decode prog_9_method_13_code 28 = .ok (.aload_n 0, 1) := by decide +kernel
theorem d_37_29 : decode prog_9_method_13_code 29 = .ok (.iload_n 2, 1) := by decide +kernel
theorem d_37_30 : decode prog_9_method_13_code 30 = .ok (.iconst 4, 1) := by decide +kernel
theorem d_37_31 : decode prog_9_method_13_code 31 = .ok (.imul, 1) := by decide +kernel
theorem d_37_32 : decode prog_9_method_13_code 32 = .ok (.invokevirtual 42, 3) := by decide +kernel
theorem d_37_35 : decode prog_9_method_13_code 35 = .ok (.iinc 2 (-1), 3) := by decide +kernel
theorem d_37_38 : decode prog_9_method_13_code 38 = .ok (.goto (-36), 3) := by decide +kernel
theorem d_37_41 : decode prog_9_method_13_code 41 = .ok (.return_, 1) := by decide +kernel
set_option maxRecDepth 20000 in
theorem ok_37 : ∀ r ∈ tb_37, sm_ok 37 r := List.forall_mem_cons.mpr ⟨d_37_0, List.forall_mem_cons.mpr ⟨d_37_1, List.forall_mem_cons.mpr ⟨d_37_2, List.forall_mem_cons.mpr ⟨⟨d_37_3, (by decide)⟩, List.forall_mem_cons.mpr ⟨d_37_6, List.forall_mem_cons.mpr ⟨⟨d_37_7, Or.inl pf_46⟩, List.forall_mem_cons.mpr ⟨d_37_10, List.forall_mem_cons.mpr ⟨d_37_11, List.forall_mem_cons.mpr ⟨d_37_12, List.forall_mem_cons.mpr ⟨d_37_13, List.forall_mem_cons.mpr ⟨d_37_14, List.forall_mem_cons.mpr ⟨d_37_15, List.forall_mem_cons.mpr ⟨d_37_16, List.forall_mem_cons.mpr ⟨⟨d_37_17, Or.inl pf_46⟩, List.forall_mem_cons.mpr ⟨d_37_20, List.forall_mem_cons.mpr ⟨d_37_21, List.forall_mem_cons.mpr ⟨d_37_22, List.forall_mem_cons.mpr ⟨d_37_23, List.forall_mem_cons.mpr ⟨d_37_24, List.forall_mem_cons.mpr ⟨⟨d_37_25, (by decide)⟩, List.forall_mem_cons.mpr ⟨d_37_28, List.forall_mem_cons.mpr ⟨d_37_29, List.forall_mem_cons.mpr ⟨d_37_30, List.forall_mem_cons.mpr ⟨d_37_31, List.forall_mem_cons.mpr ⟨⟨d_37_32, ⟨mo_38, mi_38, se_38, pm_72⟩⟩, List.forall_mem_cons.mpr ⟨d_37_35, List.forall_mem_cons.mpr ⟨⟨d_37_38, (by decide)⟩, List.forall_mem_cons.mpr ⟨d_37_41, fun _ h => absurd h List.not_mem_nil⟩⟩⟩⟩⟩⟩⟩⟩⟩⟩⟩⟩⟩⟩⟩⟩⟩⟩⟩⟩⟩⟩⟩⟩⟩⟩⟩⟩
theorem d_38_0 : decode prog_9_method_14_code 0 = .ok (.iload_n 1, 1) := by decide +kernel
theorem d_38_1 : decode prog_9_method_14_code 1 = .ok (.istore_n 2, 1) := by decide +kernel
theorem d_38_2 : decode prog_9_method_14_code 2 = .ok (.iload_n 2, 1) := by decide +kernel
theorem d_38_3 : decode prog_9_method_14_code 3 = .ok (.iload_n 1, 1) := by decide +kernel
theorem d_38_4 : decode prog_9_method_14_code 4 = .ok (.iconst 4, 1) := by decide +kernel
theorem d_38_5 : decode prog_9_method_14_code 5 = .ok (.iadd, 1) := by decide +kernel
theorem d_38_6 : decode prog_9_method_14_code 6 = .ok (.if_icmp .ge 39, 3) := by decide +kernel
theorem d_38_9 : decode prog_9_method_14_code 9 = .ok (.aload_n 0, 1) := by decide +kernel
theorem d_38_10 : decode prog_9_method_14_code 10 = .ok (.getfield 9, 3) := by decide +kernel
theorem d_38_13 : decode prog_9_method_14_code 13 = .ok (.iload_n 2, 1) := by decide +kernel
theorem d_38_14 : decode prog_9_method_14_code 14 = .ok (.laload, 1) := by decide +kernel
theorem d_38_15 : decode prog_9_method_14_code 15 = .ok (.lstore_n 3, 1) := by decide +kernel
theorem d_38_16 : decode prog_9_method_14_code 16 = .ok (.aload_n 0, 1) := by decide +kernel
theorem d_38_17 : decode prog_9_method_14_code 17 = .ok (.getfield 9, 3) := by decide +kernel
theorem d_38_20 : decode prog_9_method_14_code 20 = .ok (.iload_n 2, 1) := by decide +kernel
theorem d_38_21 : decode prog_9_method_14_code 21 = .ok (.aload_n 0, 1) := by decide +kernel
theorem d_38_22 : decode prog_9_method_14_code 22 = .ok (.getfield 9, 3) := by decide +kernel
theorem d_38_25 : decode prog_9_method_14_code 25 = .ok (.iload_n 2, 1) := by decide +kernel
theorem d_38_26 : decode prog_9_method_14_code 26 = .ok (.iconst 4, 1) := by decide +kernel
theorem d_38_27 : decode prog_9_method_14_code 27 = .ok (.isub, 1) := by decide +kernel
theorem d_38_28 : decode prog_9_method_14_code 28 = .ok (.laload, 1) := by decide +kernel
theorem d_38_29 : decode prog_9_method_14_code 29 = .ok (.lastore, 1) := by decide +kernel
theorem d_38_30 : decode prog_9_method_14_code 30 = .ok (.aload_n 0, 1) := by decide +kernel
theorem d_38_31 : decode prog_9_method_14_code 31 = .ok (.getfield 9, 3) := by decide +kernel
theorem d_38_34 : decode prog_9_method_14_code 34 = .ok (.iload_n 2, 1) := by decide +kernel
theorem d_38_35 : decode prog_9_method_14_code 35 = .ok (.iconst 4, 1) := by decide +kernel
theorem d_38_36 : decode prog_9_method_14_code 36 = .ok (.isub, 1) := by decide +kernel
theorem d_38_37 : decode prog_9_method_14_code 37 = .ok (.lload_n 3, 1) := by decide +kernel
theorem d_38_38 : decode prog_9_method_14_code 38 = .ok (.lastore, 1) := by decide +kernel
theorem d_38_39 : decode prog_9_method_14_code 39 = .ok (.iinc 2 1, 3) := by decide +kernel
theorem d_38_42 : decode prog_9_method_14_code 42 = .ok (.goto (-40), 3) := by decide +kernel
theorem d_38_45 : decode prog_9_method_14_code 45 = .ok (.return_, 1) := by decide +kernel
set_option maxRecDepth 20000 in
theorem ok_38 : ∀ r ∈ tb_38, sm_ok 38 r := List.forall_mem_cons.mpr ⟨d_38_0, List.forall_mem_cons.mpr ⟨d_38_1, List.forall_mem_cons.mpr ⟨d_38_2, List.forall_mem_cons.mpr ⟨d_38_3, List.forall_mem_cons.mpr ⟨d_38_4, List.forall_mem_cons.mpr ⟨d_38_5, List.forall_mem_cons.mpr ⟨⟨d_38_6, (by decide)⟩, List.forall_mem_cons.mpr ⟨d_38_9, List.forall_mem_cons.mpr ⟨⟨d_38_10, Or.inl pf_46⟩, List.forall_mem_cons.mpr ⟨d_38_13, List.forall_mem_cons.mpr ⟨d_38_14, List.forall_mem_cons.mpr ⟨d_38_15, List.forall_mem_cons.mpr ⟨d_38_16, List.forall_mem_cons.mpr ⟨⟨d_38_17, Or.inl pf_46⟩, List.forall_mem_cons.mpr ⟨d_38_20, List.forall_mem_cons.mpr ⟨d_38_21, List.forall_mem_cons.mpr ⟨⟨d_38_22, Or.inl pf_46⟩, List.forall_mem_cons.mpr ⟨d_38_25, List.forall_mem_cons.mpr ⟨d_38_26, List.forall_mem_cons.mpr ⟨d_38_27, List.forall_mem_cons.mpr ⟨d_38_28, List.forall_mem_cons.mpr ⟨d_38_29, List.forall_mem_cons.mpr ⟨d_38_30, List.forall_mem_cons.mpr ⟨⟨d_38_31, Or.inl pf_46⟩, List.forall_mem_cons.mpr ⟨d_38_34, List.forall_mem_cons.mpr ⟨d_38_35, List.forall_mem_cons.mpr ⟨d_38_36, List.forall_mem_cons.mpr ⟨d_38_37, List.forall_mem_cons.mpr ⟨d_38_38, List.forall_mem_cons.mpr ⟨d_38_39, List.forall_mem_cons.mpr ⟨⟨d_38_42, (by decide)⟩, List.forall_mem_cons.mpr ⟨d_38_45, fun _ h => absurd h List.not_mem_nil⟩⟩⟩⟩⟩⟩⟩⟩⟩⟩⟩⟩⟩⟩⟩⟩⟩⟩⟩⟩⟩⟩⟩⟩⟩⟩⟩⟩⟩⟩⟩⟩
theorem d_39_0 : decode prog_5_method_1_code 0 = .ok (.aload_n 0, 1) := by decide +kernel
theorem d_39_1 : decode prog_5_method_1_code 1 = .ok (.invokespecial 1, 3) := by decide +kernel
theorem d_39_4 : decode prog_5_method_1_code 4 = .ok (.aload_n 0, 1) := by decide +kernel
theorem d_39_5 : decode prog_5_method_1_code 5 = .ok (.iconst 2, 1) := by decide +kernel
theorem d_39_6 : decode prog_5_method_1_code 6 = .ok (.newarray .int, 2) := by decide +kernel
theorem d_39_8 : decode prog_5_method_1_code 8 = .ok (.putfield 7, 3) := by decide +kernel
theorem d_39_11 : decode prog_5_method_1_code 11 = .ok (.aload_n 0, 1) := by decide +kernel
theorem d_39_12 : decode prog_5_method_1_code 12 = .ok (.aload_n 1, 1) := by decide +kernel
theorem d_39_13 : decode prog_5_method_1_code 13 = .ok (.putfield 13, 3) := by decide +kernel
theorem d_39_16 : decode prog_5_method_1_code 16 = .ok (.aload_n 0, 1) := by decide +kernel
theorem d_39_17 : decode prog_5_method_1_code 17 = .ok (.aload_n 1, 1) := by decide +kernel
theorem d_39_18 : decode prog_5_method_1_code 18 = .ok (.putfield 17, 3) := by decide +kernel
theorem d_39_21 : decode prog_5_method_1_code 21 = .ok (.return_, 1) := by decide +kernel
set_option maxRecDepth 20000 in
theorem ok_39 : ∀ r ∈ tb_39, sm_ok 39 r := List.forall_mem_cons.mpr ⟨d_39_0, List.forall_mem_cons.mpr ⟨⟨d_39_1, (Or.inl ⟨rfl, wd_132, wd_34, wd_35⟩)⟩, List.forall_mem_cons.mpr ⟨d_39_4, List.forall_mem_cons.mpr ⟨d_39_5, List.forall_mem_cons.mpr ⟨⟨d_39_6, ⟨wd_133, Or.inl ⟨rfl, rfl⟩⟩⟩, List.forall_mem_cons.mpr ⟨⟨d_39_8, pf_49 rfl⟩, List.forall_mem_cons.mpr ⟨d_39_11, List.forall_mem_cons.mpr ⟨d_39_12, List.forall_mem_cons.mpr ⟨⟨d_39_13, pf_50⟩, List.forall_mem_cons.mpr ⟨d_39_16, List.forall_mem_cons.mpr ⟨d_39_17, List.forall_mem_cons.mpr ⟨⟨d_39_18, pf_51⟩, List.forall_mem_cons.mpr ⟨d_39_21, fun _ h => absurd h List.not_mem_nil⟩⟩⟩⟩⟩⟩⟩⟩⟩⟩⟩⟩⟩
theorem d_40_0 : decode prog_5_method_2_code 0 = .ok (.aload_n 0, 1) := by decide +kernel
theorem d_40_1 : decode prog_5_method_2_code 1 = .ok (.aload_n 1, 1) := by decide +kernel
theorem d_40_2 : decode prog_5_method_2_code 2 = .ok (.putfield 13, 3) := by decide +kernel
theorem d_40_5 : decode prog_5_method_2_code 5 = .ok (.aload_n 0, 1) := by decide +kernel
theorem d_40_6 : decode prog_5_method_2_code 6 = .ok (.aload_n 2, 1) := by decide +kernel
theorem d_40_7 : decode prog_5_method_2_code 7 = .ok (.putfield 17, 3) := by decide +kernel
theorem d_40_10 : decode prog_5_method_2_code 10 = .ok (.aload_n 0, 1) := by decide +kernel
theorem d_40_11 : decode prog_5_method_2_code 11 = .ok (.getfield 7, 3) := by decide +kernel
theorem d_40_14 : decode prog_5_method_2_code 14 = .ok (.iconst 0, 1) := by decide +kernel
theorem d_40_15 : decode prog_5_method_2_code 15 = .ok (.iconst 0, 1) := by decide +kernel
theorem d_40_16 : decode prog_5_method_2_code 16 = .ok (.iastore, 1) := by decide +kernel
theorem d_40_17 : decode prog_5_method_2_code 17 = .ok (.aload_n 0, 1) := by decide +kernel
theorem d_40_18 : decode prog_5_method_2_code 18 = .ok (.getfield 7, 3) := by decide +kernel
theorem d_40_21 : decode prog_5_method_2_code 21 = .ok (.iconst 1, 1) := by decide +kernel
theorem d_40_22 : decode prog_5_method_2_code 22 = .ok (.iconst 0, 1) := by decide +kernel
theorem d_40_23 : decode prog_5_method_2_code 23 = .ok (.iastore, 1) := by decide +kernel
theorem d_40_24 : decode prog_5_method_2_code 24 = .ok (.return_, 1) := by decide +kernel
set_option maxRecDepth 20000 in
theorem ok_40 : ∀ r ∈ tb_40, sm_ok 40 r := List.forall_mem_cons.mpr ⟨d_40_0, List.forall_mem_cons.mpr ⟨d_40_1, List.forall_mem_cons.mpr ⟨⟨d_40_2, pf_50⟩, List.forall_mem_cons.mpr ⟨d_40_5, List.forall_mem_cons.mpr ⟨d_40_6, List.forall_mem_cons.mpr ⟨⟨d_40_7, pf_51⟩, List.forall_mem_cons.mpr ⟨d_40_10, List.forall_mem_cons.mpr ⟨⟨d_40_11, Or.inl pf_52⟩, List.forall_mem_cons.mpr ⟨d_40_14, List.forall_mem_cons.mpr ⟨d_40_15, List.forall_mem_cons.mpr ⟨d_40_16, List.forall_mem_cons.mpr ⟨d_40_17, List.forall_mem_cons.mpr ⟨⟨d_40_18, Or.inl pf_52⟩, List.forall_mem_cons.mpr ⟨d_40_21, List.forall_mem_cons.mpr ⟨d_40_22, List.forall_mem_cons.mpr ⟨d_40_23, List.forall_mem_cons.mpr ⟨d_40_24, fun _ h => absurd h List.not_mem_nil⟩⟩⟩⟩⟩⟩⟩⟩⟩⟩⟩⟩⟩⟩⟩⟩⟩
theorem d_41_0 : decode prog_5_method_3_code 0 = .ok (.iload_n 1, 1) := by decide +kernel
theorem d_41_1 : decode prog_5_method_3_code 1 = .ok (.ifCond .ne 10, 3) := by decide +kernel
theorem d_41_4 : decode prog_5_method_3_code 4 = .ok (.aload_n 0, 1) := by decide +kernel
theorem d_41_5 : decode prog_5_method_3_code 5 = .ok (.getfield 13, 3) := by decide +kernel
theorem d_41_8 : decode prog_5_method_3_code 8 = .ok (.goto 7, 3) := by decide +kernel
theorem d_41_11 : decode prog_5_method_3_code 11 = .ok (.aload_n 0, 1) := by decide +kernel
theorem d_41_12 : decode prog_5_method_3_code 12 = .ok (.getfield 17, 3) := by decide +kernel
theorem d_41_15 : decode prog_5_method_3_code 15 = .ok (.areturn, 1) := by decide +kernel
set_option maxRecDepth 20000 in
theorem ok_41 : ∀ r ∈ tb_41, sm_ok 41 r := List.forall_mem_cons.mpr ⟨d_41_0, List.forall_mem_cons.mpr ⟨⟨d_41_1, (by decide)⟩, List.forall_mem_cons.mpr ⟨d_41_4, List.forall_mem_cons.mpr ⟨⟨d_41_5, Or.inl pf_53⟩, List.forall_mem_cons.mpr ⟨⟨d_41_8, (by decide)⟩, List.forall_mem_cons.mpr ⟨d_41_11, List.forall_mem_cons.mpr ⟨⟨d_41_12, Or.inl pf_54⟩, List.forall_mem_cons.mpr ⟨d_41_15, fun _ h => absurd h List.not_mem_nil⟩⟩⟩⟩⟩⟩⟩⟩
theorem d_42_0 : decode prog_5_method_4_code 0 = .ok (.iload_n 1, 1) := by decide +kernel
theorem d_42_1 : decode prog_5_method_4_code 1 = .ok (.ifCond .ne 12, 3) := by decide +kernel
theorem d_42_4 : decode prog_5_method_4_code 4 = .ok (.aload_n 0, 1) := by decide +kernel
theorem d_42_5 : decode prog_5_method_4_code 5 = .ok (.getfield 7, 3) := by decide +kernel
theorem d_42_8 : decode prog_5_method_4_code 8 = .ok (.iconst 0, 1) := by decide +kernel
theorem d_42_9 : decode prog_5_method_4_code 9 = .ok (.iaload, 1) := by decide +kernel
theorem d_42_10 : decode prog_5_method_4_code 10 = .ok (.goto 9, 3) := by decide +kernel
theorem d_42_13 : decode prog_5_method_4_code 13 = .ok (.aload_n 0, 1) := by decide +kernel
theorem d_42_14 : decode prog_5_method_4_code 14 = .ok (.getfield 7, 3) := by decide +kernel
theorem d_42_17 : decode prog_5_method_4_code 17 = .ok (.iconst 1, 1) := by decide +kernel
theorem d_42_18 : decode prog_5_method_4_code 18 = .ok (.iaload, 1) := by decide +kernel
theorem d_42_19 : decode prog_5_method_4_code 19 = .ok (.ireturn, 1) := by decide +kernel
set_option maxRecDepth 20000 in
theorem ok_42 : ∀ r ∈ tb_42, sm_ok 42 r := List.forall_mem_cons.mpr ⟨d_42_0, List.forall_mem_cons.mpr ⟨⟨d_42_1, (by decide)⟩, List.forall_mem_cons.mpr ⟨d_42_4, List.forall_mem_cons.mpr ⟨⟨d_42_5, Or.inl pf_52⟩, List.forall_mem_cons.mpr ⟨d_42_8, List.forall_mem_cons.mpr ⟨d_42_9, List.forall_mem_cons.mpr ⟨⟨d_42_10, (by decide)⟩, List.forall_mem_cons.mpr ⟨d_42_13, List.forall_mem_cons.mpr ⟨⟨d_42_14, Or.inl pf_52⟩, List.forall_mem_cons.mpr ⟨d_42_17, List.forall_mem_cons.mpr ⟨d_42_18, List.forall_mem_cons.mpr ⟨d_42_19, fun _ h => absurd h List.not_mem_nil⟩⟩⟩⟩⟩⟩⟩⟩⟩⟩⟩⟩
theorem d_43_0 : decode prog_5_method_5_code 0 = .ok (.aload_n 0, 1) := by decide +kernel
theorem d_43_1 : decode prog_5_method_5_code 1 = .ok (.getfield 7, 3) := by decide +kernel
theorem d_43_4 : decode prog_5_method_5_code 4 = .ok (.iload_n 1, 1) := by decide +kernel
theorem d_43_5 : decode prog_5_method_5_code 5 = .ok (.ifCond .ne 7, 3) := by decide +kernel
theorem d_43_8 : decode prog_5_method_5_code 8 = .ok (.iconst 0, 1) := by decide +kernel
theorem d_43_9 : decode prog_5_method_5_code 9 = .ok (.goto 4, 3) := by decide +kernel
theorem d_43_12 : decode prog_5_method_5_code 12 = .ok (.iconst 1, 1) := by decide +kernel
theorem d_43_13 : decode prog_5_method_5_code 13 = .ok (.iload_n 2, 1) := by decide +kernel
theorem d_43_14 : decode prog_5_method_5_code 14 = .ok (.iastore, 1) := by decide +kernel
theorem d_43_15 : decode prog_5_method_5_code 15 = .ok (.return_, 1) := by decide +kernel
set_option maxRecDepth 20000 in
theorem ok_43 : ∀ r ∈ tb_43, sm_ok 43 r := List.forall_mem_cons.mpr ⟨d_43_0, List.forall_mem_cons.mpr ⟨⟨d_43_1, Or.inl pf_52⟩, List.forall_mem_cons.mpr ⟨d_43_4, List.forall_mem_cons.mpr ⟨⟨d_43_5, (by decide)⟩, List.forall_mem_cons.mpr ⟨d_43_8, List.forall_mem_cons.mpr ⟨⟨d_43_9, (by decide)⟩, List.forall_mem_cons.mpr ⟨d_43_12, List.forall_mem_cons.mpr ⟨d_43_13, List.forall_mem_cons.mpr ⟨d_43_14, List.forall_mem_cons.mpr ⟨d_43_15, fun _ h => absurd h List.not_mem_nil⟩⟩⟩⟩⟩⟩⟩⟩⟩⟩
theorem d_44_0 : decode prog_4_method_1_code 0 = .ok (.aload_n 0, 1) := by decide +kernel
theorem d_44_1 : decode prog_4_method_1_code 1 = .ok (.invokespecial 3, 3) := by decide +kernel
theorem d_44_4 : decode prog_4_method_1_code 4 = .ok (.aload_n 0, 1) := by decide +kernel
theorem d_44_5 : decode prog_4_method_1_code 5 = .ok (.bipush 80, 2) := by decide +kernel
theorem d_44_7 : decode prog_4_method_1_code 7 = .ok (.newarray .int, 2) := by decide +kernel
theorem d_44_9 : decode prog_4_method_1_code 9 = .ok (.putfield 9, 3) := by decide +kernel
theorem d_44_12 : decode prog_4_method_1_code 12 = .ok (.aload_n 0, 1) := by decide +kernel
theorem d_44_13 : decode prog_4_method_1_code 13 = .ok (.bipush 80, 2) := by decide +kernel
theorem d_44_15 : decode prog_4_method_1_code 15 = .ok (.newarray .int, 2) := by decide +kernel
theorem d_44_17 : decode prog_4_method_1_code 17 = .ok (.putfield 15, 3) := by decide +kernel
theorem d_44_20 : decode prog_4_method_1_code 20 = .ok (.aload_n 0, 1) := by decide +kernel
theorem d_44_21 : decode prog_4_method_1_code 21 = .ok (.bipush 80, 2) := by decide +kernel
theorem d_44_23 : decode prog_4_method_1_code 23 = .ok (.newarray .int, 2) := by decide +kernel
theorem d_44_25 : decode prog_4_method_1_code 25 = .ok (.putfield 18, 3) := by decide +kernel
theorem d_44_28 : decode prog_4_method_1_code 28 = .ok (.aload_n 0, 1) := by decide +kernel
theorem d_44_29 : decode prog_4_method_1_code 29 = .ok (.bipush 80, 2) := by decide +kernel
theorem d_44_31 : decode prog_4_method_1_code 31 = .ok (.newarray .int, 2) := by decide +kernel
theorem d_44_33 : decode prog_4_method_1_code 33 = .ok (.putfield 21, 3) := by decide +kernel
theorem d_44_36 : decode prog_4_method_1_code 36 = .ok (.aload_n 0, 1) := by decide +kernel
theorem d_44_37 : decode prog_4_method_1_code 37 = .ok (.bipush 80, 2) := by decide +kernel
theorem d_44_39 : decode prog_4_method_1_code 39 = .ok (.newarray .long, 2) := by decide +kernel
theorem d_44_41 : decode prog_4_method_1_code 41 = .ok (.putfield 24, 3) := by decide +kernel
theorem d_44_44 : decode prog_4_method_1_code 44 = .ok (.return_, 1) := by decide +kernel
set_option maxRecDepth 20000 in
theorem ok_44 : ∀ r ∈ tb_44, sm_ok 44 r := List.forall_mem_cons.mpr ⟨d_44_0, List.forall_mem_cons.mpr ⟨⟨d_44_1, (Or.inl ⟨rfl, wd_137, wd_34, wd_35⟩)⟩, List.forall_mem_cons.mpr ⟨d_44_4, List.forall_mem_cons.mpr ⟨d_44_5, List.forall_mem_cons.mpr ⟨⟨d_44_7, ⟨wd_133, Or.inl ⟨rfl, rfl⟩⟩⟩, List.forall_mem_cons.mpr ⟨⟨d_44_9, pf_55 rfl⟩, List.forall_mem_cons.mpr ⟨d_44_12, List.forall_mem_cons.mpr ⟨d_44_13, List.forall_mem_cons.mpr ⟨⟨d_44_15, ⟨wd_133, Or.inl ⟨rfl, rfl⟩⟩⟩, List.forall_mem_cons.mpr ⟨⟨d_44_17, pf_56 rfl⟩, List.forall_mem_cons.mpr ⟨d_44_20, List.forall_mem_cons.mpr ⟨d_44_21, List.forall_mem_cons.mpr ⟨⟨d_44_23, ⟨wd_133, Or.inl ⟨rfl, rfl⟩⟩⟩, List.forall_mem_cons.mpr ⟨⟨d_44_25, pf_57 rfl⟩, List.forall_mem_cons.mpr ⟨d_44_28, List.forall_mem_cons.mpr ⟨d_44_29, List.forall_mem_cons.mpr ⟨⟨d_44_31, ⟨wd_133, Or.inl ⟨rfl, rfl⟩⟩⟩, List.forall_mem_cons.mpr ⟨⟨d_44_33, pf_58 rfl⟩, List.forall_mem_cons.mpr ⟨d_44_36, List.forall_mem_cons.mpr ⟨d_44_37, List.forall_mem_cons.mpr ⟨⟨d_44_39, ⟨wd_60, Or.inr (Or.inl ⟨rfl, rfl⟩)⟩⟩, List.forall_mem_cons.mpr ⟨⟨d_44_41, pf_59 rfl⟩, List.forall_mem_cons.mpr ⟨d_44_44, fun _ h => absurd h List.not_mem_nil⟩⟩⟩⟩⟩⟩⟩⟩⟩⟩⟩⟩⟩⟩⟩⟩⟩⟩⟩⟩⟩⟩⟩
theorem d_45_0 : decode prog_4_method_2_code 0 = .ok (.aload_n 0, 1) := by decide +kernel
theorem d_45_1 : decode prog_4_method_2_code 1 = .ok (.iconst 0, 1) := by decide +kernel
theorem d_45_2 : decode prog_4_method_2_code 2 = .ok (.putfield 28, 3) := by decide +kernel
theorem d_45_5 : decode prog_4_method_2_code 5 = .ok (.return_, 1) := by decide +kernel
set_option maxRecDepth 20000 in
theorem ok_45 : ∀ r ∈ tb_45, sm_ok 45 r := List.forall_mem_cons.mpr ⟨d_45_0, List.forall_mem_cons.mpr ⟨d_45_1, List.forall_mem_cons.mpr ⟨⟨d_45_2, pf_60⟩, List.forall_mem_cons.mpr ⟨d_45_5, fun _ h => absurd h List.not_mem_nil⟩⟩⟩⟩
theorem d_46_0 : decode prog_4_method_3_code 0 = .ok (.aload_n 0, 1) := by decide +kernel
theorem d_46_1 : decode prog_4_method_3_code 1 = .ok (.iload_n 1, 1) := by decide +kernel
theorem d_46_2 : decode prog_4_method_3_code 2 = .ok (.iconst 0, 1) := by decide +kernel
theorem d_46_3 : decode prog_4_method_3_code 3 = .ok (.iconst (-1), 1) := by decide +kernel
theorem d_46_4 : decode prog_4_method_3_code 4 = .ok (.invokevirtual 32, 3) := by decide +kernel
theorem d_46_7 : decode prog_4_method_3_code 7 = .ok (.return_, 1) := by decide +kernel
set_option maxRecDepth 20000 in
theorem ok_46 : ∀ r ∈ tb_46, sm_ok 46 r := List.forall_mem_cons.mpr ⟨d_46_0, List.forall_mem_cons.mpr ⟨d_46_1, List.forall_mem_cons.mpr ⟨d_46_2, List.forall_mem_cons.mpr ⟨d_46_3, List.forall_mem_cons.mpr ⟨⟨d_46_4, ⟨mo_47, mi_47, se_47, pm_73⟩⟩, List.forall_mem_cons.mpr ⟨d_46_7, fun _ h => absurd h List.not_mem_nil⟩⟩⟩⟩⟩⟩
theorem d_47_0 : decode prog_4_method_4_code 0 = .ok (.aload_n 0, 1) := by decide +kernel
theorem d_47_1 : decode prog_4_method_4_code 1 = .ok (.getfield 28, 3) := by decide +kernel
theorem d_47_4 : decode prog_4_method_4_code 4 = .ok (.bipush 80, 2) := by decide +kernel
theorem d_47_6 : decode prog_4_method_4_code 6 = .ok (.if_icmp .ge 53, 3) := by decide +kernel
theorem d_47_9 : decode prog_4_method_4_code 9 = .ok (.aload_n 0, 1) := by decide +kernel
theorem d_47_10 : decode prog_4_method_4_code 10 = .ok (.getfield 9, 3) := by decide +kernel
theorem d_47_13 : decode prog_4_method_4_code 13 = .ok (.aload_n 0, 1) := by decide +kernel
theorem d_47_14 : decode prog_4_method_4_code 14 = .ok (.getfield 28, 3) := by decide +kernel
theorem d_47_17 : decode prog_4_method_4_code 17 = .ok (.iload_n 1, 1) := by decide +kernel
theorem d_47_18 : decode prog_4_method_4_code 18 = .ok (.iastore, 1) := by decide +kernel
theorem d_47_19 : decode prog_4_method_4_code 19 = .ok (.aload_n 0, 1) := by decide +kernel
theorem d_47_20 : decode prog_4_method_4_code 20 = .ok (.getfield 15, 3) := by decide +kernel
theorem d_47_23 : decode prog_4_method_4_code 23 = .ok (.aload_n 0, 1) := by decide +kernel
theorem d_47_24 : decode prog_4_method_4_code 24 = .ok (.getfield 28, 3) := by decide +kernel
theorem d_47_27 : decode prog_4_method_4_code 27 = .ok (.iload_n 2, 1) := by decide +kernel
theorem d_47_28 : decode prog_4_method_4_code 28 = .ok (.iastore, 1) := by decide +kernel
theorem d_47_29 : decode prog_4_method_4_code 29 = .ok (.aload_n 0, 1) := by decide +kernel
theorem d_47_30 : decode prog_4_method_4_code 30 = .ok (.getfield 18, 3) := by decide +kernel
theorem d_47_33 : decode prog_4_method_4_code 33 = .ok (.aload_n 0, 1) := by decide +kernel
theorem d_47_34 : decode prog_4_method_4_code 34 = .ok (.getfield 28, 3) := by decide +kernel
theorem d_47_37 : decode prog_4_method_4_code 37 = .ok (.iload_n 3, 1) := by decide +kernel
theorem d_47_38 : decode prog_4_method_4_code 38 = .ok (.iastore, 1) := by decide +kernel
theorem d_47_39 : decode prog_4_method_4_code 39 = .ok (.aload_n 0, 1) := by decide +kernel
theorem d_47_40 : decode prog_4_method_4_code 40 = .ok (.getfield 21, 3) := by decide +kernel
theorem d_47_43 : decode prog_4_method_4_code 43 = .ok (.aload_n 0, 1) := by decide +kernel
theorem d_47_44 : decode prog_4_method_4_code 44 = .ok (.getfield 28, 3) := by decide +kernel
theorem d_47_47 : decode prog_4_method_4_code 47 = .ok (.iconst 0, 1) := by decide +kernel
theorem d_47_48 : decode prog_4_method_4_code 48 = .ok (.iastore, 1) := by decide +kernel
theorem d_47_49 : decode prog_4_method_4_code 49 = .ok (.aload_n 0, 1) := by decide +kernel
theorem d_47_50 : decode prog_4_method_4_code 50 = .ok (.dup, 1) := by decide +kernel
theorem d_47_51 : decode prog_4_method_4_code 51 = .ok (.getfield 28, 3) := by decide +kernel
theorem d_47_54 : decode prog_4_method_4_code 54 = .ok (.iconst 1, 1) := by decide +kernel
theorem d_47_55 : decode prog_4_method_4_code 55 = .ok (.iadd, 1) := by decide +kernel
theorem d_47_56 : decode prog_4_method_4_code 56 = .ok (.putfield 28, 3) := by decide +kernel
theorem d_47_59 : decode prog_4_method_4_code 59 = .ok (.return_, 1) := by decide +kernel
set_option maxRecDepth 20000 in
theorem ok_47 : ∀ r ∈ tb_47, sm_ok 47 r := List.forall_mem_cons.mpr ⟨d_47_0, List.forall_mem_cons.mpr ⟨⟨d_47_1, Or.inl pf_61⟩, List.forall_mem_cons.mpr ⟨d_47_4, List.forall_mem_cons.mpr ⟨⟨d_47_6, (by decide)⟩, List.forall_mem_cons.mpr ⟨d_47_9, List.forall_mem_cons.mpr ⟨⟨d_47_10, Or.inl pf_62⟩, List.forall_mem_cons.mpr ⟨d_47_13, List.forall_mem_cons.mpr ⟨⟨d_47_14, Or.inl pf_61⟩, List.forall_mem_cons.mpr ⟨d_47_17, List.forall_mem_cons.mpr ⟨d_47_18, List.forall_mem_cons.mpr ⟨d_47_19, List.forall_mem_cons.mpr ⟨⟨d_47_20, Or.inl pf_63⟩, List.forall_mem_cons.mpr ⟨d_47_23, List.forall_mem_cons.mpr ⟨⟨d_47_24, Or.inl pf_61⟩, List.forall_mem_cons.mpr ⟨d_47_27, List.forall_mem_cons.mpr ⟨d_47_28, List.forall_mem_cons.mpr ⟨d_47_29, List.forall_mem_cons.mpr ⟨⟨d_47_30, Or.inl pf_64⟩, List.forall_mem_cons.mpr ⟨d_47_33, List.forall_mem_cons.mpr ⟨⟨d_47_34, Or.inl pf_61⟩, List.forall_mem_cons.mpr ⟨d_47_37, List.forall_mem_cons.mpr ⟨d_47_38, List.forall_mem_cons.mpr ⟨d_47_39, List.forall_mem_cons.mpr ⟨⟨d_47_40, Or.inl pf_65⟩, List.forall_mem_cons.mpr ⟨d_47_43, List.forall_mem_cons.mpr ⟨⟨d_47_44, Or.inl pf_61⟩, List.forall_mem_cons.mpr ⟨d_47_47, List.forall_mem_cons.mpr ⟨d_47_48, List.forall_mem_cons.mpr ⟨d_47_49, List.forall_mem_cons.mpr ⟨d_47_50, List.forall_mem_cons.mpr ⟨⟨d_47_51, Or.inl pf_61⟩, List.forall_mem_cons.mpr ⟨d_47_54, List.forall_mem_cons.mpr ⟨d_47_55, List.forall_mem_cons.mpr ⟨⟨d_47_56, pf_60⟩, List.forall_mem_cons.mpr ⟨d_47_59, fun _ h => absurd h List.not_mem_nil⟩⟩⟩⟩⟩⟩⟩⟩⟩⟩⟩⟩⟩⟩⟩⟩⟩⟩⟩⟩⟩⟩⟩⟩⟩⟩⟩⟩⟩⟩⟩⟩⟩⟩⟩
theorem d_48_0 : decode prog_4_method_5_code 0 = .ok (.iload_n 1, 1) := by decide +kernel
theorem d_48_1 : decode prog_4_method_5_code 1 = .ok (.ifCond .lt 25, 3) := by decide +kernel
theorem d_48_4 : decode prog_4_method_5_code 4 = .ok (.iload_n 1, 1) := by decide +kernel
theorem d_48_5 : decode prog_4_method_5_code 5 = .ok (.aload_n 0, 1) := by decide +kernel
theorem d_48_6 : decode prog_4_method_5_code 6 = .ok (.getfield 28, 3) := by decide +kernel
theorem d_48_9 : decode prog_4_method_5_code 9 = .ok (.if_icmp .ge 17, 3) := by decide +kernel
theorem d_48_12 : decode prog_4_method_5_code 12 = .ok (.aload_n 0, 1) := by decide +kernel
theorem d_48_13 : decode prog_4_method_5_code 13 = .ok (.getfield 9, 3) := by decide +kernel
theorem d_48_16 : decode prog_4_method_5_code 16 = .ok (.iload_n 1, 1) := by decide +kernel
theorem d_48_17 : decode prog_4_method_5_code 17 = .ok (.iaload, 1) := by decide +kernel
theorem d_48_18 : decode prog_4_method_5_code 18 = .ok (.iconst 3, 1) := by decide +kernel
theorem d_48_19 : decode prog_4_method_5_code 19 = .ok (.if_icmp .ne 7, 3) := by decide +kernel
theorem d_48_22 : decode prog_4_method_5_code 22 = .ok (.iconst 1, 1) := by decide +kernel
theorem d_48_23 : decode prog_4_method_5_code 23 = .ok (.goto 4, 3) := by decide +kernel
theorem d_48_26 : decode prog_4_method_5_code 26 = .ok (.iconst 0, 1) := by decide +kernel
theorem d_48_27 : decode prog_4_method_5_code 27 = .ok (.ireturn, 1) := by decide +kernel
set_option maxRecDepth 20000 in
theorem ok_48 : ∀ r ∈ tb_48, sm_ok 48 r := List.forall_mem_cons.mpr ⟨d_48_0, List.forall_mem_cons.mpr ⟨⟨d_48_1, (by decide)⟩, List.forall_mem_cons.mpr ⟨d_48_4, List.forall_mem_cons.mpr ⟨d_48_5, List.forall_mem_cons.mpr ⟨⟨d_48_6, Or.inl pf_61⟩, List.forall_mem_cons.mpr ⟨⟨d_48_9, (by decide)⟩, List.forall_mem_cons.mpr ⟨d_48_12, List.forall_mem_cons.mpr ⟨⟨d_48_13, Or.inl pf_62⟩, List.forall_mem_cons.mpr ⟨d_48_16, List.forall_mem_cons.mpr ⟨d_48_17, List.forall_mem_cons.mpr ⟨d_48_18, List.forall_mem_cons.mpr ⟨⟨d_48_19, (by decide)⟩, List.forall_mem_cons.mpr ⟨d_48_22, List.forall_mem_cons.mpr ⟨⟨d_48_23, (by decide)⟩, List.forall_mem_cons.mpr ⟨d_48_26, List.forall_mem_cons.mpr ⟨d_48_27, fun _ h => absurd h List.not_mem_nil⟩⟩⟩⟩⟩⟩⟩⟩⟩⟩⟩⟩⟩⟩⟩⟩
theorem d_49_0 : decode prog_4_method_6_code 0 = .ok (.iconst 0, 1) := by decide +kernel
theorem d_49_1 : decode prog_4_method_6_code 1 = .ok (.istore_n 3, 1) := by decide +kernel
theorem d_49_2 : decode prog_4_method_6_code 2 = .ok (.iload_n 1, 1) := by decide +kernel
theorem d_49_3 : decode prog_4_method_6_code 3 = .ok (.istore 4, 2) := by decide +kernel
theorem d_49_5 : decode prog_4_method_6_code 5 = .ok (.iload 4, 2) := by decide +kernel
theorem d_49_7 : decode prog_4_method_6_code 7 = .ok (.iload_n 2, 1) := by decide +kernel
theorem d_49_8 : decode prog_4_method_6_code 8 = .ok (.if_icmp .ge 30, 3) := by decide +kernel
theorem d_49_11 : decode prog_4_method_6_code 11 = .ok (.aload_n 0, 1) := by decide +kernel
theorem d_49_12 : decode prog_4_method_6_code 12 = .ok (.iload 4, 2) := by decide +kernel
theorem d_49_14 : decode prog_4_method_6_code 14 = .ok (.invokevirtual 38, 3) := by decide +kernel
theorem d_49_17 : decode prog_4_method_6_code 17 = .ok (.ifCond .eq 15, 3) := by decide +kernel
theorem d_49_20 : decode prog_4_method_6_code 20 = .ok (.iload_n 3, 1) := by decide +kernel
theorem d_49_21 : decode prog_4_method_6_code 21 = .ok (.iconst 1, 1) := by decide +kernel
theorem d_49_22 : decode prog_4_method_6_code 22 = .ok (.aload_n 0, 1) := by decide +kernel
theorem d_49_23 : decode prog_4_method_6_code 23 = .ok (.getfield 21, 3) := by decide +kernel
theorem d_49_26 : decode prog_4_method_6_code 26 = .ok (.iload 4, 2) := by decide +kernel
theorem d_49_28 : decode prog_4_method_6_code 28 = .ok (.iaload, 1) := by decide +kernel
theorem d_49_29 : decode prog_4_method_6_code 29 = .ok (.ishl, 1) := by decide +kernel
theorem d_49_30 : decode prog_4_method_6_code 30 = .ok (.ior, 1) := by decide +kernel
theorem d_49_31 : decode prog_4_method_6_code 31 = .ok (.istore_n 3, 1) := by decide +kernel
theorem d_49_32 : decode prog_4_method_6_code 32 = .ok (.iinc 4 1, 3) := by decide +kernel
theorem d_49_35 : decode prog_4_method_6_code 35 = .ok (.goto (-30), 3) := by decide +kernel
theorem d_49_38 : decode prog_4_method_6_code 38 = .ok (.iload_n 3, 1) := by decide +kernel
theorem d_49_39 : decode prog_4_method_6_code 39 = .ok (.ireturn, 1) := by decide +kernel
set_option maxRecDepth 20000 in
theorem ok_49 : ∀ r ∈ tb_49, sm_ok 49 r := List.forall_mem_cons.mpr ⟨d_49_0, List.forall_mem_cons.mpr ⟨d_49_1, List.forall_mem_cons.mpr ⟨d_49_2, List.forall_mem_cons.mpr ⟨d_49_3, List.forall_mem_cons.mpr ⟨d_49_5, List.forall_mem_cons.mpr ⟨d_49_7, List.forall_mem_cons.mpr ⟨⟨d_49_8, (by decide)⟩, List.forall_mem_cons.mpr ⟨d_49_11, List.forall_mem_cons.mpr ⟨d_49_12, List.forall_mem_cons.mpr ⟨⟨d_49_14, ⟨mo_48, mi_48, se_48, pm_74⟩⟩, List.forall_mem_cons.mpr ⟨⟨d_49_17, (by decide)⟩, List.forall_mem_cons.mpr ⟨d_49_20, List.forall_mem_cons.mpr ⟨d_49_21, List.forall_mem_cons.mpr ⟨d_49_22, List.forall_mem_cons.mpr ⟨⟨d_49_23, Or.inl pf_65⟩, List.forall_mem_cons.mpr ⟨d_49_26, List.forall_mem_cons.mpr ⟨d_49_28, List.forall_mem_cons.mpr ⟨d_49_29, List.forall_mem_cons.mpr ⟨d_49_30, List.forall_mem_cons.mpr ⟨d_49_31, List.forall_mem_cons.mpr ⟨d_49_32, List.forall_mem_cons.mpr ⟨⟨d_49_35, (by decide)⟩, List.forall_mem_cons.mpr ⟨d_49_38, List.forall_mem_cons.mpr ⟨d_49_39, fun _ h => absurd h List.not_mem_nil⟩⟩⟩⟩⟩⟩⟩⟩⟩⟩⟩⟩⟩⟩⟩⟩⟩⟩⟩⟩⟩⟩⟩⟩
theorem d_50_0 : decode prog_4_method_7_code 0 = .ok (.iload_n 2, 1) := by decide +kernel
theorem d_50_1 : decode prog_4_method_7_code 1 = .ok (.iload_n 1, 1) := by decide +kernel
theorem d_50_2 : decode prog_4_method_7_code 2 = .ok (.isub, 1) := by decide +kernel
theorem d_50_3 : decode prog_4_method_7_code 3 = .ok (.iconst 1, 1) := by decide +kernel
theorem d_50_4 : decode prog_4_method_7_code 4 = .ok (.if_icmp .ne 30, 3) := by decide +kernel
theorem d_50_7 : decode prog_4_method_7_code 7 = .ok (.aload_n 0, 1) := by decide +kernel
theorem d_50_8 : decode prog_4_method_7_code 8 = .ok (.iload_n 1, 1) := by decide +kernel
theorem d_50_9 : decode prog_4_method_7_code 9 = .ok (.invokevirtual 38, 3) := by decide +kernel
theorem d_50_12 : decode prog_4_method_7_code 12 = .ok (.ifCond .eq 22, 3) := by decide +kernel
theorem d_50_15 : decode prog_4_method_7_code 15 = .ok (.aload_n 0, 1) := by decide +kernel
theorem d_50_16 : decode prog_4_method_7_code 16 = .ok (.getfield 21, 3) := by decide +kernel
theorem d_50_19 : decode prog_4_method_7_code 19 = .ok (.iload_n 1, 1) := by decide +kernel
theorem d_50_20 : decode prog_4_method_7_code 20 = .ok (.iaload, 1) := by decide +kernel
theorem d_50_21 : decode prog_4_method_7_code 21 = .ok (.iload_n 3, 1) := by decide +kernel
theorem d_50_22 : decode prog_4_method_7_code 22 = .ok (.if_icmp .ne 12, 3) := by decide +kernel
theorem d_50_25 : decode prog_4_method_7_code 25 = .ok (.aload_n 0, 1) := by decide +kernel
theorem d_50_26 : decode prog_4_method_7_code 26 = .ok (.getfield 15, 3) := by decide +kernel
theorem d_50_29 : decode prog_4_method_7_code 29 = .ok (.iload_n 1, 1) := by decide +kernel
theorem d_50_30 : decode prog_4_method_7_code 30 = .ok (.iaload, 1) := by decide +kernel
theorem d_50_31 : decode prog_4_method_7_code 31 = .ok (.goto 4, 3) := by decide +kernel
theorem d_50_34 : decode prog_4_method_7_code 34 = .ok (.iconst (-1), 1) := by decide +kernel
theorem d_50_35 : decode prog_4_method_7_code 35 = .ok (.ireturn, 1) := by decide +kernel
set_option maxRecDepth 20000 in
theorem ok_50 : ∀ r ∈ tb_50, sm_ok 50 r := List.forall_mem_cons.mpr ⟨d_50_0, List.forall_mem_cons.mpr ⟨d_50_1, List.forall_mem_cons.mpr ⟨d_50_2, List.forall_mem_cons.mpr ⟨d_50_3, List.forall_mem_cons.mpr ⟨⟨d_50_4, (by decide)⟩, List.forall_mem_cons.mpr ⟨d_50_7, List.forall_mem_cons.mpr ⟨d_50_8, List.forall_mem_cons.mpr ⟨⟨d_50_9, ⟨mo_48, mi_48, se_48, pm_74⟩⟩, List.forall_mem_cons.mpr ⟨⟨d_50_12, (by decide)⟩, List.forall_mem_cons.mpr ⟨d_50_15, List.forall_mem_cons.mpr ⟨⟨d_50_16, Or.inl pf_65⟩, List.forall_mem_cons.mpr ⟨d_50_19, List.forall_mem_cons.mpr ⟨d_50_20, List.forall_mem_cons.mpr ⟨d_50_21, List.forall_mem_cons.mpr ⟨⟨d_50_22, (by decide)⟩, List.forall_mem_cons.mpr ⟨d_50_25, List.forall_mem_cons.mpr ⟨⟨d_50_26, Or.inl pf_63⟩, List.forall_mem_cons.mpr ⟨d_50_29, List.forall_mem_cons.mpr ⟨d_50_30, List.forall_mem_cons.mpr ⟨⟨d_50_31, (by decide)⟩, List.forall_mem_cons.mpr ⟨d_50_34, List.forall_mem_cons.mpr ⟨d_50_35, fun _ h => absurd h List.not_mem_nil⟩⟩⟩⟩⟩⟩⟩⟩⟩⟩⟩⟩⟩⟩⟩⟩⟩⟩⟩⟩⟩⟩
theorem d_51_0 : decode prog_4_method_8_code 0 = .ok (.iconst 0, 1) := by decide +kernel
theorem d_51_1 : decode prog_4_method_8_code 1 = .ok (.istore 4, 2) := by decide +kernel
theorem d_51_3 : decode prog_4_method_8_code 3 = .ok (.iload_n 1, 1) := by decide +kernel
theorem d_51_4 : decode prog_4_method_8_code 4 = .ok (.iconst 0, 1) := by decide +kernel
theorem d_51_5 : decode prog_4_method_8_code 5 = .ok (.invokestatic 42, 3) := by decide +kernel
theorem d_51_8 : decode prog_4_method_8_code 8 = .ok (.istore 5, 2) := by decide +kernel
theorem d_51_10 : decode prog_4_method_8_code 10 = .ok (.iload 5, 2) := by decide +kernel
theorem d_51_12 : decode prog_4_method_8_code 12 = .ok (.iload_n 2, 1) := by decide +kernel
theorem d_51_13 : decode prog_4_method_8_code 13 = .ok (.if_icmp .ge 154, 3) := by decide +kernel
theorem d_51_16 : decode prog_4_method_8_code 16 = .ok (.iload 5, 2) := by decide +kernel
theorem d_51_18 : decode prog_4_method_8_code 18 = .ok (.aload_n 0, 1) := by decide +kernel
theorem d_51_19 : decode prog_4_method_8_code 19 = .ok (.getfield 28, 3) := by decide +kernel
theorem d_51_22 : decode prog_4_method_8_code 22 = .ok (.if_icmp .ge 145, 3) := by decide +kernel
theorem d_51_25 : decode prog_4_method_8_code 25 = .ok (.aload_n 0, 1) := by decide +kernel
theorem d_51_26 : decode prog_4_method_8_code 26 = .ok (.getfield 9, 3) := by decide +kernel
theorem d_51_29 : decode prog_4_method_8_code 29 = .ok (.iload 5, 2) := by decide +kernel
theorem d_51_31 : decode prog_4_method_8_code 31 = .ok (.iaload, 1) := by decide +kernel
theorem d_51_32 : decode prog_4_method_8_code 32 = .ok (.invokestatic 48, 3) := by decide +kernel
theorem d_51_35 : decode prog_4_method_8_code 35 = .ok (.istore 6, 2) := by decide +kernel
theorem d_51_37 : decode prog_4_method_8_code 37 = .ok (.iload 6, 2) := by decide +kernel
theorem d_51_39 : decode prog_4_method_8_code 39 = .ok (.ifCond .ne 30, 3) := by decide +kernel
theorem d_51_42 : decode prog_4_method_8_code 42 = .ok (.iload 4, 2) := by decide +kernel
theorem d_51_44 : decode prog_4_method_8_code 44 = .ok (.bipush 80, 2) := by decide +kernel
theorem d_51_46 : decode prog_4_method_8_code 46 = .ok (.if_icmp .ge 23, 3) := by decide +kernel
theorem d_51_49 : decode prog_4_method_8_code 49 = .ok (.aload_n 0, 1) := by decide +kernel
theorem d_51_50 : decode prog_4_method_8_code 50 = .ok (.getfield 24, 3) := by decide +kernel
theorem d_51_53 : decode prog_4_method_8_code 53 = .ok (.iload 4, 2) := by decide +kernel
theorem d_51_55 : decode prog_4_method_8_code 55 = .ok (.aload_n 0, 1) := by decide +kernel
theorem d_51_56 : decode prog_4_method_8_code 56 = .ok (.iload 5, 2) := by decide +kernel
theorem d_51_58 : decode prog_4_method_8_code 58 = .ok (.aload_n 3, 1) := by decide +kernel
theorem d_51_59 : decode prog_4_method_8_code 59 = .ok (.invokevirtual 52, 3) := by decide +kernel
theorem d_51_62 : decode prog_4_method_8_code 62 = .ok (.lastore, 1) := by decide +kernel
theorem d_51_63 : decode prog_4_method_8_code 63 = .ok (.iinc 4 1, 3) := by decide +kernel
theorem d_51_66 : decode prog_4_method_8_code 66 = .ok (.goto 95, 3) := by decide +kernel
theorem d_51_69 : decode prog_4_method_8_code 69 = .ok (.iload 6, 2) := by decide +kernel
theorem d_51_71 : decode prog_4_method_8_code 71 = .ok (.iconst 1, 1) := by decide +kernel
theorem d_51_72 : decode prog_4_method_8_code 72 = .ok (.if_icmp .ne 39, 3) := by decide +kernel
theorem d_51_75 : decode prog_4_method_8_code 75 = .ok (.iload 4, 2) := by decide +kernel
theorem d_51_77 : decode prog_4_method_8_code 77 = .ok (.ifCond .le 34, 3) := by decide +kernel
theorem d_51_80 : decode prog_4_method_8_code 80 = .ok (.aload_n 0, 1) := by decide +kernel
theorem d_51_81 : decode prog_4_method_8_code 81 = .ok (.getfield 24, 3) := by decide +kernel
theorem d_51_84 : decode prog_4_method_8_code 84 = .ok (.iload 4, 2) := by decide +kernel
theorem d_51_86 : decode prog_4_method_8_code 86 = .ok (.iconst 1, 1) := by decide +kernel
theorem d_51_87 : decode prog_4_method_8_code 87 = .ok (.isub, 1) := by decide +kernel
theorem d_51_88 : decode prog_4_method_8_code 88 = .ok (.aload_n 0, 1) := by decide +kernel
theorem d_51_89 : decode prog_4_method_8_code 89 = .ok (.getfield 9, 3) := by decide +kernel
theorem d_51_92 : decode prog_4_method_8_code 92 = .ok (.iload 5, 2) := by decide +kernel
theorem d_51_94 : decode prog_4_method_8_code 94 = .ok (.iaload, 1) := by decide +kernel
theorem d_51_95 : decode prog_4_method_8_code 95 = .ok (.aload_n 0, 1) := by decide +kernel
theorem d_51_96 : decode prog_4_method_8_code 96 = .ok (.getfield 24, 3) := by decide +kernel
theorem d_51_99 : decode prog_4_method_8_code 99 = .ok (.iload 4, 2) := by decide +kernel
theorem d_51_101 : decode prog_4_method_8_code 101 = .ok (.iconst 1, 1) := by decide +kernel
theorem d_51_102 : decode prog_4_method_8_code 102 = .ok (.isub, 1) := by decide +kernel
theorem d_51_103 : decode prog_4_method_8_code 103 = .ok (.laload, 1) := by decide +kernel
theorem d_51_104 : decode prog_4_method_8_code 104 = .ok (.invokestatic 56, 3) := by decide +kernel
theorem d_51_107 : decode prog_4_method_8_code 107 = .ok (.lastore, 1) := by decide +kernel
theorem d_51_108 : decode prog_4_method_8_code 108 = .ok (.goto 53, 3) := by decide +kernel
theorem d_51_111 : decode prog_4_method_8_code 111 = .ok (.iload 6, 2) := by decide +kernel
theorem d_51_113 : decode prog_4_method_8_code 113 = .ok (.iconst 2, 1) := by decide +kernel
theorem d_51_114 : decode prog_4_method_8_code 114 = .ok (.if_icmp .ne 47, 3) := by decide +kernel
theorem d_51_117 : decode prog_4_method_8_code 117 = .ok (.iload 4, 2) := by decide +kernel
theorem d_51_119 : decode prog_4_method_8_code 119 = .ok (.iconst 1, 1) := by decide +kernel
theorem d_51_120 : decode prog_4_method_8_code 120 = .ok (.if_icmp .le 41, 3) := by decide +kernel
theorem d_51_123 : decode prog_4_method_8_code 123 = .ok (.iinc 4 (-1), 3) := by decide +kernel
theorem d_51_126 : decode prog_4_method_8_code 126 = .ok (.aload_n 0, 1) := by decide +kernel
theorem d_51_127 : decode prog_4_method_8_code 127 = .ok (.getfield 24, 3) := by decide +kernel
theorem d_51_130 : decode prog_4_method_8_code 130 = .ok (.iload 4, 2) := by decide +kernel
theorem d_51_132 : decode prog_4_method_8_code 132 = .ok (.iconst 1, 1) := by decide +kernel
theorem d_51_133 : decode prog_4_method_8_code 133 = .ok (.isub, 1) := by decide +kernel
theorem d_51_134 : decode prog_4_method_8_code 134 = .ok (.aload_n 0, 1) := by decide +kernel
theorem d_51_135 : decode prog_4_method_8_code 135 = .ok (.getfield 9, 3) := by decide +kernel
theorem d_51_138 : decode prog_4_method_8_code 138 = .ok (.iload 5, 2) := by decide +kernel
theorem d_51_140 : decode prog_4_method_8_code 140 = .ok (.iaload, 1) := by decide +kernel
theorem d_51_141 : decode prog_4_method_8_code 141 = .ok (.aload_n 0, 1) := by decide +kernel
theorem d_51_142 : decode prog_4_method_8_code 142 = .ok (.getfield 24, 3) := by decide +kernel
theorem d_51_145 : decode prog_4_method_8_code 145 = .ok (.iload 4, 2) := by decide +kernel
theorem d_51_147 : decode prog_4_method_8_code 147 = .ok (.iconst 1, 1) := by decide +kernel
theorem d_51_148 : decode prog_4_method_8_code 148 = .ok (.isub, 1) := by decide +kernel
theorem d_51_149 : decode prog_4_method_8_code 149 = .ok (.laload, 1) := by decide +kernel
theorem d_51_150 : decode prog_4_method_8_code 150 = .ok (.aload_n 0, 1) := by decide +kernel
theorem d_51_151 : decode prog_4_method_8_code 151 = .ok (.getfield 24, 3) := by decide +kernel
theorem d_51_154 : decode prog_4_method_8_code 154 = .ok (.iload 4, 2) := by decide +kernel
theorem d_51_156 : decode prog_4_method_8_code 156 = .ok (.laload, 1) := by decide +kernel
theorem d_51_157 : decode prog_4_method_8_code 157 = .ok (.invokestatic 60, 3) := by decide +kernel
theorem d_51_160 : decode prog_4_method_8_code 160 = .ok (.lastore, 1) := by decide +kernel
theorem d_51_161 : decode prog_4_method_8_code 161 = .ok (.iinc 5 1, 3) := by decide +kernel
theorem d_51_164 : decode prog_4_method_8_code 164 = .ok (.goto (-154), 3) := by decide +kernel
theorem d_51_167 : decode prog_4_method_8_code 167 = .ok (.iload 4, 2) := by decide +kernel
theorem d_51_169 : decode prog_4_method_8_code 169 = .ok (.ifCond .le 12, 3) := by decide +kernel
theorem d_51_172 : decode prog_4_method_8_code 172 = .ok (.aload_n 0, 1) := by decide +kernel
theorem d_51_173 : decode prog_4_method_8_code 173 = .ok (.getfield 24, 3) := by decide +kernel
theorem d_51_176 : decode prog_4_method_8_code 176 = .ok (.iconst 0, 1) := by decide +kernel
theorem d_51_177 : decode prog_4_method_8_code 177 = .ok (.laload, 1) := by decide +kernel
theorem d_51_178 : decode prog_4_method_8_code 178 = .ok (.goto 6, 3) := by decide +kernel
theorem d_51_181 : decode prog_4_method_8_code 181 = .ok (.ldc2_w 64, 3) := by decide +kernel
theorem d_51_184 : decode prog_4_method_8_code 184 = .ok (.lreturn, 1) := by decide +kernel
set_option maxRecDepth 20000 in
theorem ok_51 : ∀ r ∈ tb_51, sm_ok 51 r := List.forall_mem_cons.mpr ⟨d_51_0, List.forall_mem_cons.mpr ⟨d_51_1, List.forall_mem_cons.mpr ⟨d_51_3, List.forall_mem_cons.mpr ⟨d_51_4, List.forall_mem_cons.mpr ⟨⟨d_51_5, (Or.inr ((Or.inr ((Or.inr (Or.inl ⟨rfl, wd_146, wd_147, wd_116, wd_148⟩))))))⟩, List.forall_mem_cons.mpr ⟨d_51_8, List.forall_mem_cons.mpr ⟨d_51_10, List.forall_mem_cons.mpr ⟨d_51_12, List.forall_mem_cons.mpr ⟨⟨d_51_13, (by decide)⟩, List.forall_mem_cons.mpr ⟨d_51_16, List.forall_mem_cons.mpr ⟨d_51_18, List.forall_mem_cons.mpr ⟨⟨d_51_19, Or.inl pf_61⟩, List.forall_mem_cons.mpr ⟨⟨d_51_22, (by decide)⟩, List.forall_mem_cons.mpr ⟨d_51_25, List.forall_mem_cons.mpr ⟨⟨d_51_26, Or.inl pf_62⟩, List.forall_mem_cons.mpr ⟨d_51_29, List.forall_mem_cons.mpr ⟨d_51_31, List.forall_mem_cons.mpr ⟨⟨d_51_32, (Or.inl ⟨Nat.le_of_ble_eq_true rfl, mo_52, ms_52, pm_75⟩)⟩, List.forall_mem_cons.mpr ⟨d_51_35, List.forall_mem_cons.mpr ⟨d_51_37, List.forall_mem_cons.mpr ⟨⟨d_51_39, (by decide)⟩, List.forall_mem_cons.mpr ⟨d_51_42, List.forall_mem_cons.mpr ⟨d_51_44, List.forall_mem_cons.mpr ⟨⟨d_51_46, (by decide)⟩, List.forall_mem_cons.mpr ⟨d_51_49, List.forall_mem_cons.mpr ⟨⟨d_51_50, Or.inl pf_66⟩, List.forall_mem_cons.mpr ⟨d_51_53, List.forall_mem_cons.mpr ⟨d_51_55, List.forall_mem_cons.mpr ⟨d_51_56, List.forall_mem_cons.mpr ⟨d_51_58, List.forall_mem_cons.mpr ⟨⟨d_51_59, ⟨mo_53, mi_53, se_53, pm_76⟩⟩, List.forall_mem_cons.mpr ⟨d_51_62, List.forall_mem_cons.mpr ⟨d_51_63, List.forall_mem_cons.mpr ⟨⟨d_51_66, (by decide)⟩, List.forall_mem_cons.mpr ⟨d_51_69, List.forall_mem_cons.mpr ⟨d_51_71, List.forall_mem_cons.mpr ⟨⟨d_51_72, (by decide)⟩, List.forall_mem_cons.mpr ⟨d_51_75, List.forall_mem_cons.mpr ⟨⟨d_51_77, (by decide)⟩, List.forall_mem_cons.mpr ⟨d_51_80, List.forall_mem_cons.mpr ⟨⟨d_51_81, Or.inl pf_66⟩, List.forall_mem_cons.mpr ⟨d_51_84, List.forall_mem_cons.mpr ⟨d_51_86, List.forall_mem_cons.mpr ⟨d_51_87, List.forall_mem_cons.mpr ⟨d_51_88, List.forall_mem_cons.mpr ⟨⟨d_51_89, Or.inl pf_62⟩, List.forall_mem_cons.mpr ⟨d_51_92, List.forall_mem_cons.mpr ⟨d_51_94, List.forall_mem_cons.mpr ⟨d_51_95, List.forall_mem_cons.mpr ⟨⟨d_51_96, Or.inl pf_66⟩, List.forall_mem_cons.mpr ⟨d_51_99, List.forall_mem_cons.mpr ⟨d_51_101, List.forall_mem_cons.mpr ⟨d_51_102, List.forall_mem_cons.mpr ⟨d_51_103, List.forall_mem_cons.mpr ⟨⟨d_51_104, (Or.inl ⟨Nat.le_of_ble_eq_true rfl, mo_54, ms_54, pm_77⟩)⟩, List.forall_mem_cons.mpr ⟨d_51_107, List.forall_mem_cons.mpr ⟨⟨d_51_108, (by decide)⟩, List.forall_mem_cons.mpr ⟨d_51_111, List.forall_mem_cons.mpr ⟨d_51_113, List.forall_mem_cons.mpr ⟨⟨d_51_114, (by decide)⟩, List.forall_mem_cons.mpr ⟨d_51_117, List.forall_mem_cons.mpr ⟨d_51_119, List.forall_mem_cons.mpr ⟨⟨d_51_120, (by decide)⟩, List.forall_mem_cons.mpr ⟨d_51_123, List.forall_mem_cons.mpr ⟨d_51_126, List.forall_mem_cons.mpr ⟨⟨d_51_127, Or.inl pf_66⟩, List.forall_mem_cons.mpr ⟨d_51_130, List.forall_mem_cons.mpr ⟨d_51_132, List.forall_mem_cons.mpr ⟨d_51_133, List.forall_mem_cons.mpr ⟨d_51_134, List.forall_mem_cons.mpr ⟨⟨d_51_135, Or.inl pf_62⟩, List.forall_mem_cons.mpr ⟨d_51_138, List.forall_mem_cons.mpr ⟨d_51_140, List.forall_mem_cons.mpr ⟨d_51_141, List.forall_mem_cons.mpr ⟨⟨d_51_142, Or.inl pf_66⟩, List.forall_mem_cons.mpr ⟨d_51_145, List.forall_mem_cons.mpr ⟨d_51_147, List.forall_mem_cons.mpr ⟨d_51_148, List.forall_mem_cons.mpr ⟨d_51_149, List.forall_mem_cons.mpr ⟨d_51_150, List.forall_mem_cons.mpr ⟨⟨d_51_151, Or.inl pf_66⟩, List.forall_mem_cons.mpr ⟨d_51_154, List.forall_mem_cons.mpr ⟨d_51_156, List.forall_mem_cons.mpr ⟨⟨d_51_157, (Or.inl ⟨Nat.le_of_ble_eq_true rfl, mo_55, ms_55, pm_78⟩)⟩, List.forall_mem_cons.mpr ⟨d_51_160, List.forall_mem_cons.mpr ⟨d_51_161, List.forall_mem_cons.mpr ⟨⟨d_51_164, (by decide)⟩, List.forall_mem_cons.mpr ⟨d_51_167, List.forall_mem_cons.mpr ⟨⟨d_51_169, (by decide)⟩, List.forall_mem_cons.mpr ⟨d_51_172, List.forall_mem_cons.mpr ⟨⟨d_51_173, Or.inl pf_66⟩, List.forall_mem_cons.mpr ⟨d_51_176, List.forall_mem_cons.mpr ⟨d_51_177, List.forall_mem_cons.mpr ⟨⟨d_51_178, (by decide)⟩, List.forall_mem_cons.mpr ⟨⟨d_51_181, (fun _ h => Option.some.inj h ▸ wd_153)⟩, List.forall_mem_cons.mpr ⟨d_51_184, fun _ h => absurd h List.not_mem_nil⟩⟩⟩⟩⟩⟩⟩⟩⟩⟩⟩⟩⟩⟩⟩⟩⟩⟩⟩⟩⟩⟩⟩⟩⟩⟩⟩⟩⟩⟩⟩⟩⟩⟩⟩⟩⟩⟩⟩⟩⟩⟩⟩⟩⟩⟩⟩⟩⟩⟩⟩⟩⟩⟩⟩⟩⟩⟩⟩⟩⟩⟩⟩⟩⟩⟩⟩⟩⟩⟩⟩⟩⟩⟩⟩⟩⟩⟩⟩⟩⟩⟩⟩⟩⟩⟩⟩⟩⟩⟩⟩⟩⟩⟩⟩⟩
theorem d_52_0 : decode prog_4_method_9_code 0 = .ok (.iload_n 0, 1) := by decide +kernel
theorem d_52_1 : decode prog_4_method_9_code 1 = .ok (.lookupswitch 63 #[(2, 59), (3, 59), (15, 59), (18, 61), (30, 61), (31, 61)], 59) := by decide +kernel
theorem d_52_60 : decode prog_4_method_9_code 60 = .ok (.iconst 0, 1) := by decide +kernel
theorem d_52_61 : decode prog_4_method_9_code 61 = .ok (.ireturn, 1) := by decide +kernel
theorem d_52_62 : decode prog_4_method_9_code 62 = .ok (.iconst 1, 1) := by decide +kernel
theorem d_52_63 : decode prog_4_method_9_code 63 = .ok (.ireturn, 1) := by decide +kernel
theorem d_52_64 : decode prog_4_method_9_code 64 = .ok (.iconst 2, 1) := by decide +kernel
theorem d_52_65 : decode prog_4_method_9_code 65 = .ok (.ireturn, 1) := by decide +kernel
set_option maxRecDepth 20000 in
theorem ok_52 : ∀ r ∈ tb_52, sm_ok 52 r := List.forall_mem_cons.mpr ⟨d_52_0, List.forall_mem_cons.mpr ⟨⟨⟨_, d_52_1⟩, by decide⟩, List.forall_mem_cons.mpr ⟨d_52_60, List.forall_mem_cons.mpr ⟨d_52_61, List.forall_mem_cons.mpr ⟨d_52_62, List.forall_mem_cons.mpr ⟨d_52_63, List.forall_mem_cons.mpr ⟨d_52_64, List.forall_mem_cons.mpr ⟨d_52_65, fun _ h => absurd h List.not_mem_nil⟩⟩⟩⟩⟩⟩⟩⟩
theorem d_53_0 : decode prog_4_method_10_code 0 = .ok (.aload_n 0, 1) := by decide +kernel
theorem d_53_1 : decode prog_4_method_10_code 1 = .ok (.getfield 9, 3) := by decide +kernel
theorem d_53_4 : decode prog_4_method_10_code 4 = .ok (.iload_n 1, 1) := by decide +kernel
theorem d_53_5 : decode prog_4_method_10_code 5 = .ok (.iaload, 1) := by decide +kernel
theorem d_53_6 : decode prog_4_method_10_code 6 = .ok (.iconst 3, 1) := by decide +kernel
theorem d_53_7 : decode prog_4_method_10_code 7 = .ok (.if_icmp .ne 33, 3) := by decide +kernel
theorem d_53_10 : decode prog_4_method_10_code 10 = .ok (.aload_n 2, 1) := by decide +kernel
theorem d_53_11 : decode prog_4_method_10_code 11 = .ok (.aload_n 0, 1) := by decide +kernel
theorem d_53_12 : decode prog_4_method_10_code 12 = .ok (.getfield 21, 3) := by decide +kernel
theorem d_53_15 : decode prog_4_method_10_code 15 = .ok (.iload_n 1, 1) := by decide +kernel
theorem d_53_16 : decode prog_4_method_10_code 16 = .ok (.iaload, 1) := by decide +kernel
theorem d_53_17 : decode prog_4_method_10_code 17 = .ok (.invokevirtual 66, 3) := by decide +kernel
theorem d_53_20 : decode prog_4_method_10_code 20 = .ok (.aload_n 2, 1) := by decide +kernel
theorem d_53_21 : decode prog_4_method_10_code 21 = .ok (.aload_n 0, 1) := by decide +kernel
theorem d_53_22 : decode prog_4_method_10_code 22 = .ok (.getfield 21, 3) := by decide +kernel
theorem d_53_25 : decode prog_4_method_10_code 25 = .ok (.iload_n 1, 1) := by decide +kernel
theorem d_53_26 : decode prog_4_method_10_code 26 = .ok (.iaload, 1) := by decide +kernel
theorem d_53_27 : decode prog_4_method_10_code 27 = .ok (.invokevirtual 72, 3) := by decide +kernel
theorem d_53_30 : decode prog_4_method_10_code 30 = .ok (.aload_n 0, 1) := by decide +kernel
theorem d_53_31 : decode prog_4_method_10_code 31 = .ok (.getfield 15, 3) := by decide +kernel
theorem d_53_34 : decode prog_4_method_10_code 34 = .ok (.iload_n 1, 1) := by decide +kernel
theorem d_53_35 : decode prog_4_method_10_code 35 = .ok (.iaload, 1) := by decide +kernel
theorem d_53_36 : decode prog_4_method_10_code 36 = .ok (.invokevirtual 75, 3) := by decide +kernel
theorem d_53_39 : decode prog_4_method_10_code 39 = .ok (.lreturn, 1) := by decide +kernel
theorem d_53_40 : decode prog_4_method_10_code 40 = .ok (.aload_n 0, 1) := by decide +kernel
theorem d_53_41 : decode prog_4_method_10_code 41 = .ok (.getfield 9, 3) := by decide +kernel
theorem d_53_44 : decode prog_4_method_10_code 44 = .ok (.iload_n 1, 1) := by decide +kernel
theorem d_53_45 : decode prog_4_method_10_code 45 = .ok (.iaload, 1) := by decide +kernel
theorem d_53_46 : decode prog_4_method_10_code 46 = .ok (.iconst 2, 1) := by decide +kernel
theorem d_53_47 : decode prog_4_method_10_code 47 = .ok (.if_icmp .ne 13, 3) := by decide +kernel
theorem d_53_50 : decode prog_4_method_10_code 50 = .ok (.aload_n 0, 1) := by decide +kernel
theorem d_53_51 : decode prog_4_method_10_code 51 = .ok (.getfield 15, 3) := by decide +kernel
theorem d_53_54 : decode prog_4_method_10_code 54 = .ok (.iload_n 1, 1) := by decide +kernel
theorem d_53_55 : decode prog_4_method_10_code 55 = .ok (.iaload, 1) := by decide +kernel
theorem d_53_56 : decode prog_4_method_10_code 56 = .ok (.i2l, 1) := by decide +kernel
theorem d_53_57 : decode prog_4_method_10_code 57 = .ok (.goto 6, 3) := by decide +kernel
theorem d_53_60 : decode prog_4_method_10_code 60 = .ok (.ldc2_w 64, 3) := by decide +kernel
theorem d_53_63 : decode prog_4_method_10_code 63 = .ok (.lreturn, 1) := by decide +kernel
set_option maxRecDepth 20000 in
theorem ok_53 : ∀ r ∈ tb_53, sm_ok 53 r := List.forall_mem_cons.mpr ⟨d_53_0, List.forall_mem_cons.mpr ⟨⟨d_53_1, Or.inl pf_62⟩, List.forall_mem_cons.mpr ⟨d_53_4, List.forall_mem_cons.mpr ⟨d_53_5, List.forall_mem_cons.mpr ⟨d_53_6, List.forall_mem_cons.mpr ⟨⟨d_53_7, (by decide)⟩, List.forall_mem_cons.mpr ⟨d_53_10, List.forall_mem_cons.mpr ⟨d_53_11, List.forall_mem_cons.mpr ⟨⟨d_53_12, Or.inl pf_65⟩, List.forall_mem_cons.mpr ⟨d_53_15, List.forall_mem_cons.mpr ⟨d_53_16, List.forall_mem_cons.mpr ⟨⟨d_53_17, ⟨mo_41, mi_41, se_41, pm_79⟩⟩, List.forall_mem_cons.mpr ⟨d_53_20, List.forall_mem_cons.mpr ⟨d_53_21, List.forall_mem_cons.mpr ⟨⟨d_53_22, Or.inl pf_65⟩, List.forall_mem_cons.mpr ⟨d_53_25, List.forall_mem_cons.mpr ⟨d_53_26, List.forall_mem_cons.mpr ⟨⟨d_53_27, ⟨mo_42, mi_42, se_42, pm_80⟩⟩, List.forall_mem_cons.mpr ⟨d_53_30, List.forall_mem_cons.mpr ⟨⟨d_53_31, Or.inl pf_63⟩, List.forall_mem_cons.mpr ⟨d_53_34, List.forall_mem_cons.mpr ⟨d_53_35, List.forall_mem_cons.mpr ⟨⟨d_53_36, ⟨mo_29, mi_29, se_29, pm_81⟩⟩, List.forall_mem_cons.mpr ⟨d_53_39, List.forall_mem_cons.mpr ⟨d_53_40, List.forall_mem_cons.mpr ⟨⟨d_53_41, Or.inl pf_62⟩, List.forall_mem_cons.mpr ⟨d_53_44, List.forall_mem_cons.mpr ⟨d_53_45, List.forall_mem_cons.mpr ⟨d_53_46, List.forall_mem_cons.mpr ⟨⟨d_53_47, (by decide)⟩, List.forall_mem_cons.mpr ⟨d_53_50, List.forall_mem_cons.mpr ⟨⟨d_53_51, Or.inl pf_63⟩, List.forall_mem_cons.mpr ⟨d_53_54, List.forall_mem_cons.mpr ⟨d_53_55, List.forall_mem_cons.mpr ⟨d_53_56, List.forall_mem_cons.mpr ⟨⟨d_53_57, (by decide)⟩, List.forall_mem_cons.mpr ⟨⟨d_53_60, (fun _ h => Option.some.inj h ▸ wd_153)⟩, List.forall_mem_cons.mpr ⟨d_53_63, fun _ h => absurd h List.not_mem_nil⟩⟩⟩⟩⟩⟩⟩⟩⟩⟩⟩⟩⟩⟩⟩⟩⟩⟩⟩⟩⟩⟩⟩⟩⟩⟩⟩⟩⟩⟩⟩⟩⟩⟩⟩⟩⟩⟩
theorem d_54_0 : decode prog_4_method_11_code 0 = .ok (.iload_n 0, 1) := by decide +kernel
theorem d_54_1 : decode prog_4_method_11_code 1 = .ok (.lookupswitch 62 #[(30, 27), (31, 46)], 27) := by decide +kernel
theorem d_54_28 : decode prog_4_method_11_code 28 = .ok (.lload_n 1, 1) := by decide +kernel
theorem d_54_29 : decode prog_4_method_11_code 29 = .ok (.ldc2_w 64, 3) := by decide +kernel
theorem d_54_32 : decode prog_4_method_11_code 32 = .ok (.lcmp, 1) := by decide +kernel
theorem d_54_33 : decode prog_4_method_11_code 33 = .ok (.ifCond .ne 9, 3) := by decide +kernel
theorem d_54_36 : decode prog_4_method_11_code 36 = .ok (.ldc2_w 64, 3) := by decide +kernel
theorem d_54_39 : decode prog_4_method_11_code 39 = .ok (.goto 7, 3) := by decide +kernel
theorem d_54_42 : decode prog_4_method_11_code 42 = .ok (.lload_n 1, 1) := by decide +kernel
theorem d_54_43 : decode prog_4_method_11_code 43 = .ok (.l2i, 1) := by decide +kernel
theorem d_54_44 : decode prog_4_method_11_code 44 = .ok (.ineg, 1) := by decide +kernel
theorem d_54_45 : decode prog_4_method_11_code 45 = .ok (.i2l, 1) := by decide +kernel
theorem d_54_46 : decode prog_4_method_11_code 46 = .ok (.lreturn, 1) := by decide +kernel
theorem d_54_47 : decode prog_4_method_11_code 47 = .ok (.lload_n 1, 1) := by decide +kernel
theorem d_54_48 : decode prog_4_method_11_code 48 = .ok (.ldc2_w 64, 3) := by decide +kernel
theorem d_54_51 : decode prog_4_method_11_code 51 = .ok (.lcmp, 1) := by decide +kernel
theorem d_54_52 : decode prog_4_method_11_code 52 = .ok (.ifCond .ne 9, 3) := by decide +kernel
theorem d_54_55 : decode prog_4_method_11_code 55 = .ok (.ldc2_w 81, 3) := by decide +kernel
theorem d_54_58 : decode prog_4_method_11_code 58 = .ok (.goto 4, 3) := by decide +kernel
theorem d_54_61 : decode prog_4_method_11_code 61 = .ok (.lconst 0, 1) := by decide +kernel
theorem d_54_62 : decode prog_4_method_11_code 62 = .ok (.lreturn, 1) := by decide +kernel
theorem d_54_63 : decode prog_4_method_11_code 63 = .ok (.ldc2_w 81, 3) := by decide +kernel
theorem d_54_66 : decode prog_4_method_11_code 66 = .ok (.lload_n 1, 1) := by decide +kernel
theorem d_54_67 : decode prog_4_method_11_code 67 = .ok (.lsub, 1) := by decide +kernel
theorem d_54_68 : decode prog_4_method_11_code 68 = .ok (.lreturn, 1) := by decide +kernel
set_option maxRecDepth 20000 in
theorem ok_54 : ∀ r ∈ tb_54, sm_ok 54 r := List.forall_mem_cons.mpr ⟨d_54_0, List.forall_mem_cons.mpr ⟨⟨⟨_, d_54_1⟩, by decide⟩, List.forall_mem_cons.mpr ⟨d_54_28, List.forall_mem_cons.mpr ⟨⟨d_54_29, (fun _ h => Option.some.inj h ▸ wd_153)⟩, List.forall_mem_cons.mpr ⟨d_54_32, List.forall_mem_cons.mpr ⟨⟨d_54_33, (by decide)⟩, List.forall_mem_cons.mpr ⟨⟨d_54_36, (fun _ h => Option.some.inj h ▸ wd_153)⟩, List.forall_mem_cons.mpr ⟨⟨d_54_39, (by decide)⟩, List.forall_mem_cons.mpr ⟨d_54_42, List.forall_mem_cons.mpr ⟨d_54_43, List.forall_mem_cons.mpr ⟨d_54_44, List.forall_mem_cons.mpr ⟨d_54_45, List.forall_mem_cons.mpr ⟨d_54_46, List.forall_mem_cons.mpr ⟨d_54_47, List.forall_mem_cons.mpr ⟨⟨d_54_48, (fun _ h => Option.some.inj h ▸ wd_153)⟩, List.forall_mem_cons.mpr ⟨d_54_51, List.forall_mem_cons.mpr ⟨⟨d_54_52, (by decide)⟩, List.forall_mem_cons.mpr ⟨⟨d_54_55, (fun _ h => Option.some.inj h ▸ wd_157)⟩, List.forall_mem_cons.mpr ⟨⟨d_54_58, (by decide)⟩, List.forall_mem_cons.mpr ⟨d_54_61, List.forall_mem_cons.mpr ⟨d_54_62, List.forall_mem_cons.mpr ⟨⟨d_54_63, (fun _ h => Option.some.inj h ▸ wd_157)⟩, List.forall_mem_cons.mpr ⟨d_54_66, List.forall_mem_cons.mpr ⟨d_54_67, List.forall_mem_cons.mpr ⟨d_54_68, fun _ h => absurd h List.not_mem_nil⟩⟩⟩⟩⟩⟩⟩⟩⟩⟩⟩⟩⟩⟩⟩⟩⟩⟩⟩⟩⟩⟩⟩⟩⟩
theorem d_55_0 : decode prog_4_method_12_code 0 = .ok (.iload_n 0, 1) := by decide +kernel
theorem d_55_1 : decode prog_4_method_12_code 1 = .ok (.bipush 17, 2) := by decide +kernel
theorem d_55_3 : decode prog_4_method_12_code 3 = .ok (.if_icmp .ne 9, 3) := by decide +kernel
theorem d_55_6 : decode prog_4_method_12_code 6 = .ok (.lload_n 1, 1) := by decide +kernel
theorem d_55_7 : decode prog_4_method_12_code 7 = .ok (.lload_n 3, 1) := by decide +kernel
theorem d_55_8 : decode prog_4_method_12_code 8 = .ok (.invokestatic 83, 3) := by decide +kernel
theorem d_55_11 : decode prog_4_method_12_code 11 = .ok (.lreturn, 1) := by decide +kernel
theorem d_55_12 : decode prog_4_method_12_code 12 = .ok (.iload_n 0, 1) := by decide +kernel
theorem d_55_13 : decode prog_4_method_12_code 13 = .ok (.bipush 16, 2) := by decide +kernel
theorem d_55_15 : decode prog_4_method_12_code 15 = .ok (.if_icmp .ne 9, 3) := by decide +kernel
theorem d_55_18 : decode prog_4_method_12_code 18 = .ok (.lload_n 1, 1) := by decide +kernel
theorem d_55_19 : decode prog_4_method_12_code 19 = .ok (.lload_n 3, 1) := by decide +kernel
theorem d_55_20 : decode prog_4_method_12_code 20 = .ok (.invokestatic 87, 3) := by decide +kernel
theorem d_55_23 : decode prog_4_method_12_code 23 = .ok (.lreturn, 1) := by decide +kernel
theorem d_55_24 : decode prog_4_method_12_code 24 = .ok (.iload_n 0, 1) := by decide +kernel
theorem d_55_25 : decode prog_4_method_12_code 25 = .ok (.bipush 61, 2) := by decide +kernel
theorem d_55_27 : decode prog_4_method_12_code 27 = .ok (.if_icmp .eq 15, 3) := by decide +kernel
theorem d_55_30 : decode prog_4_method_12_code 30 = .ok (.iload_n 0, 1) := by decide +kernel
theorem d_55_31 : decode prog_4_method_12_code 31 = .ok (.bipush 60, 2) := by decide +kernel
theorem d_55_33 : decode prog_4_method_12_code 33 = .ok (.if_icmp .eq 9, 3) := by decide +kernel
theorem d_55_36 : decode prog_4_method_12_code 36 = .ok (.iload_n 0, 1) := by decide +kernel
theorem d_55_37 : decode prog_4_method_12_code 37 = .ok (.bipush 62, 2) := by decide +kernel
theorem d_55_39 : decode prog_4_method_12_code 39 = .ok (.if_icmp .ne 7, 3) := by decide +kernel
theorem d_55_42 : decode prog_4_method_12_code 42 = .ok (.iconst 1, 1) := by decide +kernel
theorem d_55_43 : decode prog_4_method_12_code 43 = .ok (.goto 4, 3) := by decide +kernel
theorem d_55_46 : decode prog_4_method_12_code 46 = .ok (.iconst 0, 1) := by decide +kernel
theorem d_55_47 : decode prog_4_method_12_code 47 = .ok (.istore 5, 2) := by decide +kernel
theorem d_55_49 : decode prog_4_method_12_code 49 = .ok (.lload_n 1, 1) := by decide +kernel
theorem d_55_50 : decode prog_4_method_12_code 50 = .ok (.ldc2_w 64, 3) := by decide +kernel
theorem d_55_53 : decode prog_4_method_12_code 53 = .ok (.lcmp, 1) := by decide +kernel
theorem d_55_54 : decode prog_4_method_12_code 54 = .ok (.ifCond .eq 11, 3) := by decide +kernel
theorem d_55_57 : decode prog_4_method_12_code 57 = .ok (.lload_n 3, 1) := by decide +kernel
theorem d_55_58 : decode prog_4_method_12_code 58 = .ok (.ldc2_w 64, 3) := by decide +kernel
theorem d_55_61 : decode prog_4_method_12_code 61 = .ok (.lcmp, 1) := by decide +kernel
theorem d_55_62 : decode prog_4_method_12_code 62 = .ok (.ifCond .ne 16, 3) := by decide +kernel
theorem d_55_65 : decode prog_4_method_12_code 65 = .ok (.iload 5, 2) := by decide +kernel
theorem d_55_67 : decode prog_4_method_12_code 67 = .ok (.ifCond .eq 7, 3) := by decide +kernel
theorem d_55_70 : decode prog_4_method_12_code 70 = .ok (.lconst 1, 1) := by decide +kernel
theorem d_55_71 : decode prog_4_method_12_code 71 = .ok (.goto 6, 3) := by decide +kernel
theorem d_55_74 : decode prog_4_method_12_code 74 = .ok (.ldc2_w 64, 3) := by decide +kernel
theorem d_55_77 : decode prog_4_method_12_code 77 = .ok (.lreturn, 1) := by decide +kernel
theorem d_55_78 : decode prog_4_method_12_code 78 = .ok (.iload 5, 2) := by decide +kernel
theorem d_55_80 : decode prog_4_method_12_code 80 = .ok (.ifCond .eq 12, 3) := by decide +kernel
theorem d_55_83 : decode prog_4_method_12_code 83 = .ok (.iload_n 0, 1) := by decide +kernel
theorem d_55_84 : decode prog_4_method_12_code 84 = .ok (.lload_n 1, 1) := by decide +kernel
theorem d_55_85 : decode prog_4_method_12_code 85 = .ok (.lload_n 3, 1) := by decide +kernel
theorem d_55_86 : decode prog_4_method_12_code 86 = .ok (.invokestatic 89, 3) := by decide +kernel
theorem d_55_89 : decode prog_4_method_12_code 89 = .ok (.goto 11, 3) := by decide +kernel
theorem d_55_92 : decode prog_4_method_12_code 92 = .ok (.iload_n 0, 1) := by decide +kernel
theorem d_55_93 : decode prog_4_method_12_code 93 = .ok (.lload_n 1, 1) := by decide +kernel
theorem d_55_94 : decode prog_4_method_12_code 94 = .ok (.l2i, 1) := by decide +kernel
theorem d_55_95 : decode prog_4_method_12_code 95 = .ok (.lload_n 3, 1) := by decide +kernel
theorem d_55_96 : decode prog_4_method_12_code 96 = .ok (.l2i, 1) := by decide +kernel
theorem d_55_97 : decode prog_4_method_12_code 97 = .ok (.invokestatic 92, 3) := by decide +kernel
theorem d_55_100 : decode prog_4_method_12_code 100 = .ok (.lreturn, 1) := by decide +kernel
set_option maxRecDepth 20000 in
theorem ok_55 : ∀ r ∈ tb_55, sm_ok 55 r := List.forall_mem_cons.mpr ⟨d_55_0, List.forall_mem_cons.mpr ⟨d_55_1, List.forall_mem_cons.mpr ⟨⟨d_55_3, (by decide)⟩, List.forall_mem_cons.mpr ⟨d_55_6, List.forall_mem_cons.mpr ⟨d_55_7, List.forall_mem_cons.mpr ⟨⟨d_55_8, (Or.inr ((Or.inr ((Or.inr ((Or.inr (Or.inl ⟨rfl, wd_158, wd_159, wd_116, wd_160⟩))))))))⟩, List.forall_mem_cons.mpr ⟨d_55_11, List.forall_mem_cons.mpr ⟨d_55_12, List.forall_mem_cons.mpr ⟨d_55_13, List.forall_mem_cons.mpr ⟨⟨d_55_15, (by decide)⟩, List.forall_mem_cons.mpr ⟨d_55_18, List.forall_mem_cons.mpr ⟨d_55_19, List.forall_mem_cons.mpr ⟨⟨d_55_20, (Or.inr ((Or.inr ((Or.inr ((Or.inr ((Or.inr (⟨rfl, wd_161, wd_162, wd_116, wd_163⟩))))))))))⟩, List.forall_mem_cons.mpr ⟨d_55_23, List.forall_mem_cons.mpr ⟨d_55_24, List.forall_mem_cons.mpr ⟨d_55_25, List.forall_mem_cons.mpr ⟨⟨d_55_27, (by decide)⟩, List.forall_mem_cons.mpr ⟨d_55_30, List.forall_mem_cons.mpr ⟨d_55_31, List.forall_mem_cons.mpr ⟨⟨d_55_33, (by decide)⟩, List.forall_mem_cons.mpr ⟨d_55_36, List.forall_mem_cons.mpr ⟨d_55_37, List.forall_mem_cons.mpr ⟨⟨d_55_39, (by decide)⟩, List.forall_mem_cons.mpr ⟨d_55_42, List.forall_mem_cons.mpr ⟨⟨d_55_43, (by decide)⟩, List.forall_mem_cons.mpr ⟨d_55_46, List.forall_mem_cons.mpr ⟨d_55_47, List.forall_mem_cons.mpr ⟨d_55_49, List.forall_mem_cons.mpr ⟨⟨d_55_50, (fun _ h => Option.some.inj h ▸ wd_153)⟩, List.forall_mem_cons.mpr ⟨d_55_53, List.forall_mem_cons.mpr ⟨⟨d_55_54, (by decide)⟩, List.forall_mem_cons.mpr ⟨d_55_57, List.forall_mem_cons.mpr ⟨⟨d_55_58, (fun _ h => Option.some.inj h ▸ wd_153)⟩, List.forall_mem_cons.mpr ⟨d_55_61, List.forall_mem_cons.mpr ⟨⟨d_55_62, (by decide)⟩, List.forall_mem_cons.mpr ⟨d_55_65, List.forall_mem_cons.mpr ⟨⟨d_55_67, (by decide)⟩, List.forall_mem_cons.mpr ⟨d_55_70, List.forall_mem_cons.mpr ⟨⟨d_55_71, (by decide)⟩, List.forall_mem_cons.mpr ⟨⟨d_55_74, (fun _ h => Option.some.inj h ▸ wd_153)⟩, List.forall_mem_cons.mpr ⟨d_55_77, List.forall_mem_cons.mpr ⟨d_55_78, List.forall_mem_cons.mpr ⟨⟨d_55_80, (by decide)⟩, List.forall_mem_cons.mpr ⟨d_55_83, List.forall_mem_cons.mpr ⟨d_55_84, List.forall_mem_cons.mpr ⟨d_55_85, List.forall_mem_cons.mpr ⟨⟨d_55_86, (Or.inl ⟨Nat.le_of_ble_eq_true rfl, mo_56, ms_56, pm_82⟩)⟩, List.forall_mem_cons.mpr ⟨⟨d_55_89, (by decide)⟩, List.forall_mem_cons.mpr ⟨d_55_92, List.forall_mem_cons.mpr ⟨d_55_93, List.forall_mem_cons.mpr ⟨d_55_94, List.forall_mem_cons.mpr ⟨d_55_95, List.forall_mem_cons.mpr ⟨d_55_96, List.forall_mem_cons.mpr ⟨⟨d_55_97, (Or.inl ⟨Nat.le_of_ble_eq_true rfl, mo_57, ms_57, pm_83⟩)⟩, List.forall_mem_cons.mpr ⟨d_55_100, fun _ h => absurd h List.not_mem_nil⟩⟩⟩⟩⟩⟩⟩⟩⟩⟩⟩⟩⟩⟩⟩⟩⟩⟩⟩⟩⟩⟩⟩⟩⟩⟩⟩⟩⟩⟩⟩⟩⟩⟩⟩⟩⟩⟩⟩⟩⟩⟩⟩⟩⟩⟩⟩⟩⟩⟩⟩⟩⟩⟩⟩
theorem d_56_0 : decode prog_4_method_13_code 0 = .ok (.iload_n 0, 1) := by decide +kernel
theorem d_56_1 : decode prog_4_method_13_code 1 = .ok (.bipush 61, 2) := by decide +kernel
theorem d_56_3 : decode prog_4_method_13_code 3 = .ok (.if_icmp .ne 17, 3) := by decide +kernel
theorem d_56_6 : decode prog_4_method_13_code 6 = .ok (.lload_n 1, 1) := by decide +kernel
theorem d_56_7 : decode prog_4_method_13_code 7 = .ok (.lload_n 3, 1) := by decide +kernel
theorem d_56_8 : decode prog_4_method_13_code 8 = .ok (.lcmp, 1) := by decide +kernel
theorem d_56_9 : decode prog_4_method_13_code 9 = .ok (.ifCond .ne 7, 3) := by decide +kernel
theorem d_56_12 : decode prog_4_method_13_code 12 = .ok (.iconst 1, 1) := by decide +kernel
theorem d_56_13 : decode prog_4_method_13_code 13 = .ok (.goto 38, 3) := by decide +kernel
theorem d_56_16 : decode prog_4_method_13_code 16 = .ok (.iconst 0, 1) := by decide +kernel
theorem d_56_17 : decode prog_4_method_13_code 17 = .ok (.goto 34, 3) := by decide +kernel
theorem d_56_20 : decode prog_4_method_13_code 20 = .ok (.iload_n 0, 1) := by decide +kernel
theorem d_56_21 : decode prog_4_method_13_code 21 = .ok (.bipush 60, 2) := by decide +kernel
theorem d_56_23 : decode prog_4_method_13_code 23 = .ok (.if_icmp .ne 17, 3) := by decide +kernel
theorem d_56_26 : decode prog_4_method_13_code 26 = .ok (.lload_n 1, 1) := by decide +kernel
theorem d_56_27 : decode prog_4_method_13_code 27 = .ok (.lload_n 3, 1) := by decide +kernel
theorem d_56_28 : decode prog_4_method_13_code 28 = .ok (.lcmp, 1) := by decide +kernel
theorem d_56_29 : decode prog_4_method_13_code 29 = .ok (.ifCond .ge 7, 3) := by decide +kernel
theorem d_56_32 : decode prog_4_method_13_code 32 = .ok (.iconst 1, 1) := by decide +kernel
theorem d_56_33 : decode prog_4_method_13_code 33 = .ok (.goto 18, 3) := by decide +kernel
theorem d_56_36 : decode prog_4_method_13_code 36 = .ok (.iconst 0, 1) := by decide +kernel
theorem d_56_37 : decode prog_4_method_13_code 37 = .ok (.goto 14, 3) := by decide +kernel
theorem d_56_40 : decode prog_4_method_13_code 40 = .ok (.lload_n 1, 1) := by decide +kernel
theorem d_56_41 : decode prog_4_method_13_code 41 = .ok (.lload_n 3, 1) := by decide +kernel
theorem d_56_42 : decode prog_4_method_13_code 42 = .ok (.lcmp, 1) := by decide +kernel
theorem d_56_43 : decode prog_4_method_13_code 43 = .ok (.ifCond .le 7, 3) := by decide +kernel
theorem d_56_46 : decode prog_4_method_13_code 46 = .ok (.iconst 1, 1) := by decide +kernel
theorem d_56_47 : decode prog_4_method_13_code 47 = .ok (.goto 4, 3) := by decide +kernel
theorem d_56_50 : decode prog_4_method_13_code 50 = .ok (.iconst 0, 1) := by decide +kernel
theorem d_56_51 : decode prog_4_method_13_code 51 = .ok (.istore 5, 2) := by decide +kernel
theorem d_56_53 : decode prog_4_method_13_code 53 = .ok (.iload 5, 2) := by decide +kernel
theorem d_56_55 : decode prog_4_method_13_code 55 = .ok (.ifCond .eq 9, 3) := by decide +kernel
theorem d_56_58 : decode prog_4_method_13_code 58 = .ok (.ldc2_w 81, 3) := by decide +kernel
theorem d_56_61 : decode prog_4_method_13_code 61 = .ok (.goto 4, 3) := by decide +kernel
theorem d_56_64 : decode prog_4_method_13_code 64 = .ok (.lconst 0, 1) := by decide +kernel
theorem d_56_65 : decode prog_4_method_13_code 65 = .ok (.lreturn, 1) := by decide +kernel
set_option maxRecDepth 20000 in
theorem ok_56 : ∀ r ∈ tb_56, sm_ok 56 r := List.forall_mem_cons.mpr ⟨d_56_0, List.forall_mem_cons.mpr ⟨d_56_1, List.forall_mem_cons.mpr ⟨⟨d_56_3, (by decide)⟩, List.forall_mem_cons.mpr ⟨d_56_6, List.forall_mem_cons.mpr ⟨d_56_7, List.forall_mem_cons.mpr ⟨d_56_8, List.forall_mem_cons.mpr ⟨⟨d_56_9, (by decide)⟩, List.forall_mem_cons.mpr ⟨d_56_12, List.forall_mem_cons.mpr ⟨⟨d_56_13, (by decide)⟩, List.forall_mem_cons.mpr ⟨d_56_16, List.forall_mem_cons.mpr ⟨⟨d_56_17, (by decide)⟩, List.forall_mem_cons.mpr ⟨d_56_20, List.forall_mem_cons.mpr ⟨d_56_21, List.forall_mem_cons.mpr ⟨⟨d_56_23, (by decide)⟩, List.forall_mem_cons.mpr ⟨d_56_26, List.forall_mem_cons.mpr ⟨d_56_27, List.forall_mem_cons.mpr ⟨d_56_28, List.forall_mem_cons.mpr ⟨⟨d_56_29, (by decide)⟩, List.forall_mem_cons.mpr ⟨d_56_32, List.forall_mem_cons.mpr ⟨⟨d_56_33, (by decide)⟩, List.forall_mem_cons.mpr ⟨d_56_36, List.forall_mem_cons.mpr ⟨⟨d_56_37, (by decide)⟩, List.forall_mem_cons.mpr ⟨d_56_40, List.forall_mem_cons.mpr ⟨d_56_41, List.forall_mem_cons.mpr ⟨d_56_42, List.forall_mem_cons.mpr ⟨⟨d_56_43, (by decide)⟩, List.forall_mem_cons.mpr ⟨d_56_46, List.forall_mem_cons.mpr ⟨⟨d_56_47, (by decide)⟩, List.forall_mem_cons.mpr ⟨d_56_50, List.forall_mem_cons.mpr ⟨d_56_51, List.forall_mem_cons.mpr ⟨d_56_53, List.forall_mem_cons.mpr ⟨⟨d_56_55, (by decide)⟩, List.forall_mem_cons.mpr ⟨⟨d_56_58, (fun _ h => Option.some.inj h ▸ wd_157)⟩, List.forall_mem_cons.mpr ⟨⟨d_56_61, (by decide)⟩, List.forall_mem_cons.mpr ⟨d_56_64, List.forall_mem_cons.mpr ⟨d_56_65, fun _ h => absurd h List.not_mem_nil⟩⟩⟩⟩⟩⟩⟩⟩⟩⟩⟩⟩⟩⟩⟩⟩⟩⟩⟩⟩⟩⟩⟩⟩⟩⟩⟩⟩⟩⟩⟩⟩⟩⟩⟩⟩
theorem d_57_0 : decode prog_4_method_14_code 0 = .ok (.iload_n 0, 1) := by decide +kernel
theorem d_57_1 : decode prog_4_method_14_code 1 = .ok (.tableswitch 46 42 45 #[41, 31, 46, 36], 31) := by decide +kernel
theorem d_57_32 : decode prog_4_method_14_code 32 = .ok (.iload_n 1, 1) := by decide +kernel
theorem d_57_33 : decode prog_4_method_14_code 33 = .ok (.iload_n 2, 1) := by decide +kernel
theorem d_57_34 : decode prog_4_method_14_code 34 = .ok (.iadd, 1) := by decide +kernel
theorem d_57_35 : decode prog_4_method_14_code 35 = .ok (.i2l, 1) := by decide +kernel
theorem d_57_36 : decode prog_4_method_14_code 36 = .ok (.lreturn, 1) := by decide +kernel
theorem d_57_37 : decode prog_4_method_14_code 37 = .ok (.iload_n 1, 1) := by decide +kernel
theorem d_57_38 : decode prog_4_method_14_code 38 = .ok (.iload_n 2, 1) := by decide +kernel
theorem d_57_39 : decode prog_4_method_14_code 39 = .ok (.isub, 1) := by decide +kernel
theorem d_57_40 : decode prog_4_method_14_code 40 = .ok (.i2l, 1) := by decide +kernel
theorem d_57_41 : decode prog_4_method_14_code 41 = .ok (.lreturn, 1) := by decide +kernel
theorem d_57_42 : decode prog_4_method_14_code 42 = .ok (.iload_n 1, 1) := by decide +kernel
theorem d_57_43 : decode prog_4_method_14_code 43 = .ok (.iload_n 2, 1) := by decide +kernel
theorem d_57_44 : decode prog_4_method_14_code 44 = .ok (.imul, 1) := by decide +kernel
theorem d_57_45 : decode prog_4_method_14_code 45 = .ok (.i2l, 1) := by decide +kernel
theorem d_57_46 : decode prog_4_method_14_code 46 = .ok (.lreturn, 1) := by decide +kernel
theorem d_57_47 : decode prog_4_method_14_code 47 = .ok (.iload_n 2, 1) := by decide +kernel
theorem d_57_48 : decode prog_4_method_14_code 48 = .ok (.ifCond .ne 9, 3) := by decide +kernel
theorem d_57_51 : decode prog_4_method_14_code 51 = .ok (.ldc2_w 64, 3) := by decide +kernel
theorem d_57_54 : decode prog_4_method_14_code 54 = .ok (.goto 7, 3) := by decide +kernel
theorem d_57_57 : decode prog_4_method_14_code 57 = .ok (.iload_n 1, 1) := by decide +kernel
theorem d_57_58 : decode prog_4_method_14_code 58 = .ok (.iload_n 2, 1) := by decide +kernel
theorem d_57_59 : decode prog_4_method_14_code 59 = .ok (.idiv, 1) := by decide +kernel
theorem d_57_60 : decode prog_4_method_14_code 60 = .ok (.i2l, 1) := by decide +kernel
theorem d_57_61 : decode prog_4_method_14_code 61 = .ok (.lreturn, 1) := by decide +kernel
set_option maxRecDepth 20000 in
theorem ok_57 : ∀ r ∈ tb_57, sm_ok 57 r := List.forall_mem_cons.mpr ⟨d_57_0, List.forall_mem_cons.mpr ⟨⟨_, d_57_1⟩, List.forall_mem_cons.mpr ⟨d_57_32, List.forall_mem_cons.mpr ⟨d_57_33, List.forall_mem_cons.mpr ⟨d_57_34, List.forall_mem_cons.mpr ⟨d_57_35, List.forall_mem_cons.mpr ⟨d_57_36, List.forall_mem_cons.mpr ⟨d_57_37, List.forall_mem_cons.mpr ⟨d_57_38, List.forall_mem_cons.mpr ⟨d_57_39, List.forall_mem_cons.mpr ⟨d_57_40, List.forall_mem_cons.mpr ⟨d_57_41, List.forall_mem_cons.mpr ⟨d_57_42, List.forall_mem_cons.mpr ⟨d_57_43, List.forall_mem_cons.mpr ⟨d_57_44, List.forall_mem_cons.mpr ⟨d_57_45, List.forall_mem_cons.mpr ⟨d_57_46, List.forall_mem_cons.mpr ⟨d_57_47, List.forall_mem_cons.mpr ⟨⟨d_57_48, (by decide)⟩, List.forall_mem_cons.mpr ⟨⟨d_57_51, (fun _ h => Option.some.inj h ▸ wd_153)⟩, List.forall_mem_cons.mpr ⟨⟨d_57_54, (by decide)⟩, List.forall_mem_cons.mpr ⟨d_57_57, List.forall_mem_cons.mpr ⟨d_57_58, List.forall_mem_cons.mpr ⟨d_57_59, List.forall_mem_cons.mpr ⟨d_57_60, List.forall_mem_cons.mpr ⟨d_57_61, fun _ h => absurd h List.not_mem_nil⟩⟩⟩⟩⟩⟩⟩⟩⟩⟩⟩⟩⟩⟩⟩⟩⟩⟩⟩⟩⟩⟩⟩⟩⟩⟩
