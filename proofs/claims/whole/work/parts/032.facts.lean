/-! FACTS, by program: words, classes, methods -/
theorem sm_n0 {P : Prop} {α : Type} {l : List α} {i : Nat} {v : α} (h : l[i]? = some v) (hl : l.length ≤ i := by decide) : P := by
  rw [List.getElem?_eq_none hl] at h; cases h
theorem mo_1 : sm_mok 1 := ⟨wd_483, wd_484, by decide +kernel, by decide +kernel, by decide +kernel, by decide⟩
theorem mi_1 : sm_mI 1 := ⟨wd_485, Or.inl ⟨_, rfl, rfl⟩⟩
theorem mo_2 : sm_mok 2 := ⟨wd_486, wd_484, by decide +kernel, by decide +kernel, by decide +kernel, by decide⟩
theorem mi_2 : sm_mI 2 := ⟨wd_487, Or.inl ⟨_, rfl, rfl⟩⟩
theorem se_2 : Cond.selects (sm_name 2).cls (sm_name 2) (sm_name 2) ∈ sm_tbl := wd_488
theorem mo_3 : sm_mok 3 := ⟨wd_489, wd_484, by decide +kernel, by decide +kernel, by decide +kernel, by decide⟩
theorem mi_3 : sm_mI 3 := ⟨wd_490, Or.inl ⟨_, rfl, rfl⟩⟩
theorem se_3 : Cond.selects (sm_name 3).cls (sm_name 3) (sm_name 3) ∈ sm_tbl := wd_491
theorem mo_4 : sm_mok 4 := ⟨wd_492, wd_484, by decide +kernel, by decide +kernel, by decide +kernel, by decide⟩
theorem mi_4 : sm_mI 4 := ⟨wd_493, Or.inl ⟨_, rfl, rfl⟩⟩
theorem se_4 : Cond.selects (sm_name 4).cls (sm_name 4) (sm_name 4) ∈ sm_tbl := wd_494
theorem mo_5 : sm_mok 5 := ⟨wd_495, wd_484, by decide +kernel, by decide +kernel, by decide +kernel, by decide⟩
theorem mi_5 : sm_mI 5 := ⟨wd_496, Or.inl ⟨_, rfl, rfl⟩⟩
theorem se_5 : Cond.selects (sm_name 5).cls (sm_name 5) (sm_name 5) ∈ sm_tbl := wd_497
theorem mo_6 : sm_mok 6 := ⟨wd_498, wd_484, by decide +kernel, by decide +kernel, by decide +kernel, by decide⟩
theorem mi_6 : sm_mI 6 := ⟨wd_499, Or.inl ⟨_, rfl, rfl⟩⟩
theorem se_6 : Cond.selects (sm_name 6).cls (sm_name 6) (sm_name 6) ∈ sm_tbl := wd_500
theorem mo_7 : sm_mok 7 := ⟨wd_501, wd_484, by decide +kernel, by decide +kernel, by decide +kernel, by decide⟩
theorem mi_7 : sm_mI 7 := ⟨wd_502, Or.inl ⟨_, rfl, rfl⟩⟩
theorem se_7 : Cond.selects (sm_name 7).cls (sm_name 7) (sm_name 7) ∈ sm_tbl := wd_503
theorem mo_8 : sm_mok 8 := ⟨wd_504, wd_484, by decide +kernel, by decide +kernel, by decide +kernel, by decide⟩
theorem mi_8 : sm_mI 8 := ⟨wd_505, Or.inl ⟨_, rfl, rfl⟩⟩
theorem se_8 : Cond.selects (sm_name 8).cls (sm_name 8) (sm_name 8) ∈ sm_tbl := wd_506
theorem mo_9 : sm_mok 9 := ⟨wd_507, wd_484, by decide +kernel, by decide +kernel, by decide +kernel, by decide⟩
theorem mi_9 : sm_mI 9 := ⟨wd_508, Or.inl ⟨_, rfl, rfl⟩⟩
theorem se_9 : Cond.selects (sm_name 9).cls (sm_name 9) (sm_name 9) ∈ sm_tbl := wd_509
theorem mo_10 : sm_mok 10 := ⟨wd_510, wd_484, by decide +kernel, by decide +kernel, by decide +kernel, by decide⟩
theorem mi_10 : sm_mI 10 := ⟨wd_511, Or.inl ⟨_, rfl, rfl⟩⟩
theorem se_10 : Cond.selects (sm_name 10).cls (sm_name 10) (sm_name 10) ∈ sm_tbl := wd_512
theorem mo_11 : sm_mok 11 := ⟨wd_513, wd_484, by decide +kernel, by decide +kernel, by decide +kernel, by decide⟩
theorem mi_11 : sm_mI 11 := ⟨wd_514, Or.inl ⟨_, rfl, rfl⟩⟩
theorem se_11 : Cond.selects (sm_name 11).cls (sm_name 11) (sm_name 11) ∈ sm_tbl := wd_515
theorem mo_12 : sm_mok 12 := ⟨wd_516, wd_484, by decide +kernel, by decide +kernel, by decide +kernel, by decide⟩
theorem mi_12 : sm_mI 12 := ⟨wd_517, Or.inl ⟨_, rfl, rfl⟩⟩
theorem se_12 : Cond.selects (sm_name 12).cls (sm_name 12) (sm_name 12) ∈ sm_tbl := wd_518
theorem mo_13 : sm_mok 13 := ⟨wd_519, wd_484, by decide +kernel, by decide +kernel, by decide +kernel, by decide⟩
theorem mi_13 : sm_mI 13 := ⟨wd_520, Or.inl ⟨_, rfl, rfl⟩⟩
theorem se_13 : Cond.selects (sm_name 13).cls (sm_name 13) (sm_name 13) ∈ sm_tbl := wd_521
theorem mo_14 : sm_mok 14 := ⟨wd_522, wd_484, by decide +kernel, by decide +kernel, by decide +kernel, by decide⟩
theorem mi_14 : sm_mI 14 := ⟨wd_523, Or.inl ⟨_, rfl, rfl⟩⟩
theorem se_14 : Cond.selects (sm_name 14).cls (sm_name 14) (sm_name 14) ∈ sm_tbl := wd_524
theorem mo_15 : sm_mok 15 := ⟨wd_525, wd_484, by decide +kernel, by decide +kernel, by decide +kernel, by decide⟩
theorem mi_15 : sm_mI 15 := ⟨wd_526, Or.inl ⟨_, rfl, rfl⟩⟩
theorem se_15 : Cond.selects (sm_name 15).cls (sm_name 15) (sm_name 15) ∈ sm_tbl := wd_527
theorem mo_16 : sm_mok 16 := ⟨wd_528, wd_484, by decide +kernel, by decide +kernel, by decide +kernel, by decide⟩
theorem ms_16 : Cond.static (sm_name 16) ∈ sm_tbl := wd_529
theorem mo_17 : sm_mok 17 := ⟨wd_530, wd_484, by decide +kernel, by decide +kernel, by decide +kernel, by decide⟩
theorem mi_17 : sm_mI 17 := ⟨wd_531, Or.inl ⟨_, rfl, rfl⟩⟩
theorem se_17 : Cond.selects (sm_name 17).cls (sm_name 17) (sm_name 17) ∈ sm_tbl := List.mem_filter.mpr ⟨List.mem_append_left _ (List.mem_map.mpr ⟨(⟨"QueryTables", "forgetAnswers", "()V"⟩, 15), (List.mem_append_left _ (List.mem_of_getElem? (i := 0) rfl)), rfl⟩), rfl⟩
theorem mo_18 : sm_mok 18 := ⟨wd_532, wd_484, by decide +kernel, by decide +kernel, by decide +kernel, by decide⟩
theorem mi_18 : sm_mI 18 := ⟨wd_533, Or.inl ⟨_, rfl, rfl⟩⟩
theorem se_18 : Cond.selects (sm_name 18).cls (sm_name 18) (sm_name 18) ∈ sm_tbl := List.mem_filter.mpr ⟨List.mem_append_left _ (List.mem_map.mpr ⟨(⟨"QueryTables", "carryOut", "()I"⟩, 15), (List.mem_append_right _ (List.mem_append_left _ (List.mem_of_getElem? (i := 7) rfl))), rfl⟩), rfl⟩
theorem mo_19 : sm_mok 19 := ⟨wd_534, wd_484, by decide +kernel, by decide +kernel, by decide +kernel, by decide⟩
theorem mi_19 : sm_mI 19 := ⟨wd_535, Or.inl ⟨_, rfl, rfl⟩⟩
theorem se_19 : Cond.selects (sm_name 19).cls (sm_name 19) (sm_name 19) ∈ sm_tbl := List.mem_filter.mpr ⟨List.mem_append_left _ (List.mem_map.mpr ⟨(⟨"QueryTables", "effect", "(LQueryTables$Table;)I"⟩, 15), (List.mem_append_right _ (List.mem_append_right _ (List.mem_append_left _ (List.mem_of_getElem? (i := 8) rfl)))), rfl⟩), rfl⟩
theorem mo_20 : sm_mok 20 := ⟨wd_536, wd_484, by decide +kernel, by decide +kernel, by decide +kernel, by decide⟩
theorem mi_20 : sm_mI 20 := ⟨wd_537, Or.inl ⟨_, rfl, rfl⟩⟩
theorem se_20 : Cond.selects (sm_name 20).cls (sm_name 20) (sm_name 20) ∈ sm_tbl := List.mem_filter.mpr ⟨List.mem_append_left _ (List.mem_map.mpr ⟨(⟨"QueryTables", "insert", "(LQueryTables$Table;)I"⟩, 15), (List.mem_append_right _ (List.mem_append_right _ (List.mem_append_left _ (List.mem_of_getElem? (i := 9) rfl)))), rfl⟩), rfl⟩
theorem mo_21 : sm_mok 21 := ⟨wd_538, wd_484, by decide +kernel, by decide +kernel, by decide +kernel, by decide⟩
theorem mi_21 : sm_mI 21 := ⟨wd_539, Or.inl ⟨_, rfl, rfl⟩⟩
theorem se_21 : Cond.selects (sm_name 21).cls (sm_name 21) (sm_name 21) ∈ sm_tbl := List.mem_filter.mpr ⟨List.mem_append_left _ (List.mem_map.mpr ⟨(⟨"QueryTables", "update", "(LQueryTables$Table;)I"⟩, 15), (List.mem_append_right _ (List.mem_append_right _ (List.mem_append_left _ (List.mem_of_getElem? (i := 12) rfl)))), rfl⟩), rfl⟩
theorem mo_22 : sm_mok 22 := ⟨wd_540, wd_484, by decide +kernel, by decide +kernel, by decide +kernel, by decide⟩
theorem ms_22 : Cond.static (sm_name 22) ∈ sm_tbl := wd_541
theorem mo_23 : sm_mok 23 := ⟨wd_542, wd_484, by decide +kernel, by decide +kernel, by decide +kernel, by decide⟩
theorem mi_23 : sm_mI 23 := ⟨wd_543, Or.inl ⟨_, rfl, rfl⟩⟩
theorem se_23 : Cond.selects (sm_name 23).cls (sm_name 23) (sm_name 23) ∈ sm_tbl := List.mem_filter.mpr ⟨List.mem_append_left _ (List.mem_map.mpr ⟨(⟨"QueryTables", "delete", "(LQueryTables$Table;)I"⟩, 15), (List.mem_append_right _ (List.mem_append_right _ (List.mem_append_left _ (List.mem_of_getElem? (i := 13) rfl)))), rfl⟩), rfl⟩
theorem mo_24 : sm_mok 24 := ⟨wd_544, wd_484, by decide +kernel, by decide +kernel, by decide +kernel, by decide⟩
theorem mi_24 : sm_mI 24 := ⟨wd_545, Or.inl ⟨_, rfl, rfl⟩⟩
theorem se_24 : Cond.selects (sm_name 24).cls (sm_name 24) (sm_name 24) ∈ sm_tbl := List.mem_filter.mpr ⟨List.mem_append_left _ (List.mem_map.mpr ⟨(⟨"QueryTables", "select", "()I"⟩, 15), (List.mem_append_right _ (List.mem_append_right _ (List.mem_append_left _ (List.mem_of_getElem? (i := 14) rfl)))), rfl⟩), rfl⟩
theorem mo_25 : sm_mok 25 := ⟨wd_546, wd_547, by decide +kernel, by decide +kernel, by decide +kernel, by decide⟩
theorem mi_25 : sm_mI 25 := ⟨wd_548, Or.inl ⟨_, rfl, rfl⟩⟩
theorem mo_26 : sm_mok 26 := ⟨wd_549, wd_547, by decide +kernel, by decide +kernel, by decide +kernel, by decide⟩
theorem mi_26 : sm_mI 26 := ⟨wd_550, Or.inl ⟨_, rfl, rfl⟩⟩
theorem se_26 : Cond.selects (sm_name 26).cls (sm_name 26) (sm_name 26) ∈ sm_tbl := wd_551
theorem mo_27 : sm_mok 27 := ⟨wd_552, wd_547, by decide +kernel, by decide +kernel, by decide +kernel, by decide⟩
theorem mi_27 : sm_mI 27 := ⟨wd_553, Or.inl ⟨_, rfl, rfl⟩⟩
theorem se_27 : Cond.selects (sm_name 27).cls (sm_name 27) (sm_name 27) ∈ sm_tbl := wd_554
theorem mo_28 : sm_mok 28 := ⟨wd_555, wd_547, by decide +kernel, by decide +kernel, by decide +kernel, by decide⟩
theorem mi_28 : sm_mI 28 := ⟨wd_556, Or.inl ⟨_, rfl, rfl⟩⟩
theorem se_28 : Cond.selects (sm_name 28).cls (sm_name 28) (sm_name 28) ∈ sm_tbl := wd_557
theorem mo_29 : sm_mok 29 := ⟨wd_558, wd_547, by decide +kernel, by decide +kernel, by decide +kernel, by decide⟩
theorem mi_29 : sm_mI 29 := ⟨wd_559, Or.inl ⟨_, rfl, rfl⟩⟩
theorem se_29 : Cond.selects (sm_name 29).cls (sm_name 29) (sm_name 29) ∈ sm_tbl := wd_560
theorem mo_30 : sm_mok 30 := ⟨wd_561, wd_547, by decide +kernel, by decide +kernel, by decide +kernel, by decide⟩
theorem mi_30 : sm_mI 30 := ⟨wd_562, Or.inl ⟨_, rfl, rfl⟩⟩
theorem se_30 : Cond.selects (sm_name 30).cls (sm_name 30) (sm_name 30) ∈ sm_tbl := wd_563
theorem mo_31 : sm_mok 31 := ⟨wd_564, wd_547, by decide +kernel, by decide +kernel, by decide +kernel, by decide⟩
theorem mi_31 : sm_mI 31 := ⟨wd_565, Or.inl ⟨_, rfl, rfl⟩⟩
theorem se_31 : Cond.selects (sm_name 31).cls (sm_name 31) (sm_name 31) ∈ sm_tbl := wd_566
theorem mo_32 : sm_mok 32 := ⟨wd_567, wd_547, by decide +kernel, by decide +kernel, by decide +kernel, by decide⟩
theorem mi_32 : sm_mI 32 := ⟨wd_568, Or.inl ⟨_, rfl, rfl⟩⟩
theorem se_32 : Cond.selects (sm_name 32).cls (sm_name 32) (sm_name 32) ∈ sm_tbl := wd_569
theorem mo_33 : sm_mok 33 := ⟨wd_570, wd_547, by decide +kernel, by decide +kernel, by decide +kernel, by decide⟩
theorem mi_33 : sm_mI 33 := ⟨wd_571, Or.inl ⟨_, rfl, rfl⟩⟩
theorem se_33 : Cond.selects (sm_name 33).cls (sm_name 33) (sm_name 33) ∈ sm_tbl := wd_572
theorem mo_34 : sm_mok 34 := ⟨wd_573, wd_547, by decide +kernel, by decide +kernel, by decide +kernel, by decide⟩
theorem mi_34 : sm_mI 34 := ⟨wd_574, Or.inl ⟨_, rfl, rfl⟩⟩
theorem se_34 : Cond.selects (sm_name 34).cls (sm_name 34) (sm_name 34) ∈ sm_tbl := wd_575
theorem mo_35 : sm_mok 35 := ⟨wd_576, wd_547, by decide +kernel, by decide +kernel, by decide +kernel, by decide⟩
theorem mi_35 : sm_mI 35 := ⟨wd_577, Or.inl ⟨_, rfl, rfl⟩⟩
theorem se_35 : Cond.selects (sm_name 35).cls (sm_name 35) (sm_name 35) ∈ sm_tbl := wd_578
theorem mo_36 : sm_mok 36 := ⟨wd_579, wd_547, by decide +kernel, by decide +kernel, by decide +kernel, by decide⟩
theorem mi_36 : sm_mI 36 := ⟨wd_580, Or.inl ⟨_, rfl, rfl⟩⟩
theorem se_36 : Cond.selects (sm_name 36).cls (sm_name 36) (sm_name 36) ∈ sm_tbl := wd_581
theorem mo_37 : sm_mok 37 := ⟨wd_582, wd_547, by decide +kernel, by decide +kernel, by decide +kernel, by decide⟩
theorem mi_37 : sm_mI 37 := ⟨wd_583, Or.inl ⟨_, rfl, rfl⟩⟩
theorem se_37 : Cond.selects (sm_name 37).cls (sm_name 37) (sm_name 37) ∈ sm_tbl := List.mem_filter.mpr ⟨List.mem_append_left _ (List.mem_map.mpr ⟨(⟨"QueryTables$Table", "sink", "(I)V"⟩, 4), (List.mem_append_right _ (List.mem_append_right _ (List.mem_append_left _ (List.mem_of_getElem? (i := 10) rfl)))), rfl⟩), rfl⟩
theorem mo_38 : sm_mok 38 := ⟨wd_584, wd_547, by decide +kernel, by decide +kernel, by decide +kernel, by decide⟩
theorem mi_38 : sm_mI 38 := ⟨wd_585, Or.inl ⟨_, rfl, rfl⟩⟩
theorem se_38 : Cond.selects (sm_name 38).cls (sm_name 38) (sm_name 38) ∈ sm_tbl := List.mem_filter.mpr ⟨List.mem_append_left _ (List.mem_map.mpr ⟨(⟨"QueryTables$Table", "swapWithEarlier", "(I)V"⟩, 4), (List.mem_append_right _ (List.mem_append_right _ (List.mem_append_left _ (List.mem_of_getElem? (i := 11) rfl)))), rfl⟩), rfl⟩
theorem mo_39 : sm_mok 39 := ⟨wd_586, wd_587, by decide +kernel, by decide +kernel, by decide +kernel, by decide⟩
theorem mi_39 : sm_mI 39 := ⟨wd_588, Or.inl ⟨_, rfl, rfl⟩⟩
theorem mo_40 : sm_mok 40 := ⟨wd_589, wd_587, by decide +kernel, by decide +kernel, by decide +kernel, by decide⟩
theorem mi_40 : sm_mI 40 := ⟨wd_590, Or.inl ⟨_, rfl, rfl⟩⟩
theorem se_40 : Cond.selects (sm_name 40).cls (sm_name 40) (sm_name 40) ∈ sm_tbl := wd_591
theorem mo_41 : sm_mok 41 := ⟨wd_592, wd_587, by decide +kernel, by decide +kernel, by decide +kernel, by decide⟩
theorem mi_41 : sm_mI 41 := ⟨wd_593, Or.inl ⟨_, rfl, rfl⟩⟩
theorem se_41 : Cond.selects (sm_name 41).cls (sm_name 41) (sm_name 41) ∈ sm_tbl := wd_594
theorem mo_42 : sm_mok 42 := ⟨wd_595, wd_587, by decide +kernel, by decide +kernel, by decide +kernel, by decide⟩
theorem mi_42 : sm_mI 42 := ⟨wd_596, Or.inl ⟨_, rfl, rfl⟩⟩
theorem se_42 : Cond.selects (sm_name 42).cls (sm_name 42) (sm_name 42) ∈ sm_tbl := wd_597
theorem mo_43 : sm_mok 43 := ⟨wd_598, wd_587, by decide +kernel, by decide +kernel, by decide +kernel, by decide⟩
theorem mi_43 : sm_mI 43 := ⟨wd_599, Or.inl ⟨_, rfl, rfl⟩⟩
theorem se_43 : Cond.selects (sm_name 43).cls (sm_name 43) (sm_name 43) ∈ sm_tbl := wd_600
theorem mo_44 : sm_mok 44 := ⟨wd_601, wd_602, by decide +kernel, by decide +kernel, by decide +kernel, by decide⟩
theorem mi_44 : sm_mI 44 := ⟨wd_603, Or.inl ⟨_, rfl, rfl⟩⟩
theorem mo_45 : sm_mok 45 := ⟨wd_604, wd_602, by decide +kernel, by decide +kernel, by decide +kernel, by decide⟩
theorem mi_45 : sm_mI 45 := ⟨wd_605, Or.inl ⟨_, rfl, rfl⟩⟩
theorem se_45 : Cond.selects (sm_name 45).cls (sm_name 45) (sm_name 45) ∈ sm_tbl := wd_606
theorem mo_46 : sm_mok 46 := ⟨wd_607, wd_602, by decide +kernel, by decide +kernel, by decide +kernel, by decide⟩
theorem mi_46 : sm_mI 46 := ⟨wd_608, Or.inl ⟨_, rfl, rfl⟩⟩
theorem se_46 : Cond.selects (sm_name 46).cls (sm_name 46) (sm_name 46) ∈ sm_tbl := wd_609
theorem mo_47 : sm_mok 47 := ⟨wd_610, wd_602, by decide +kernel, by decide +kernel, by decide +kernel, by decide⟩
theorem mi_47 : sm_mI 47 := ⟨wd_611, Or.inl ⟨_, rfl, rfl⟩⟩
theorem se_47 : Cond.selects (sm_name 47).cls (sm_name 47) (sm_name 47) ∈ sm_tbl := wd_612
theorem mo_48 : sm_mok 48 := ⟨wd_613, wd_602, by decide +kernel, by decide +kernel, by decide +kernel, by decide⟩
theorem mi_48 : sm_mI 48 := ⟨wd_614, Or.inl ⟨_, rfl, rfl⟩⟩
theorem se_48 : Cond.selects (sm_name 48).cls (sm_name 48) (sm_name 48) ∈ sm_tbl := wd_615
theorem mo_49 : sm_mok 49 := ⟨wd_616, wd_602, by decide +kernel, by decide +kernel, by decide +kernel, by decide⟩
theorem mi_49 : sm_mI 49 := ⟨wd_617, Or.inl ⟨_, rfl, rfl⟩⟩
theorem se_49 : Cond.selects (sm_name 49).cls (sm_name 49) (sm_name 49) ∈ sm_tbl := wd_618
theorem mo_50 : sm_mok 50 := ⟨wd_619, wd_602, by decide +kernel, by decide +kernel, by decide +kernel, by decide⟩
theorem mi_50 : sm_mI 50 := ⟨wd_620, Or.inl ⟨_, rfl, rfl⟩⟩
theorem se_50 : Cond.selects (sm_name 50).cls (sm_name 50) (sm_name 50) ∈ sm_tbl := wd_621
theorem mo_51 : sm_mok 51 := ⟨wd_622, wd_602, by decide +kernel, by decide +kernel, by decide +kernel, by decide⟩
theorem mi_51 : sm_mI 51 := ⟨wd_623, Or.inl ⟨_, rfl, rfl⟩⟩
theorem se_51 : Cond.selects (sm_name 51).cls (sm_name 51) (sm_name 51) ∈ sm_tbl := wd_624
theorem mo_52 : sm_mok 52 := ⟨wd_625, wd_602, by decide +kernel, by decide +kernel, by decide +kernel, by decide⟩
theorem ms_52 : Cond.static (sm_name 52) ∈ sm_tbl := wd_626
theorem mo_53 : sm_mok 53 := ⟨wd_627, wd_602, by decide +kernel, by decide +kernel, by decide +kernel, by decide⟩
theorem mi_53 : sm_mI 53 := ⟨wd_628, Or.inl ⟨_, rfl, rfl⟩⟩
theorem se_53 : Cond.selects (sm_name 53).cls (sm_name 53) (sm_name 53) ∈ sm_tbl := List.mem_filter.mpr ⟨List.mem_append_left _ (List.mem_map.mpr ⟨(⟨"QueryTables$Code", "leaf", "(ILQueryTables$Pair;)J"⟩, 6), (List.mem_append_right _ (List.mem_append_right _ (List.mem_append_left _ (List.mem_of_getElem? (i := 2) rfl)))), rfl⟩), rfl⟩
theorem mo_54 : sm_mok 54 := ⟨wd_629, wd_602, by decide +kernel, by decide +kernel, by decide +kernel, by decide⟩
theorem ms_54 : Cond.static (sm_name 54) ∈ sm_tbl := wd_630
theorem mo_55 : sm_mok 55 := ⟨wd_631, wd_602, by decide +kernel, by decide +kernel, by decide +kernel, by decide⟩
theorem ms_55 : Cond.static (sm_name 55) ∈ sm_tbl := wd_632
theorem mo_56 : sm_mok 56 := ⟨wd_633, wd_602, by decide +kernel, by decide +kernel, by decide +kernel, by decide⟩
theorem ms_56 : Cond.static (sm_name 56) ∈ sm_tbl := wd_634
theorem mo_57 : sm_mok 57 := ⟨wd_635, wd_602, by decide +kernel, by decide +kernel, by decide +kernel, by decide⟩
theorem ms_57 : Cond.static (sm_name 57) ∈ sm_tbl := wd_636
theorem mo_58 : sm_mok 58 := ⟨wd_637, wd_638, by decide +kernel, by decide +kernel, by decide +kernel, by decide⟩
theorem mi_58 : sm_mI 58 := ⟨wd_639, Or.inl ⟨_, rfl, rfl⟩⟩
theorem mo_59 : sm_mok 59 := ⟨wd_640, wd_638, by decide +kernel, by decide +kernel, by decide +kernel, by decide⟩
theorem mi_59 : sm_mI 59 := ⟨wd_641, Or.inl ⟨_, rfl, rfl⟩⟩
theorem se_59 : Cond.selects (sm_name 59).cls (sm_name 59) (sm_name 59) ∈ sm_tbl := wd_642
theorem mo_60 : sm_mok 60 := ⟨wd_643, wd_638, by decide +kernel, by decide +kernel, by decide +kernel, by decide⟩
theorem mi_60 : sm_mI 60 := ⟨wd_644, Or.inl ⟨_, rfl, rfl⟩⟩
theorem se_60 : Cond.selects (sm_name 60).cls (sm_name 60) (sm_name 60) ∈ sm_tbl := wd_645
theorem mo_61 : sm_mok 61 := ⟨wd_646, wd_638, by decide +kernel, by decide +kernel, by decide +kernel, by decide⟩
theorem mi_61 : sm_mI 61 := ⟨wd_647, Or.inl ⟨_, rfl, rfl⟩⟩
theorem se_61 : Cond.selects (sm_name 61).cls (sm_name 61) (sm_name 61) ∈ sm_tbl := wd_648
theorem mo_62 : sm_mok 62 := ⟨wd_649, wd_638, by decide +kernel, by decide +kernel, by decide +kernel, by decide⟩
theorem mi_62 : sm_mI 62 := ⟨wd_650, Or.inl ⟨_, rfl, rfl⟩⟩
theorem se_62 : Cond.selects (sm_name 62).cls (sm_name 62) (sm_name 62) ∈ sm_tbl := wd_651
theorem mo_63 : sm_mok 63 := ⟨wd_652, wd_638, by decide +kernel, by decide +kernel, by decide +kernel, by decide⟩
theorem mi_63 : sm_mI 63 := ⟨wd_653, Or.inl ⟨_, rfl, rfl⟩⟩
theorem se_63 : Cond.selects (sm_name 63).cls (sm_name 63) (sm_name 63) ∈ sm_tbl := wd_654
theorem mo_64 : sm_mok 64 := ⟨wd_655, wd_638, by decide +kernel, by decide +kernel, by decide +kernel, by decide⟩
theorem mi_64 : sm_mI 64 := ⟨wd_656, Or.inl ⟨_, rfl, rfl⟩⟩
theorem se_64 : Cond.selects (sm_name 64).cls (sm_name 64) (sm_name 64) ∈ sm_tbl := wd_657
theorem mo_65 : sm_mok 65 := ⟨wd_658, wd_638, by decide +kernel, by decide +kernel, by decide +kernel, by decide⟩
theorem mi_65 : sm_mI 65 := ⟨wd_659, Or.inl ⟨_, rfl, rfl⟩⟩
theorem se_65 : Cond.selects (sm_name 65).cls (sm_name 65) (sm_name 65) ∈ sm_tbl := wd_660
theorem mo_66 : sm_mok 66 := ⟨wd_661, wd_638, by decide +kernel, by decide +kernel, by decide +kernel, by decide⟩
theorem mi_66 : sm_mI 66 := ⟨wd_662, Or.inl ⟨_, rfl, rfl⟩⟩
theorem se_66 : Cond.selects (sm_name 66).cls (sm_name 66) (sm_name 66) ∈ sm_tbl := wd_663
theorem mo_67 : sm_mok 67 := ⟨wd_664, wd_638, by decide +kernel, by decide +kernel, by decide +kernel, by decide⟩
theorem mi_67 : sm_mI 67 := ⟨wd_665, Or.inl ⟨_, rfl, rfl⟩⟩
theorem se_67 : Cond.selects (sm_name 67).cls (sm_name 67) (sm_name 67) ∈ sm_tbl := wd_666
theorem mo_68 : sm_mok 68 := ⟨wd_667, wd_668, by decide +kernel, by decide +kernel, by decide +kernel, by decide⟩
theorem mi_68 : sm_mI 68 := ⟨wd_669, Or.inl ⟨_, rfl, rfl⟩⟩
theorem mo_69 : sm_mok 69 := ⟨wd_670, wd_668, by decide +kernel, by decide +kernel, by decide +kernel, by decide⟩
theorem mi_69 : sm_mI 69 := ⟨wd_671, Or.inl ⟨_, rfl, rfl⟩⟩
theorem se_69 : Cond.selects (sm_name 69).cls (sm_name 69) (sm_name 69) ∈ sm_tbl := wd_672
theorem mo_70 : sm_mok 70 := ⟨wd_673, wd_668, by decide +kernel, by decide +kernel, by decide +kernel, by decide⟩
theorem mi_70 : sm_mI 70 := ⟨wd_674, Or.inl ⟨_, rfl, rfl⟩⟩
theorem se_70 : Cond.selects (sm_name 70).cls (sm_name 70) (sm_name 70) ∈ sm_tbl := wd_675
theorem mo_71 : sm_mok 71 := ⟨wd_676, wd_668, by decide +kernel, by decide +kernel, by decide +kernel, by decide⟩
theorem mi_71 : sm_mI 71 := ⟨wd_677, Or.inl ⟨_, rfl, rfl⟩⟩
theorem se_71 : Cond.selects (sm_name 71).cls (sm_name 71) (sm_name 71) ∈ sm_tbl := wd_678
theorem mo_72 : sm_mok 72 := ⟨wd_679, wd_668, by decide +kernel, by decide +kernel, by decide +kernel, by decide⟩
theorem mi_72 : sm_mI 72 := ⟨wd_680, Or.inl ⟨_, rfl, rfl⟩⟩
theorem se_72 : Cond.selects (sm_name 72).cls (sm_name 72) (sm_name 72) ∈ sm_tbl := wd_681
theorem mo_73 : sm_mok 73 := ⟨wd_682, wd_668, by decide +kernel, by decide +kernel, by decide +kernel, by decide⟩
theorem ms_73 : Cond.static (sm_name 73) ∈ sm_tbl := wd_683
theorem mo_74 : sm_mok 74 := ⟨wd_684, wd_668, by decide +kernel, by decide +kernel, by decide +kernel, by decide⟩
theorem ms_74 : Cond.static (sm_name 74) ∈ sm_tbl := wd_685
theorem mo_75 : sm_mok 75 := ⟨wd_686, wd_668, by decide +kernel, by decide +kernel, by decide +kernel, by decide⟩
theorem ms_75 : Cond.static (sm_name 75) ∈ sm_tbl := wd_687
theorem mo_76 : sm_mok 76 := ⟨wd_688, wd_668, by decide +kernel, by decide +kernel, by decide +kernel, by decide⟩
theorem mi_76 : sm_mI 76 := ⟨wd_689, Or.inl ⟨_, rfl, rfl⟩⟩
theorem se_76 : Cond.selects (sm_name 76).cls (sm_name 76) (sm_name 76) ∈ sm_tbl := List.mem_filter.mpr ⟨List.mem_append_left _ (List.mem_map.mpr ⟨(⟨"QueryTables$Tokens", "addToken", "([CII)Z"⟩, 4), (List.mem_append_left _ (List.mem_of_getElem? (i := 1) rfl)), rfl⟩), rfl⟩
theorem mo_77 : sm_mok 77 := ⟨wd_690, wd_668, by decide +kernel, by decide +kernel, by decide +kernel, by decide⟩
theorem mi_77 : sm_mI 77 := ⟨wd_691, Or.inl ⟨_, rfl, rfl⟩⟩
theorem se_77 : Cond.selects (sm_name 77).cls (sm_name 77) (sm_name 77) ∈ sm_tbl := List.mem_filter.mpr ⟨List.mem_append_left _ (List.mem_map.mpr ⟨(⟨"QueryTables$Tokens", "addNumber", "([CII)Z"⟩, 4), (List.mem_append_left _ (List.mem_of_getElem? (i := 4) rfl)), rfl⟩), rfl⟩
theorem mo_78 : sm_mok 78 := ⟨wd_692, wd_668, by decide +kernel, by decide +kernel, by decide +kernel, by decide⟩
theorem mi_78 : sm_mI 78 := ⟨wd_693, Or.inl ⟨_, rfl, rfl⟩⟩
theorem se_78 : Cond.selects (sm_name 78).cls (sm_name 78) (sm_name 78) ∈ sm_tbl := List.mem_filter.mpr ⟨List.mem_append_left _ (List.mem_map.mpr ⟨(⟨"QueryTables$Tokens", "addWord", "([CII)Z"⟩, 4), (List.mem_append_left _ (List.mem_of_getElem? (i := 2) rfl)), rfl⟩), rfl⟩
theorem mo_79 : sm_mok 79 := ⟨wd_694, wd_668, by decide +kernel, by decide +kernel, by decide +kernel, by decide⟩
theorem mi_79 : sm_mI 79 := ⟨wd_695, Or.inl ⟨_, rfl, rfl⟩⟩
theorem se_79 : Cond.selects (sm_name 79).cls (sm_name 79) (sm_name 79) ∈ sm_tbl := List.mem_filter.mpr ⟨List.mem_append_left _ (List.mem_map.mpr ⟨(⟨"QueryTables$Tokens", "keep", "(II)Z"⟩, 4), (List.mem_append_left _ (List.mem_of_getElem? (i := 3) rfl)), rfl⟩), rfl⟩
theorem mo_80 : sm_mok 80 := ⟨wd_696, wd_668, by decide +kernel, by decide +kernel, by decide +kernel, by decide⟩
theorem ms_80 : Cond.static (sm_name 80) ∈ sm_tbl := wd_697
theorem mo_81 : sm_mok 81 := ⟨wd_698, wd_668, by decide +kernel, by decide +kernel, by decide +kernel, by decide⟩
theorem ms_81 : Cond.static (sm_name 81) ∈ sm_tbl := wd_699
theorem mo_82 : sm_mok 82 := ⟨wd_700, wd_668, by decide +kernel, by decide +kernel, by decide +kernel, by decide⟩
theorem ms_82 : Cond.static (sm_name 82) ∈ sm_tbl := wd_701
theorem mo_83 : sm_mok 83 := ⟨wd_702, wd_703, by decide +kernel, by decide +kernel, by decide +kernel, by decide⟩
theorem mi_83 : sm_mI 83 := ⟨wd_704, Or.inl ⟨_, rfl, rfl⟩⟩
theorem mo_84 : sm_mok 84 := ⟨wd_705, wd_703, by decide +kernel, by decide +kernel, by decide +kernel, by decide⟩
theorem mi_84 : sm_mI 84 := ⟨wd_706, Or.inl ⟨_, rfl, rfl⟩⟩
theorem se_84 : Cond.selects (sm_name 84).cls (sm_name 84) (sm_name 84) ∈ sm_tbl := wd_707
theorem mo_85 : sm_mok 85 := ⟨wd_708, wd_703, by decide +kernel, by decide +kernel, by decide +kernel, by decide⟩
theorem mi_85 : sm_mI 85 := ⟨wd_709, Or.inl ⟨_, rfl, rfl⟩⟩
theorem se_85 : Cond.selects (sm_name 85).cls (sm_name 85) (sm_name 85) ∈ sm_tbl := wd_710
theorem mo_86 : sm_mok 86 := ⟨wd_711, wd_703, by decide +kernel, by decide +kernel, by decide +kernel, by decide⟩
theorem mi_86 : sm_mI 86 := ⟨wd_712, Or.inl ⟨_, rfl, rfl⟩⟩
theorem se_86 : Cond.selects (sm_name 86).cls (sm_name 86) (sm_name 86) ∈ sm_tbl := wd_713
theorem mo_87 : sm_mok 87 := ⟨wd_714, wd_703, by decide +kernel, by decide +kernel, by decide +kernel, by decide⟩
theorem mi_87 : sm_mI 87 := ⟨wd_715, Or.inl ⟨_, rfl, rfl⟩⟩
theorem se_87 : Cond.selects (sm_name 87).cls (sm_name 87) (sm_name 87) ∈ sm_tbl := List.mem_filter.mpr ⟨List.mem_append_left _ (List.mem_map.mpr ⟨(⟨"QueryTables$Parser", "firstTable", "()Z"⟩, 4), (List.mem_append_left _ (List.mem_of_getElem? (i := 5) rfl)), rfl⟩), rfl⟩
theorem mo_88 : sm_mok 88 := ⟨wd_716, wd_703, by decide +kernel, by decide +kernel, by decide +kernel, by decide⟩
theorem mi_88 : sm_mI 88 := ⟨wd_717, Or.inl ⟨_, rfl, rfl⟩⟩
theorem se_88 : Cond.selects (sm_name 88).cls (sm_name 88) (sm_name 88) ∈ sm_tbl := List.mem_filter.mpr ⟨List.mem_append_left _ (List.mem_map.mpr ⟨(⟨"QueryTables$Parser", "secondTable", "()Z"⟩, 4), (List.mem_append_right _ (List.mem_append_left _ (List.mem_of_getElem? (i := 4) rfl))), rfl⟩), rfl⟩
theorem mo_89 : sm_mok 89 := ⟨wd_718, wd_703, by decide +kernel, by decide +kernel, by decide +kernel, by decide⟩
theorem mi_89 : sm_mI 89 := ⟨wd_719, Or.inl ⟨_, rfl, rfl⟩⟩
theorem se_89 : Cond.selects (sm_name 89).cls (sm_name 89) (sm_name 89) ∈ sm_tbl := List.mem_filter.mpr ⟨List.mem_append_left _ (List.mem_map.mpr ⟨(⟨"QueryTables$Parser", "number", "()Z"⟩, 4), (List.mem_append_left _ (List.mem_of_getElem? (i := 6) rfl)), rfl⟩), rfl⟩
theorem mo_90 : sm_mok 90 := ⟨wd_720, wd_703, by decide +kernel, by decide +kernel, by decide +kernel, by decide⟩
theorem mi_90 : sm_mI 90 := ⟨wd_721, Or.inl ⟨_, rfl, rfl⟩⟩
theorem se_90 : Cond.selects (sm_name 90).cls (sm_name 90) (sm_name 90) ∈ sm_tbl := List.mem_filter.mpr ⟨List.mem_append_left _ (List.mem_map.mpr ⟨(⟨"QueryTables$Parser", "column", "()Z"⟩, 4), (List.mem_append_left _ (List.mem_of_getElem? (i := 7) rfl)), rfl⟩), rfl⟩
theorem mo_91 : sm_mok 91 := ⟨wd_722, wd_703, by decide +kernel, by decide +kernel, by decide +kernel, by decide⟩
theorem mi_91 : sm_mI 91 := ⟨wd_723, Or.inl ⟨_, rfl, rfl⟩⟩
theorem se_91 : Cond.selects (sm_name 91).cls (sm_name 91) (sm_name 91) ∈ sm_tbl := List.mem_filter.mpr ⟨List.mem_append_left _ (List.mem_map.mpr ⟨(⟨"QueryTables$Parser", "list", "()Z"⟩, 4), (List.mem_append_left _ (List.mem_of_getElem? (i := 8) rfl)), rfl⟩), rfl⟩
theorem mo_92 : sm_mok 92 := ⟨wd_724, wd_703, by decide +kernel, by decide +kernel, by decide +kernel, by decide⟩
theorem mi_92 : sm_mI 92 := ⟨wd_725, Or.inl ⟨_, rfl, rfl⟩⟩
theorem se_92 : Cond.selects (sm_name 92).cls (sm_name 92) (sm_name 92) ∈ sm_tbl := List.mem_filter.mpr ⟨List.mem_append_left _ (List.mem_map.mpr ⟨(⟨"QueryTables$Parser", "listed", "()Z"⟩, 4), (List.mem_append_left _ (List.mem_of_getElem? (i := 9) rfl)), rfl⟩), rfl⟩
theorem mo_93 : sm_mok 93 := ⟨wd_726, wd_703, by decide +kernel, by decide +kernel, by decide +kernel, by decide⟩
theorem mi_93 : sm_mI 93 := ⟨wd_727, Or.inl ⟨_, rfl, rfl⟩⟩
theorem se_93 : Cond.selects (sm_name 93).cls (sm_name 93) (sm_name 93) ∈ sm_tbl := List.mem_filter.mpr ⟨List.mem_append_left _ (List.mem_map.mpr ⟨(⟨"QueryTables$Parser", "where", "()Z"⟩, 4), (List.mem_append_left _ (List.mem_of_getElem? (i := 14) rfl)), rfl⟩), rfl⟩
theorem mo_94 : sm_mok 94 := ⟨wd_728, wd_703, by decide +kernel, by decide +kernel, by decide +kernel, by decide⟩
theorem mi_94 : sm_mI 94 := ⟨wd_729, Or.inl ⟨_, rfl, rfl⟩⟩
theorem se_94 : Cond.selects (sm_name 94).cls (sm_name 94) (sm_name 94) ∈ sm_tbl := List.mem_filter.mpr ⟨List.mem_append_left _ (List.mem_map.mpr ⟨(⟨"QueryTables$Parser", "order", "()Z"⟩, 4), (List.mem_append_right _ (List.mem_append_left _ (List.mem_of_getElem? (i := 5) rfl))), rfl⟩), rfl⟩
theorem mo_95 : sm_mok 95 := ⟨wd_730, wd_703, by decide +kernel, by decide +kernel, by decide +kernel, by decide⟩
theorem mi_95 : sm_mI 95 := ⟨wd_731, Or.inl ⟨_, rfl, rfl⟩⟩
theorem se_95 : Cond.selects (sm_name 95).cls (sm_name 95) (sm_name 95) ∈ sm_tbl := List.mem_filter.mpr ⟨List.mem_append_left _ (List.mem_map.mpr ⟨(⟨"QueryTables$Parser", "limit", "()Z"⟩, 4), (List.mem_append_right _ (List.mem_append_left _ (List.mem_of_getElem? (i := 6) rfl))), rfl⟩), rfl⟩
theorem mo_96 : sm_mok 96 := ⟨wd_732, wd_703, by decide +kernel, by decide +kernel, by decide +kernel, by decide⟩
theorem mi_96 : sm_mI 96 := ⟨wd_733, Or.inl ⟨_, rfl, rfl⟩⟩
theorem se_96 : Cond.selects (sm_name 96).cls (sm_name 96) (sm_name 96) ∈ sm_tbl := List.mem_filter.mpr ⟨List.mem_append_left _ (List.mem_map.mpr ⟨(⟨"QueryTables$Parser", "expression", "(I)Z"⟩, 4), (List.mem_append_left _ (List.mem_of_getElem? (i := 10) rfl)), rfl⟩), rfl⟩
theorem mo_97 : sm_mok 97 := ⟨wd_734, wd_703, by decide +kernel, by decide +kernel, by decide +kernel, by decide⟩
theorem mi_97 : sm_mI 97 := ⟨wd_735, Or.inl ⟨_, rfl, rfl⟩⟩
theorem se_97 : Cond.selects (sm_name 97).cls (sm_name 97) (sm_name 97) ∈ sm_tbl := List.mem_filter.mpr ⟨List.mem_append_left _ (List.mem_map.mpr ⟨(⟨"QueryTables$Parser", "product", "(I)Z"⟩, 4), (List.mem_append_left _ (List.mem_of_getElem? (i := 11) rfl)), rfl⟩), rfl⟩
theorem mo_98 : sm_mok 98 := ⟨wd_736, wd_703, by decide +kernel, by decide +kernel, by decide +kernel, by decide⟩
theorem mi_98 : sm_mI 98 := ⟨wd_737, Or.inl ⟨_, rfl, rfl⟩⟩
theorem se_98 : Cond.selects (sm_name 98).cls (sm_name 98) (sm_name 98) ∈ sm_tbl := List.mem_filter.mpr ⟨List.mem_append_left _ (List.mem_map.mpr ⟨(⟨"QueryTables$Parser", "factor", "(I)Z"⟩, 4), (List.mem_append_left _ (List.mem_of_getElem? (i := 12) rfl)), rfl⟩), rfl⟩
theorem mo_99 : sm_mok 99 := ⟨wd_738, wd_703, by decide +kernel, by decide +kernel, by decide +kernel, by decide⟩
theorem mi_99 : sm_mI 99 := ⟨wd_739, Or.inl ⟨_, rfl, rfl⟩⟩
theorem se_99 : Cond.selects (sm_name 99).cls (sm_name 99) (sm_name 99) ∈ sm_tbl := List.mem_filter.mpr ⟨List.mem_append_left _ (List.mem_map.mpr ⟨(⟨"QueryTables$Parser", "columnOfTable", "()Z"⟩, 4), (List.mem_append_left _ (List.mem_of_getElem? (i := 13) rfl)), rfl⟩), rfl⟩
theorem mo_100 : sm_mok 100 := ⟨wd_740, wd_703, by decide +kernel, by decide +kernel, by decide +kernel, by decide⟩
theorem mi_100 : sm_mI 100 := ⟨wd_741, Or.inl ⟨_, rfl, rfl⟩⟩
theorem se_100 : Cond.selects (sm_name 100).cls (sm_name 100) (sm_name 100) ∈ sm_tbl := List.mem_filter.mpr ⟨List.mem_append_left _ (List.mem_map.mpr ⟨(⟨"QueryTables$Parser", "condition", "(I)Z"⟩, 4), (List.mem_append_left _ (List.mem_of_getElem? (i := 15) rfl)), rfl⟩), rfl⟩
theorem mo_101 : sm_mok 101 := ⟨wd_742, wd_703, by decide +kernel, by decide +kernel, by decide +kernel, by decide⟩
theorem mi_101 : sm_mI 101 := ⟨wd_743, Or.inl ⟨_, rfl, rfl⟩⟩
theorem se_101 : Cond.selects (sm_name 101).cls (sm_name 101) (sm_name 101) ∈ sm_tbl := List.mem_filter.mpr ⟨List.mem_append_left _ (List.mem_map.mpr ⟨(⟨"QueryTables$Parser", "conjunction", "(I)Z"⟩, 4), (List.mem_append_right _ (List.mem_append_left _ (List.mem_of_getElem? (i := 0) rfl))), rfl⟩), rfl⟩
theorem mo_102 : sm_mok 102 := ⟨wd_744, wd_703, by decide +kernel, by decide +kernel, by decide +kernel, by decide⟩
theorem mi_102 : sm_mI 102 := ⟨wd_745, Or.inl ⟨_, rfl, rfl⟩⟩
theorem se_102 : Cond.selects (sm_name 102).cls (sm_name 102) (sm_name 102) ∈ sm_tbl := List.mem_filter.mpr ⟨List.mem_append_left _ (List.mem_map.mpr ⟨(⟨"QueryTables$Parser", "part", "(I)Z"⟩, 4), (List.mem_append_right _ (List.mem_append_left _ (List.mem_of_getElem? (i := 1) rfl))), rfl⟩), rfl⟩
theorem mo_103 : sm_mok 103 := ⟨wd_746, wd_703, by decide +kernel, by decide +kernel, by decide +kernel, by decide⟩
theorem mi_103 : sm_mI 103 := ⟨wd_747, Or.inl ⟨_, rfl, rfl⟩⟩
theorem se_103 : Cond.selects (sm_name 103).cls (sm_name 103) (sm_name 103) ∈ sm_tbl := List.mem_filter.mpr ⟨List.mem_append_left _ (List.mem_map.mpr ⟨(⟨"QueryTables$Parser", "negatable", "(I)Z"⟩, 4), (List.mem_append_right _ (List.mem_append_left _ (List.mem_of_getElem? (i := 2) rfl))), rfl⟩), rfl⟩
theorem mo_104 : sm_mok 104 := ⟨wd_748, wd_703, by decide +kernel, by decide +kernel, by decide +kernel, by decide⟩
theorem mi_104 : sm_mI 104 := ⟨wd_749, Or.inl ⟨_, rfl, rfl⟩⟩
theorem se_104 : Cond.selects (sm_name 104).cls (sm_name 104) (sm_name 104) ∈ sm_tbl := List.mem_filter.mpr ⟨List.mem_append_left _ (List.mem_map.mpr ⟨(⟨"QueryTables$Parser", "comparison", "(I)Z"⟩, 4), (List.mem_append_right _ (List.mem_append_left _ (List.mem_of_getElem? (i := 3) rfl))), rfl⟩), rfl⟩
theorem mo_105 : sm_mok 105 := ⟨wd_750, wd_751, by decide +kernel, by decide +kernel, by decide +kernel, by decide⟩
theorem mi_105 : sm_mI 105 := ⟨wd_752, Or.inl ⟨_, rfl, rfl⟩⟩
theorem mo_106 : sm_mok 106 := ⟨wd_753, wd_751, by decide +kernel, by decide +kernel, by decide +kernel, by decide⟩
theorem mi_106 : sm_mI 106 := ⟨wd_754, Or.inl ⟨_, rfl, rfl⟩⟩
theorem se_106 : Cond.selects (sm_name 106).cls (sm_name 106) (sm_name 106) ∈ sm_tbl := wd_755
theorem mo_107 : sm_mok 107 := ⟨wd_756, wd_751, by decide +kernel, by decide +kernel, by decide +kernel, by decide⟩
theorem mi_107 : sm_mI 107 := ⟨wd_757, Or.inl ⟨_, rfl, rfl⟩⟩
theorem se_107 : Cond.selects (sm_name 107).cls (sm_name 107) (sm_name 107) ∈ sm_tbl := List.mem_filter.mpr ⟨List.mem_append_left _ (List.mem_map.mpr ⟨(⟨"QueryTables$Checker", "tablesFit", "()Z"⟩, 3), (List.mem_append_right _ (List.mem_append_left _ (List.mem_of_getElem? (i := 8) rfl))), rfl⟩), rfl⟩
theorem mo_108 : sm_mok 108 := ⟨wd_758, wd_751, by decide +kernel, by decide +kernel, by decide +kernel, by decide⟩
theorem mi_108 : sm_mI 108 := ⟨wd_759, Or.inl ⟨_, rfl, rfl⟩⟩
theorem se_108 : Cond.selects (sm_name 108).cls (sm_name 108) (sm_name 108) ∈ sm_tbl := List.mem_filter.mpr ⟨List.mem_append_left _ (List.mem_map.mpr ⟨(⟨"QueryTables$Checker", "columnFits", "()Z"⟩, 3), (List.mem_append_right _ (List.mem_append_left _ (List.mem_of_getElem? (i := 9) rfl))), rfl⟩), rfl⟩
theorem mo_109 : sm_mok 109 := ⟨wd_760, wd_751, by decide +kernel, by decide +kernel, by decide +kernel, by decide⟩
theorem mi_109 : sm_mI 109 := ⟨wd_761, Or.inl ⟨_, rfl, rfl⟩⟩
theorem se_109 : Cond.selects (sm_name 109).cls (sm_name 109) (sm_name 109) ∈ sm_tbl := List.mem_filter.mpr ⟨List.mem_append_left _ (List.mem_map.mpr ⟨(⟨"QueryTables$Checker", "findSides", "()Z"⟩, 3), (List.mem_append_right _ (List.mem_append_left _ (List.mem_of_getElem? (i := 10) rfl))), rfl⟩), rfl⟩
theorem mo_110 : sm_mok 110 := ⟨wd_762, wd_751, by decide +kernel, by decide +kernel, by decide +kernel, by decide⟩
theorem mi_110 : sm_mI 110 := ⟨wd_763, Or.inl ⟨_, rfl, rfl⟩⟩
theorem se_110 : Cond.selects (sm_name 110).cls (sm_name 110) (sm_name 110) ∈ sm_tbl := List.mem_filter.mpr ⟨List.mem_append_left _ (List.mem_map.mpr ⟨(⟨"QueryTables$Checker", "sideOf", "(II)I"⟩, 3), (List.mem_append_right _ (List.mem_append_left _ (List.mem_of_getElem? (i := 11) rfl))), rfl⟩), rfl⟩
theorem mo_111 : sm_mok 111 := ⟨wd_764, wd_751, by decide +kernel, by decide +kernel, by decide +kernel, by decide⟩
theorem mi_111 : sm_mI 111 := ⟨wd_765, Or.inl ⟨_, rfl, rfl⟩⟩
theorem se_111 : Cond.selects (sm_name 111).cls (sm_name 111) (sm_name 111) ∈ sm_tbl := List.mem_filter.mpr ⟨List.mem_append_left _ (List.mem_map.mpr ⟨(⟨"QueryTables$Checker", "fits", "(III)Z"⟩, 3), (List.mem_append_right _ (List.mem_append_left _ (List.mem_of_getElem? (i := 12) rfl))), rfl⟩), rfl⟩
theorem mo_112 : sm_mok 112 := ⟨wd_766, wd_751, by decide +kernel, by decide +kernel, by decide +kernel, by decide⟩
theorem mi_112 : sm_mI 112 := ⟨wd_767, Or.inl ⟨_, rfl, rfl⟩⟩
theorem se_112 : Cond.selects (sm_name 112).cls (sm_name 112) (sm_name 112) ∈ sm_tbl := List.mem_filter.mpr ⟨List.mem_append_left _ (List.mem_map.mpr ⟨(⟨"QueryTables$Checker", "numbersFit", "()Z"⟩, 3), (List.mem_append_right _ (List.mem_append_left _ (List.mem_of_getElem? (i := 13) rfl))), rfl⟩), rfl⟩
theorem mo_113 : sm_mok 113 := ⟨wd_768, wd_769, by decide +kernel, by decide +kernel, by decide +kernel, by decide⟩
theorem mi_113 : sm_mI 113 := ⟨wd_770, Or.inl ⟨_, rfl, rfl⟩⟩
theorem mo_114 : sm_mok 114 := ⟨wd_771, wd_769, by decide +kernel, by decide +kernel, by decide +kernel, by decide⟩
theorem mi_114 : sm_mI 114 := ⟨wd_772, Or.inl ⟨_, rfl, rfl⟩⟩
theorem se_114 : Cond.selects (sm_name 114).cls (sm_name 114) (sm_name 114) ∈ sm_tbl := wd_773
theorem mo_115 : sm_mok 115 := ⟨wd_774, wd_769, by decide +kernel, by decide +kernel, by decide +kernel, by decide⟩
theorem mi_115 : sm_mI 115 := ⟨wd_775, Or.inl ⟨_, rfl, rfl⟩⟩
theorem se_115 : Cond.selects (sm_name 115).cls (sm_name 115) (sm_name 115) ∈ sm_tbl := List.mem_filter.mpr ⟨List.mem_append_left _ (List.mem_map.mpr ⟨(⟨"QueryTables$Access", "consider", "(LQueryTables$Table;III)V"⟩, 8), (List.mem_append_right _ (List.mem_append_left _ (List.mem_of_getElem? (i := 14) rfl))), rfl⟩), rfl⟩
theorem mo_116 : sm_mok 116 := ⟨wd_776, wd_769, by decide +kernel, by decide +kernel, by decide +kernel, by decide⟩
theorem mi_116 : sm_mI 116 := ⟨wd_777, Or.inl ⟨_, rfl, rfl⟩⟩
theorem se_116 : Cond.selects (sm_name 116).cls (sm_name 116) (sm_name 116) ∈ sm_tbl := List.mem_filter.mpr ⟨List.mem_append_left _ (List.mem_map.mpr ⟨(⟨"QueryTables$Access", "take", "(IIII)V"⟩, 8), (List.mem_append_right _ (List.mem_append_left _ (List.mem_of_getElem? (i := 15) rfl))), rfl⟩), rfl⟩
theorem mo_117 : sm_mok 117 := ⟨wd_778, wd_769, by decide +kernel, by decide +kernel, by decide +kernel, by decide⟩
theorem mi_117 : sm_mI 117 := ⟨wd_779, Or.inl ⟨_, rfl, rfl⟩⟩
theorem se_117 : Cond.selects (sm_name 117).cls (sm_name 117) (sm_name 117) ∈ sm_tbl := wd_780
theorem mo_118 : sm_mok 118 := ⟨wd_781, wd_782, by decide +kernel, by decide +kernel, by decide +kernel, by decide⟩
theorem mi_118 : sm_mI 118 := ⟨wd_783, Or.inl ⟨_, rfl, rfl⟩⟩
theorem mo_119 : sm_mok 119 := ⟨wd_784, wd_782, by decide +kernel, by decide +kernel, by decide +kernel, by decide⟩
theorem mi_119 : sm_mI 119 := ⟨wd_785, Or.inl ⟨_, rfl, rfl⟩⟩
theorem se_119 : Cond.selects (sm_name 119).cls (sm_name 119) (sm_name 119) ∈ sm_tbl := wd_786
theorem mo_120 : sm_mok 120 := ⟨wd_787, wd_782, by decide +kernel, by decide +kernel, by decide +kernel, by decide⟩
theorem ms_120 : Cond.static (sm_name 120) ∈ sm_tbl := wd_788
theorem mo_121 : sm_mok 121 := ⟨wd_789, wd_782, by decide +kernel, by decide +kernel, by decide +kernel, by decide⟩
theorem mi_121 : sm_mI 121 := ⟨wd_790, Or.inl ⟨_, rfl, rfl⟩⟩
theorem se_121 : Cond.selects (sm_name 121).cls (sm_name 121) (sm_name 121) ∈ sm_tbl := List.mem_filter.mpr ⟨List.mem_append_left _ (List.mem_map.mpr ⟨(⟨"QueryTables$Search", "isOfTwo", "()Z"⟩, 16), (List.mem_append_right _ (List.mem_append_right _ (List.mem_append_left _ (List.mem_of_getElem? (i := 0) rfl)))), rfl⟩), rfl⟩
theorem mo_122 : sm_mok 122 := ⟨wd_791, wd_782, by decide +kernel, by decide +kernel, by decide +kernel, by decide⟩
theorem mi_122 : sm_mI 122 := ⟨wd_792, Or.inl ⟨_, rfl, rfl⟩⟩
theorem se_122 : Cond.selects (sm_name 122).cls (sm_name 122) (sm_name 122) ∈ sm_tbl := wd_793
theorem mo_123 : sm_mok 123 := ⟨wd_794, wd_782, by decide +kernel, by decide +kernel, by decide +kernel, by decide⟩
theorem mi_123 : sm_mI 123 := ⟨wd_795, Or.inl ⟨_, rfl, rfl⟩⟩
theorem se_123 : Cond.selects (sm_name 123).cls (sm_name 123) (sm_name 123) ∈ sm_tbl := wd_796
theorem mo_124 : sm_mok 124 := ⟨wd_797, wd_782, by decide +kernel, by decide +kernel, by decide +kernel, by decide⟩
theorem mi_124 : sm_mI 124 := ⟨wd_798, Or.inl ⟨_, rfl, rfl⟩⟩
theorem se_124 : Cond.selects (sm_name 124).cls (sm_name 124) (sm_name 124) ∈ sm_tbl := List.mem_filter.mpr ⟨List.mem_append_left _ (List.mem_map.mpr ⟨(⟨"QueryTables$Search", "fetch", "(LQueryTables$Access;[I)I"⟩, 16), (List.mem_append_right _ (List.mem_append_right _ (List.mem_append_left _ (List.mem_of_getElem? (i := 1) rfl)))), rfl⟩), rfl⟩
theorem mo_125 : sm_mok 125 := ⟨wd_799, wd_782, by decide +kernel, by decide +kernel, by decide +kernel, by decide⟩
theorem mi_125 : sm_mI 125 := ⟨wd_800, Or.inl ⟨_, rfl, rfl⟩⟩
theorem se_125 : Cond.selects (sm_name 125).cls (sm_name 125) (sm_name 125) ∈ sm_tbl := List.mem_filter.mpr ⟨List.mem_append_left _ (List.mem_map.mpr ⟨(⟨"QueryTables$Search", "outerRowHolds", "()Z"⟩, 16), (List.mem_append_right _ (List.mem_append_right _ (List.mem_append_left _ (List.mem_of_getElem? (i := 7) rfl)))), rfl⟩), rfl⟩
theorem mo_126 : sm_mok 126 := ⟨wd_801, wd_782, by decide +kernel, by decide +kernel, by decide +kernel, by decide⟩
theorem mi_126 : sm_mI 126 := ⟨wd_802, Or.inl ⟨_, rfl, rfl⟩⟩
theorem se_126 : Cond.selects (sm_name 126).cls (sm_name 126) (sm_name 126) ∈ sm_tbl := List.mem_filter.mpr ⟨List.mem_append_left _ (List.mem_map.mpr ⟨(⟨"QueryTables$Search", "keepIfFound", "()V"⟩, 16), (List.mem_append_right _ (List.mem_append_right _ (List.mem_append_left _ (List.mem_of_getElem? (i := 3) rfl)))), rfl⟩), rfl⟩
theorem mo_127 : sm_mok 127 := ⟨wd_803, wd_782, by decide +kernel, by decide +kernel, by decide +kernel, by decide⟩
theorem mi_127 : sm_mI 127 := ⟨wd_804, Or.inl ⟨_, rfl, rfl⟩⟩
theorem se_127 : Cond.selects (sm_name 127).cls (sm_name 127) (sm_name 127) ∈ sm_tbl := List.mem_filter.mpr ⟨List.mem_append_left _ (List.mem_map.mpr ⟨(⟨"QueryTables$Search", "rank", "(J)J"⟩, 16), (List.mem_append_right _ (List.mem_append_right _ (List.mem_append_left _ (List.mem_of_getElem? (i := 4) rfl)))), rfl⟩), rfl⟩
theorem mo_128 : sm_mok 128 := ⟨wd_805, wd_782, by decide +kernel, by decide +kernel, by decide +kernel, by decide⟩
theorem mi_128 : sm_mI 128 := ⟨wd_806, Or.inl ⟨_, rfl, rfl⟩⟩
theorem se_128 : Cond.selects (sm_name 128).cls (sm_name 128) (sm_name 128) ∈ sm_tbl := List.mem_filter.mpr ⟨List.mem_append_left _ (List.mem_map.mpr ⟨(⟨"QueryTables$Search", "putInOrder", "(JII)V"⟩, 16), (List.mem_append_right _ (List.mem_append_right _ (List.mem_append_left _ (List.mem_of_getElem? (i := 5) rfl)))), rfl⟩), rfl⟩
theorem mo_129 : sm_mok 129 := ⟨wd_807, wd_782, by decide +kernel, by decide +kernel, by decide +kernel, by decide⟩
theorem mi_129 : sm_mI 129 := ⟨wd_808, Or.inl ⟨_, rfl, rfl⟩⟩
theorem se_129 : Cond.selects (sm_name 129).cls (sm_name 129) (sm_name 129) ∈ sm_tbl := List.mem_filter.mpr ⟨List.mem_append_left _ (List.mem_map.mpr ⟨(⟨"QueryTables$Search", "comesBefore", "(JIII)Z"⟩, 16), (List.mem_append_right _ (List.mem_append_right _ (List.mem_append_left _ (List.mem_of_getElem? (i := 6) rfl)))), rfl⟩), rfl⟩
theorem mo_130 : sm_mok 130 := ⟨wd_809, wd_782, by decide +kernel, by decide +kernel, by decide +kernel, by decide⟩
theorem mi_130 : sm_mI 130 := ⟨wd_810, Or.inl ⟨_, rfl, rfl⟩⟩
theorem se_130 : Cond.selects (sm_name 130).cls (sm_name 130) (sm_name 130) ∈ sm_tbl := wd_811
theorem mo_131 : sm_mok 131 := ⟨wd_812, wd_813, by decide +kernel, by decide +kernel, by decide +kernel, by decide⟩
theorem mi_131 : sm_mI 131 := ⟨wd_814, Or.inl ⟨_, rfl, rfl⟩⟩
theorem mo_132 : sm_mok 132 := ⟨wd_815, wd_813, by decide +kernel, by decide +kernel, by decide +kernel, by decide⟩
theorem mi_132 : sm_mI 132 := ⟨wd_816, Or.inl ⟨_, rfl, rfl⟩⟩
theorem se_132 : Cond.selects (sm_name 132).cls (sm_name 132) (sm_name 132) ∈ sm_tbl := wd_817
theorem mo_133 : sm_mok 133 := ⟨wd_818, wd_813, by decide +kernel, by decide +kernel, by decide +kernel, by decide⟩
theorem mi_133 : sm_mI 133 := ⟨wd_819, Or.inl ⟨_, rfl, rfl⟩⟩
theorem se_133 : Cond.selects (sm_name 133).cls (sm_name 133) (sm_name 133) ∈ sm_tbl := wd_820
theorem mo_134 : sm_mok 134 := ⟨wd_821, wd_813, by decide +kernel, by decide +kernel, by decide +kernel, by decide⟩
theorem mi_134 : sm_mI 134 := ⟨wd_822, Or.inl ⟨_, rfl, rfl⟩⟩
theorem se_134 : Cond.selects (sm_name 134).cls (sm_name 134) (sm_name 134) ∈ sm_tbl := wd_823
theorem mo_135 : sm_mok 135 := ⟨wd_824, wd_813, by decide +kernel, by decide +kernel, by decide +kernel, by decide⟩
theorem ms_135 : Cond.static (sm_name 135) ∈ sm_tbl := wd_825
theorem mo_136 : sm_mok 136 := ⟨wd_826, wd_813, by decide +kernel, by decide +kernel, by decide +kernel, by decide⟩
theorem ms_136 : Cond.static (sm_name 136) ∈ sm_tbl := wd_827
theorem mo_137 : sm_mok 137 := ⟨wd_828, wd_813, by decide +kernel, by decide +kernel, by decide +kernel, by decide⟩
theorem ms_137 : Cond.static (sm_name 137) ∈ sm_tbl := wd_829
theorem mo_138 : sm_mok 138 := ⟨wd_830, wd_813, by decide +kernel, by decide +kernel, by decide +kernel, by decide⟩
theorem mi_138 : sm_mI 138 := ⟨wd_831, Or.inl ⟨_, rfl, rfl⟩⟩
theorem se_138 : Cond.selects (sm_name 138).cls (sm_name 138) (sm_name 138) ∈ sm_tbl := List.mem_filter.mpr ⟨List.mem_append_left _ (List.mem_map.mpr ⟨(⟨"QueryTablesModel", "split", "()V"⟩, 59), (List.mem_append_right _ (List.mem_append_right _ (List.mem_append_right _ (List.mem_append_left _ (List.mem_of_getElem? (i := 0) rfl))))), rfl⟩), rfl⟩
theorem mo_139 : sm_mok 139 := ⟨wd_832, wd_813, by decide +kernel, by decide +kernel, by decide +kernel, by decide⟩
theorem ms_139 : Cond.static (sm_name 139) ∈ sm_tbl := wd_833
theorem mo_140 : sm_mok 140 := ⟨wd_834, wd_813, by decide +kernel, by decide +kernel, by decide +kernel, by decide⟩
theorem mi_140 : sm_mI 140 := ⟨wd_835, Or.inl ⟨_, rfl, rfl⟩⟩
theorem se_140 : Cond.selects (sm_name 140).cls (sm_name 140) (sm_name 140) ∈ sm_tbl := List.mem_filter.mpr ⟨List.mem_append_left _ (List.mem_map.mpr ⟨(⟨"QueryTablesModel", "isSign", "(I)Z"⟩, 59), (List.mem_append_right _ (List.mem_append_right _ (List.mem_append_right _ (List.mem_append_left _ (List.mem_of_getElem? (i := 8) rfl))))), rfl⟩), rfl⟩
theorem mo_141 : sm_mok 141 := ⟨wd_836, wd_813, by decide +kernel, by decide +kernel, by decide +kernel, by decide⟩
theorem mi_141 : sm_mI 141 := ⟨wd_837, Or.inl ⟨_, rfl, rfl⟩⟩
theorem se_141 : Cond.selects (sm_name 141).cls (sm_name 141) (sm_name 141) ∈ sm_tbl := List.mem_filter.mpr ⟨List.mem_append_left _ (List.mem_map.mpr ⟨(⟨"QueryTablesModel", "takeSign", "(I)Z"⟩, 59), (List.mem_append_right _ (List.mem_append_right _ (List.mem_append_right _ (List.mem_append_left _ (List.mem_of_getElem? (i := 11) rfl))))), rfl⟩), rfl⟩
theorem mo_142 : sm_mok 142 := ⟨wd_838, wd_813, by decide +kernel, by decide +kernel, by decide +kernel, by decide⟩
theorem mi_142 : sm_mI 142 := ⟨wd_839, Or.inl ⟨_, rfl, rfl⟩⟩
theorem se_142 : Cond.selects (sm_name 142).cls (sm_name 142) (sm_name 142) ∈ sm_tbl := List.mem_filter.mpr ⟨List.mem_append_left _ (List.mem_map.mpr ⟨(⟨"QueryTablesModel", "takeWord", "(I)Z"⟩, 59), (List.mem_append_right _ (List.mem_append_right _ (List.mem_append_right _ (List.mem_append_left _ (List.mem_of_getElem? (i := 12) rfl))))), rfl⟩), rfl⟩
theorem mo_143 : sm_mok 143 := ⟨wd_840, wd_813, by decide +kernel, by decide +kernel, by decide +kernel, by decide⟩
theorem mi_143 : sm_mI 143 := ⟨wd_841, Or.inl ⟨_, rfl, rfl⟩⟩
theorem se_143 : Cond.selects (sm_name 143).cls (sm_name 143) (sm_name 143) ∈ sm_tbl := List.mem_filter.mpr ⟨List.mem_append_left _ (List.mem_map.mpr ⟨(⟨"QueryTablesModel", "take", "(I)I"⟩, 59), (List.mem_append_right _ (List.mem_append_right _ (List.mem_append_right _ (List.mem_append_left _ (List.mem_of_getElem? (i := 3) rfl))))), rfl⟩), rfl⟩
theorem mo_144 : sm_mok 144 := ⟨wd_842, wd_813, by decide +kernel, by decide +kernel, by decide +kernel, by decide⟩
theorem mi_144 : sm_mI 144 := ⟨wd_843, Or.inl ⟨_, rfl, rfl⟩⟩
theorem se_144 : Cond.selects (sm_name 144).cls (sm_name 144) (sm_name 144) ∈ sm_tbl := List.mem_filter.mpr ⟨List.mem_append_left _ (List.mem_map.mpr ⟨(⟨"QueryTablesModel", "takeColumn", "()I"⟩, 59), (List.mem_append_right _ (List.mem_append_right _ (List.mem_append_right _ (List.mem_append_left _ (List.mem_of_getElem? (i := 4) rfl))))), rfl⟩), rfl⟩
theorem mo_145 : sm_mok 145 := ⟨wd_844, wd_813, by decide +kernel, by decide +kernel, by decide +kernel, by decide⟩
theorem mi_145 : sm_mI 145 := ⟨wd_845, Or.inl ⟨_, rfl, rfl⟩⟩
theorem se_145 : Cond.selects (sm_name 145).cls (sm_name 145) (sm_name 145) ∈ sm_tbl := List.mem_filter.mpr ⟨List.mem_append_left _ (List.mem_map.mpr ⟨(⟨"QueryTablesModel", "emit", "(II)V"⟩, 59), (List.mem_append_right _ (List.mem_append_right _ (List.mem_append_right _ (List.mem_append_left _ (List.mem_of_getElem? (i := 10) rfl))))), rfl⟩), rfl⟩
theorem mo_146 : sm_mok 146 := ⟨wd_846, wd_813, by decide +kernel, by decide +kernel, by decide +kernel, by decide⟩
theorem mi_146 : sm_mI 146 := ⟨wd_847, Or.inl ⟨_, rfl, rfl⟩⟩
theorem se_146 : Cond.selects (sm_name 146).cls (sm_name 146) (sm_name 146) ∈ sm_tbl := List.mem_filter.mpr ⟨List.mem_append_left _ (List.mem_map.mpr ⟨(⟨"QueryTablesModel", "nest", "(I)V"⟩, 59), (List.mem_append_right _ (List.mem_append_right _ (List.mem_append_right _ (List.mem_append_left _ (List.mem_of_getElem? (i := 9) rfl))))), rfl⟩), rfl⟩
theorem mo_147 : sm_mok 147 := ⟨wd_848, wd_813, by decide +kernel, by decide +kernel, by decide +kernel, by decide⟩
theorem mi_147 : sm_mI 147 := ⟨wd_849, Or.inl ⟨_, rfl, rfl⟩⟩
theorem se_147 : Cond.selects (sm_name 147).cls (sm_name 147) (sm_name 147) ∈ sm_tbl := List.mem_filter.mpr ⟨List.mem_append_left _ (List.mem_map.mpr ⟨(⟨"QueryTablesModel", "top", "()I"⟩, 59), (List.mem_append_right _ (List.mem_append_right _ (List.mem_append_right _ (List.mem_append_left _ (List.mem_of_getElem? (i := 14) rfl))))), rfl⟩), rfl⟩
theorem mo_148 : sm_mok 148 := ⟨wd_850, wd_813, by decide +kernel, by decide +kernel, by decide +kernel, by decide⟩
theorem mi_148 : sm_mI 148 := ⟨wd_851, Or.inl ⟨_, rfl, rfl⟩⟩
theorem se_148 : Cond.selects (sm_name 148).cls (sm_name 148) (sm_name 148) ∈ sm_tbl := List.mem_filter.mpr ⟨List.mem_append_left _ (List.mem_map.mpr ⟨(⟨"QueryTablesModel", "signs", "()V"⟩, 59), (List.mem_append_right _ (List.mem_append_right _ (List.mem_append_right _ (List.mem_append_left _ (List.mem_of_getElem? (i := 13) rfl))))), rfl⟩), rfl⟩
theorem mo_149 : sm_mok 149 := ⟨wd_852, wd_813, by decide +kernel, by decide +kernel, by decide +kernel, by decide⟩
theorem mi_149 : sm_mI 149 := ⟨wd_853, Or.inl ⟨_, rfl, rfl⟩⟩
theorem se_149 : Cond.selects (sm_name 149).cls (sm_name 149) (sm_name 149) ∈ sm_tbl := List.mem_filter.mpr ⟨List.mem_append_left _ (List.mem_map.mpr ⟨(⟨"QueryTablesModel", "operand", "()V"⟩, 59), (List.mem_append_right _ (List.mem_append_right _ (List.mem_append_right _ (List.mem_append_left _ (List.mem_of_getElem? (i := 7) rfl))))), rfl⟩), rfl⟩
theorem mo_150 : sm_mok 150 := ⟨wd_854, wd_813, by decide +kernel, by decide +kernel, by decide +kernel, by decide⟩
theorem mi_150 : sm_mI 150 := ⟨wd_855, Or.inl ⟨_, rfl, rfl⟩⟩
theorem se_150 : Cond.selects (sm_name 150).cls (sm_name 150) (sm_name 150) ∈ sm_tbl := List.mem_filter.mpr ⟨List.mem_append_left _ (List.mem_map.mpr ⟨(⟨"QueryTablesModel", "operator", "()Z"⟩, 59), (List.mem_append_right _ (List.mem_append_right _ (List.mem_append_right _ (List.mem_append_left _ (List.mem_of_getElem? (i := 15) rfl))))), rfl⟩), rfl⟩
theorem mo_151 : sm_mok 151 := ⟨wd_856, wd_813, by decide +kernel, by decide +kernel, by decide +kernel, by decide⟩
theorem mi_151 : sm_mI 151 := ⟨wd_857, Or.inl ⟨_, rfl, rfl⟩⟩
theorem se_151 : Cond.selects (sm_name 151).cls (sm_name 151) (sm_name 151) ∈ sm_tbl := List.mem_filter.mpr ⟨List.mem_append_left _ (List.mem_map.mpr ⟨(⟨"QueryTablesModel", "expression", "()V"⟩, 59), (List.mem_append_right _ (List.mem_append_right _ (List.mem_append_right _ (List.mem_append_left _ (List.mem_of_getElem? (i := 6) rfl))))), rfl⟩), rfl⟩
theorem mo_152 : sm_mok 152 := ⟨wd_858, wd_813, by decide +kernel, by decide +kernel, by decide +kernel, by decide⟩
theorem mi_152 : sm_mI 152 := ⟨wd_859, Or.inl ⟨_, rfl, rfl⟩⟩
theorem se_152 : Cond.selects (sm_name 152).cls (sm_name 152) (sm_name 152) ∈ sm_tbl := List.mem_filter.mpr ⟨List.mem_append_left _ (List.mem_map.mpr ⟨(⟨"QueryTablesModel", "unhold", "()V"⟩, 59), (List.mem_append_right _ (List.mem_append_right _ (List.mem_append_right _ (List.mem_append_right _ (List.mem_append_left _ (List.mem_of_getElem? (i := 5) rfl)))))), rfl⟩), rfl⟩
theorem mo_153 : sm_mok 153 := ⟨wd_860, wd_813, by decide +kernel, by decide +kernel, by decide +kernel, by decide⟩
theorem mi_153 : sm_mI 153 := ⟨wd_861, Or.inl ⟨_, rfl, rfl⟩⟩
theorem se_153 : Cond.selects (sm_name 153).cls (sm_name 153) (sm_name 153) ∈ sm_tbl := List.mem_filter.mpr ⟨List.mem_append_left _ (List.mem_map.mpr ⟨(⟨"QueryTablesModel", "keep", "(I)V"⟩, 59), (List.mem_append_right _ (List.mem_append_right _ (List.mem_append_right _ (List.mem_append_right _ (List.mem_append_left _ (List.mem_of_getElem? (i := 3) rfl)))))), rfl⟩), rfl⟩
theorem mo_154 : sm_mok 154 := ⟨wd_862, wd_813, by decide +kernel, by decide +kernel, by decide +kernel, by decide⟩
theorem mi_154 : sm_mI 154 := ⟨wd_863, Or.inl ⟨_, rfl, rfl⟩⟩
theorem se_154 : Cond.selects (sm_name 154).cls (sm_name 154) (sm_name 154) ∈ sm_tbl := List.mem_filter.mpr ⟨List.mem_append_left _ (List.mem_map.mpr ⟨(⟨"QueryTablesModel", "complete", "()V"⟩, 59), (List.mem_append_right _ (List.mem_append_right _ (List.mem_append_right _ (List.mem_append_right _ (List.mem_append_left _ (List.mem_of_getElem? (i := 4) rfl)))))), rfl⟩), rfl⟩
theorem mo_155 : sm_mok 155 := ⟨wd_864, wd_813, by decide +kernel, by decide +kernel, by decide +kernel, by decide⟩
theorem mi_155 : sm_mI 155 := ⟨wd_865, Or.inl ⟨_, rfl, rfl⟩⟩
theorem se_155 : Cond.selects (sm_name 155).cls (sm_name 155) (sm_name 155) ∈ sm_tbl := List.mem_filter.mpr ⟨List.mem_append_left _ (List.mem_map.mpr ⟨(⟨"QueryTablesModel", "test", "()V"⟩, 59), (List.mem_append_right _ (List.mem_append_right _ (List.mem_append_right _ (List.mem_append_right _ (List.mem_append_left _ (List.mem_of_getElem? (i := 2) rfl)))))), rfl⟩), rfl⟩
theorem mo_156 : sm_mok 156 := ⟨wd_866, wd_813, by decide +kernel, by decide +kernel, by decide +kernel, by decide⟩
theorem mi_156 : sm_mI 156 := ⟨wd_867, Or.inl ⟨_, rfl, rfl⟩⟩
theorem se_156 : Cond.selects (sm_name 156).cls (sm_name 156) (sm_name 156) ∈ sm_tbl := List.mem_filter.mpr ⟨List.mem_append_left _ (List.mem_map.mpr ⟨(⟨"QueryTablesModel", "connect", "()Z"⟩, 59), (List.mem_append_right _ (List.mem_append_right _ (List.mem_append_right _ (List.mem_append_right _ (List.mem_append_left _ (List.mem_of_getElem? (i := 6) rfl)))))), rfl⟩), rfl⟩
theorem mo_157 : sm_mok 157 := ⟨wd_868, wd_813, by decide +kernel, by decide +kernel, by decide +kernel, by decide⟩
theorem mi_157 : sm_mI 157 := ⟨wd_869, Or.inl ⟨_, rfl, rfl⟩⟩
theorem se_157 : Cond.selects (sm_name 157).cls (sm_name 157) (sm_name 157) ∈ sm_tbl := List.mem_filter.mpr ⟨List.mem_append_left _ (List.mem_map.mpr ⟨(⟨"QueryTablesModel", "condition", "()V"⟩, 59), (List.mem_append_right _ (List.mem_append_right _ (List.mem_append_right _ (List.mem_append_right _ (List.mem_append_left _ (List.mem_of_getElem? (i := 1) rfl)))))), rfl⟩), rfl⟩
theorem mo_158 : sm_mok 158 := ⟨wd_870, wd_813, by decide +kernel, by decide +kernel, by decide +kernel, by decide⟩
theorem mi_158 : sm_mI 158 := ⟨wd_871, Or.inl ⟨_, rfl, rfl⟩⟩
theorem se_158 : Cond.selects (sm_name 158).cls (sm_name 158) (sm_name 158) ∈ sm_tbl := List.mem_filter.mpr ⟨List.mem_append_left _ (List.mem_map.mpr ⟨(⟨"QueryTablesModel", "term", "()V"⟩, 59), (List.mem_append_right _ (List.mem_append_right _ (List.mem_append_right _ (List.mem_append_left _ (List.mem_of_getElem? (i := 5) rfl))))), rfl⟩), rfl⟩
theorem mo_159 : sm_mok 159 := ⟨wd_872, wd_813, by decide +kernel, by decide +kernel, by decide +kernel, by decide⟩
theorem mi_159 : sm_mI 159 := ⟨wd_873, Or.inl ⟨_, rfl, rfl⟩⟩
theorem se_159 : Cond.selects (sm_name 159).cls (sm_name 159) (sm_name 159) ∈ sm_tbl := List.mem_filter.mpr ⟨List.mem_append_left _ (List.mem_map.mpr ⟨(⟨"QueryTablesModel", "name", "()V"⟩, 59), (List.mem_append_right _ (List.mem_append_right _ (List.mem_append_right _ (List.mem_append_left _ (List.mem_of_getElem? (i := 2) rfl))))), rfl⟩), rfl⟩
theorem mo_160 : sm_mok 160 := ⟨wd_874, wd_813, by decide +kernel, by decide +kernel, by decide +kernel, by decide⟩
theorem mi_160 : sm_mI 160 := ⟨wd_875, Or.inl ⟨_, rfl, rfl⟩⟩
theorem se_160 : Cond.selects (sm_name 160).cls (sm_name 160) (sm_name 160) ∈ sm_tbl := List.mem_filter.mpr ⟨List.mem_append_left _ (List.mem_map.mpr ⟨(⟨"QueryTablesModel", "begin", "()V"⟩, 59), (List.mem_append_right _ (List.mem_append_right _ (List.mem_append_left _ (List.mem_of_getElem? (i := 15) rfl)))), rfl⟩), rfl⟩
theorem mo_161 : sm_mok 161 := ⟨wd_876, wd_813, by decide +kernel, by decide +kernel, by decide +kernel, by decide⟩
theorem mi_161 : sm_mI 161 := ⟨wd_877, Or.inl ⟨_, rfl, rfl⟩⟩
theorem se_161 : Cond.selects (sm_name 161).cls (sm_name 161) (sm_name 161) ∈ sm_tbl := List.mem_filter.mpr ⟨List.mem_append_left _ (List.mem_map.mpr ⟨(⟨"QueryTablesModel", "perhapsWhere", "()V"⟩, 59), (List.mem_append_right _ (List.mem_append_right _ (List.mem_append_right _ (List.mem_append_right _ (List.mem_append_left _ (List.mem_of_getElem? (i := 0) rfl)))))), rfl⟩), rfl⟩
theorem mo_162 : sm_mok 162 := ⟨wd_878, wd_813, by decide +kernel, by decide +kernel, by decide +kernel, by decide⟩
theorem mi_162 : sm_mI 162 := ⟨wd_879, Or.inl ⟨_, rfl, rfl⟩⟩
theorem se_162 : Cond.selects (sm_name 162).cls (sm_name 162) (sm_name 162) ∈ sm_tbl := List.mem_filter.mpr ⟨List.mem_append_left _ (List.mem_map.mpr ⟨(⟨"QueryTablesModel", "statement", "()V"⟩, 59), (List.mem_append_right _ (List.mem_append_right _ (List.mem_append_right _ (List.mem_append_left _ (List.mem_of_getElem? (i := 1) rfl))))), rfl⟩), rfl⟩
theorem mo_163 : sm_mok 163 := ⟨wd_880, wd_813, by decide +kernel, by decide +kernel, by decide +kernel, by decide⟩
theorem mi_163 : sm_mI 163 := ⟨wd_881, Or.inl ⟨_, rfl, rfl⟩⟩
theorem se_163 : Cond.selects (sm_name 163).cls (sm_name 163) (sm_name 163) ∈ sm_tbl := List.mem_filter.mpr ⟨List.mem_append_left _ (List.mem_map.mpr ⟨(⟨"QueryTablesModel", "selection", "()V"⟩, 59), (List.mem_append_right _ (List.mem_append_right _ (List.mem_append_right _ (List.mem_append_right _ (List.mem_append_left _ (List.mem_of_getElem? (i := 7) rfl)))))), rfl⟩), rfl⟩
theorem mo_164 : sm_mok 164 := ⟨wd_882, wd_813, by decide +kernel, by decide +kernel, by decide +kernel, by decide⟩
theorem mi_164 : sm_mI 164 := ⟨wd_883, Or.inl ⟨_, rfl, rfl⟩⟩
theorem se_164 : Cond.selects (sm_name 164).cls (sm_name 164) (sm_name 164) ∈ sm_tbl := List.mem_filter.mpr ⟨List.mem_append_left _ (List.mem_map.mpr ⟨(⟨"QueryTablesModel", "known", "()Z"⟩, 59), (List.mem_append_right _ (List.mem_append_right _ (List.mem_append_right _ (List.mem_append_right _ (List.mem_append_left _ (List.mem_of_getElem? (i := 8) rfl)))))), rfl⟩), rfl⟩
theorem mo_165 : sm_mok 165 := ⟨wd_884, wd_813, by decide +kernel, by decide +kernel, by decide +kernel, by decide⟩
theorem mi_165 : sm_mI 165 := ⟨wd_885, Or.inl ⟨_, rfl, rfl⟩⟩
theorem se_165 : Cond.selects (sm_name 165).cls (sm_name 165) (sm_name 165) ∈ sm_tbl := List.mem_filter.mpr ⟨List.mem_append_left _ (List.mem_map.mpr ⟨(⟨"QueryTablesModel", "place", "(I)Z"⟩, 59), (List.mem_append_right _ (List.mem_append_right _ (List.mem_append_right _ (List.mem_append_right _ (List.mem_append_left _ (List.mem_of_getElem? (i := 9) rfl)))))), rfl⟩), rfl⟩
theorem mo_166 : sm_mok 166 := ⟨wd_886, wd_813, by decide +kernel, by decide +kernel, by decide +kernel, by decide⟩
theorem mi_166 : sm_mI 166 := ⟨wd_887, Or.inl ⟨_, rfl, rfl⟩⟩
theorem se_166 : Cond.selects (sm_name 166).cls (sm_name 166) (sm_name 166) ∈ sm_tbl := wd_888
theorem mo_167 : sm_mok 167 := ⟨wd_889, wd_813, by decide +kernel, by decide +kernel, by decide +kernel, by decide⟩
theorem mi_167 : sm_mI 167 := ⟨wd_890, Or.inl ⟨_, rfl, rfl⟩⟩
theorem se_167 : Cond.selects (sm_name 167).cls (sm_name 167) (sm_name 167) ∈ sm_tbl := List.mem_filter.mpr ⟨List.mem_append_left _ (List.mem_map.mpr ⟨(⟨"QueryTablesModel", "worked", "(II)J"⟩, 59), (List.mem_append_right _ (List.mem_append_right _ (List.mem_append_right _ (List.mem_append_right _ (List.mem_append_left _ (List.mem_of_getElem? (i := 11) rfl)))))), rfl⟩), rfl⟩
theorem mo_168 : sm_mok 168 := ⟨wd_891, wd_813, by decide +kernel, by decide +kernel, by decide +kernel, by decide⟩
theorem ms_168 : Cond.static (sm_name 168) ∈ sm_tbl := wd_892
theorem mo_169 : sm_mok 169 := ⟨wd_893, wd_813, by decide +kernel, by decide +kernel, by decide +kernel, by decide⟩
theorem mi_169 : sm_mI 169 := ⟨wd_894, Or.inl ⟨_, rfl, rfl⟩⟩
theorem se_169 : Cond.selects (sm_name 169).cls (sm_name 169) (sm_name 169) ∈ sm_tbl := List.mem_filter.mpr ⟨List.mem_append_left _ (List.mem_map.mpr ⟨(⟨"QueryTablesModel", "holdsTrue", "()Z"⟩, 59), (List.mem_append_right _ (List.mem_append_right _ (List.mem_append_right _ (List.mem_append_right _ (List.mem_append_left _ (List.mem_of_getElem? (i := 13) rfl)))))), rfl⟩), rfl⟩
theorem mo_170 : sm_mok 170 := ⟨wd_895, wd_813, by decide +kernel, by decide +kernel, by decide +kernel, by decide⟩
theorem mi_170 : sm_mI 170 := ⟨wd_896, Or.inl ⟨_, rfl, rfl⟩⟩
theorem se_170 : Cond.selects (sm_name 170).cls (sm_name 170) (sm_name 170) ∈ sm_tbl := List.mem_filter.mpr ⟨List.mem_append_left _ (List.mem_map.mpr ⟨(⟨"QueryTablesModel", "tablesIn", "(II)I"⟩, 59), (List.mem_append_right _ (List.mem_append_right _ (List.mem_append_right _ (List.mem_append_right _ (List.mem_append_right _ (List.mem_of_getElem? (i := 5) rfl)))))), rfl⟩), rfl⟩
theorem mo_171 : sm_mok 171 := ⟨wd_897, wd_813, by decide +kernel, by decide +kernel, by decide +kernel, by decide⟩
theorem mi_171 : sm_mI 171 := ⟨wd_898, Or.inl ⟨_, rfl, rfl⟩⟩
theorem se_171 : Cond.selects (sm_name 171).cls (sm_name 171) (sm_name 171) ∈ sm_tbl := List.mem_filter.mpr ⟨List.mem_append_left _ (List.mem_map.mpr ⟨(⟨"QueryTablesModel", "only", "(IIIZ)Z"⟩, 59), (List.mem_append_right _ (List.mem_append_right _ (List.mem_append_right _ (List.mem_append_right _ (List.mem_append_right _ (List.mem_of_getElem? (i := 4) rfl)))))), rfl⟩), rfl⟩
theorem mo_172 : sm_mok 172 := ⟨wd_899, wd_813, by decide +kernel, by decide +kernel, by decide +kernel, by decide⟩
theorem mi_172 : sm_mI 172 := ⟨wd_900, Or.inl ⟨_, rfl, rfl⟩⟩
theorem se_172 : Cond.selects (sm_name 172).cls (sm_name 172) (sm_name 172) ∈ sm_tbl := List.mem_filter.mpr ⟨List.mem_append_left _ (List.mem_map.mpr ⟨(⟨"QueryTablesModel", "fixing", "(IIZ)I"⟩, 59), (List.mem_append_right _ (List.mem_append_right _ (List.mem_append_right _ (List.mem_append_right _ (List.mem_append_right _ (List.mem_of_getElem? (i := 2) rfl)))))), rfl⟩), rfl⟩
theorem mo_173 : sm_mok 173 := ⟨wd_901, wd_813, by decide +kernel, by decide +kernel, by decide +kernel, by decide⟩
theorem mi_173 : sm_mI 173 := ⟨wd_902, Or.inl ⟨_, rfl, rfl⟩⟩
theorem se_173 : Cond.selects (sm_name 173).cls (sm_name 173) (sm_name 173) ∈ sm_tbl := List.mem_filter.mpr ⟨List.mem_append_left _ (List.mem_map.mpr ⟨(⟨"QueryTablesModel", "side", "(IIIZ)I"⟩, 59), (List.mem_append_right _ (List.mem_append_right _ (List.mem_append_right _ (List.mem_append_right _ (List.mem_append_right _ (List.mem_of_getElem? (i := 3) rfl)))))), rfl⟩), rfl⟩
theorem mo_174 : sm_mok 174 := ⟨wd_903, wd_813, by decide +kernel, by decide +kernel, by decide +kernel, by decide⟩
theorem mi_174 : sm_mI 174 := ⟨wd_904, Or.inl ⟨_, rfl, rfl⟩⟩
theorem se_174 : Cond.selects (sm_name 174).cls (sm_name 174) (sm_name 174) ∈ sm_tbl := List.mem_filter.mpr ⟨List.mem_append_left _ (List.mem_map.mpr ⟨(⟨"QueryTablesModel", "access", "(II)I"⟩, 59), (List.mem_append_right _ (List.mem_append_right _ (List.mem_append_right _ (List.mem_append_right _ (List.mem_append_right _ (List.mem_of_getElem? (i := 1) rfl)))))), rfl⟩), rfl⟩
theorem mo_175 : sm_mok 175 := ⟨wd_905, wd_813, by decide +kernel, by decide +kernel, by decide +kernel, by decide⟩
theorem mi_175 : sm_mI 175 := ⟨wd_906, Or.inl ⟨_, rfl, rfl⟩⟩
theorem se_175 : Cond.selects (sm_name 175).cls (sm_name 175) (sm_name 175) ∈ sm_tbl := List.mem_filter.mpr ⟨List.mem_append_left _ (List.mem_map.mpr ⟨(⟨"QueryTablesModel", "cost", "(II)I"⟩, 59), (List.mem_append_right _ (List.mem_append_right _ (List.mem_append_right _ (List.mem_append_right _ (List.mem_append_right _ (List.mem_of_getElem? (i := 8) rfl)))))), rfl⟩), rfl⟩
theorem mo_176 : sm_mok 176 := ⟨wd_907, wd_813, by decide +kernel, by decide +kernel, by decide +kernel, by decide⟩
theorem mi_176 : sm_mI 176 := ⟨wd_908, Or.inl ⟨_, rfl, rfl⟩⟩
theorem se_176 : Cond.selects (sm_name 176).cls (sm_name 176) (sm_name 176) ∈ sm_tbl := List.mem_filter.mpr ⟨List.mem_append_left _ (List.mem_map.mpr ⟨(⟨"QueryTablesModel", "fetched", "(IIIII)Z"⟩, 59), (List.mem_append_right _ (List.mem_append_right _ (List.mem_append_right _ (List.mem_append_right _ (List.mem_append_right _ (List.mem_of_getElem? (i := 6) rfl)))))), rfl⟩), rfl⟩
theorem mo_177 : sm_mok 177 := ⟨wd_909, wd_813, by decide +kernel, by decide +kernel, by decide +kernel, by decide⟩
theorem mi_177 : sm_mI 177 := ⟨wd_910, Or.inl ⟨_, rfl, rfl⟩⟩
theorem se_177 : Cond.selects (sm_name 177).cls (sm_name 177) (sm_name 177) ∈ sm_tbl := List.mem_filter.mpr ⟨List.mem_append_left _ (List.mem_map.mpr ⟨(⟨"QueryTablesModel", "fetchOne", "(I)V"⟩, 59), (List.mem_append_right _ (List.mem_append_right _ (List.mem_append_right _ (List.mem_append_right _ (List.mem_append_right _ (List.mem_of_getElem? (i := 0) rfl)))))), rfl⟩), rfl⟩
theorem mo_178 : sm_mok 178 := ⟨wd_911, wd_813, by decide +kernel, by decide +kernel, by decide +kernel, by decide⟩
theorem mi_178 : sm_mI 178 := ⟨wd_912, Or.inl ⟨_, rfl, rfl⟩⟩
theorem se_178 : Cond.selects (sm_name 178).cls (sm_name 178) (sm_name 178) ∈ sm_tbl := List.mem_filter.mpr ⟨List.mem_append_left _ (List.mem_map.mpr ⟨(⟨"QueryTablesModel", "fetchTwo", "()V"⟩, 59), (List.mem_append_right _ (List.mem_append_right _ (List.mem_append_right _ (List.mem_append_right _ (List.mem_append_right _ (List.mem_of_getElem? (i := 7) rfl)))))), rfl⟩), rfl⟩
theorem mo_179 : sm_mok 179 := ⟨wd_913, wd_813, by decide +kernel, by decide +kernel, by decide +kernel, by decide⟩
theorem mi_179 : sm_mI 179 := ⟨wd_914, Or.inl ⟨_, rfl, rfl⟩⟩
theorem se_179 : Cond.selects (sm_name 179).cls (sm_name 179) (sm_name 179) ∈ sm_tbl := List.mem_filter.mpr ⟨List.mem_append_left _ (List.mem_map.mpr ⟨(⟨"QueryTablesModel", "fetchBoth", "(II)V"⟩, 59), (List.mem_append_right _ (List.mem_append_right _ (List.mem_append_right _ (List.mem_append_right _ (List.mem_append_right _ (List.mem_of_getElem? (i := 9) rfl)))))), rfl⟩), rfl⟩
theorem mo_180 : sm_mok 180 := ⟨wd_915, wd_813, by decide +kernel, by decide +kernel, by decide +kernel, by decide⟩
theorem mi_180 : sm_mI 180 := ⟨wd_916, Or.inl ⟨_, rfl, rfl⟩⟩
theorem se_180 : Cond.selects (sm_name 180).cls (sm_name 180) (sm_name 180) ∈ sm_tbl := List.mem_filter.mpr ⟨List.mem_append_left _ (List.mem_map.mpr ⟨(⟨"QueryTablesModel", "insert", "(I)I"⟩, 59), (List.mem_append_right _ (List.mem_append_right _ (List.mem_append_right _ (List.mem_append_right _ (List.mem_append_left _ (List.mem_of_getElem? (i := 10) rfl)))))), rfl⟩), rfl⟩
theorem mo_181 : sm_mok 181 := ⟨wd_917, wd_813, by decide +kernel, by decide +kernel, by decide +kernel, by decide⟩
theorem mi_181 : sm_mI 181 := ⟨wd_918, Or.inl ⟨_, rfl, rfl⟩⟩
theorem se_181 : Cond.selects (sm_name 181).cls (sm_name 181) (sm_name 181) ∈ sm_tbl := List.mem_filter.mpr ⟨List.mem_append_left _ (List.mem_map.mpr ⟨(⟨"QueryTablesModel", "mark", "(I)V"⟩, 59), (List.mem_append_right _ (List.mem_append_right _ (List.mem_append_right _ (List.mem_append_right _ (List.mem_append_right _ (List.mem_of_getElem? (i := 10) rfl)))))), rfl⟩), rfl⟩
theorem mo_182 : sm_mok 182 := ⟨wd_919, wd_813, by decide +kernel, by decide +kernel, by decide +kernel, by decide⟩
theorem mi_182 : sm_mI 182 := ⟨wd_920, Or.inl ⟨_, rfl, rfl⟩⟩
theorem se_182 : Cond.selects (sm_name 182).cls (sm_name 182) (sm_name 182) ∈ sm_tbl := List.mem_filter.mpr ⟨List.mem_append_left _ (List.mem_map.mpr ⟨(⟨"QueryTablesModel", "update", "(I)I"⟩, 59), (List.mem_append_right _ (List.mem_append_right _ (List.mem_append_right _ (List.mem_append_right _ (List.mem_append_right _ (List.mem_of_getElem? (i := 11) rfl)))))), rfl⟩), rfl⟩
theorem mo_183 : sm_mok 183 := ⟨wd_921, wd_813, by decide +kernel, by decide +kernel, by decide +kernel, by decide⟩
theorem mi_183 : sm_mI 183 := ⟨wd_922, Or.inl ⟨_, rfl, rfl⟩⟩
theorem se_183 : Cond.selects (sm_name 183).cls (sm_name 183) (sm_name 183) ∈ sm_tbl := List.mem_filter.mpr ⟨List.mem_append_left _ (List.mem_map.mpr ⟨(⟨"QueryTablesModel", "remove", "(I)V"⟩, 59), (List.mem_append_right _ (List.mem_append_right _ (List.mem_append_right _ (List.mem_append_right _ (List.mem_append_right _ (List.mem_of_getElem? (i := 12) rfl)))))), rfl⟩), rfl⟩
theorem mo_184 : sm_mok 184 := ⟨wd_923, wd_813, by decide +kernel, by decide +kernel, by decide +kernel, by decide⟩
theorem mi_184 : sm_mI 184 := ⟨wd_924, Or.inl ⟨_, rfl, rfl⟩⟩
theorem se_184 : Cond.selects (sm_name 184).cls (sm_name 184) (sm_name 184) ∈ sm_tbl := List.mem_filter.mpr ⟨List.mem_append_left _ (List.mem_map.mpr ⟨(⟨"QueryTablesModel", "choose", "()I"⟩, 59), (List.mem_append_right _ (List.mem_append_right _ (List.mem_append_right _ (List.mem_append_right _ (List.mem_append_left _ (List.mem_of_getElem? (i := 12) rfl)))))), rfl⟩), rfl⟩
theorem mo_185 : sm_mok 185 := ⟨wd_925, wd_813, by decide +kernel, by decide +kernel, by decide +kernel, by decide⟩
theorem mi_185 : sm_mI 185 := ⟨wd_926, Or.inl ⟨_, rfl, rfl⟩⟩
theorem se_185 : Cond.selects (sm_name 185).cls (sm_name 185) (sm_name 185) ∈ sm_tbl := List.mem_filter.mpr ⟨List.mem_append_left _ (List.mem_map.mpr ⟨(⟨"QueryTablesModel", "next", "(II)I"⟩, 59), (List.mem_append_right _ (List.mem_append_right _ (List.mem_append_right _ (List.mem_append_right _ (List.mem_append_left _ (List.mem_of_getElem? (i := 14) rfl)))))), rfl⟩), rfl⟩
theorem mo_186 : sm_mok 186 := ⟨wd_927, wd_813, by decide +kernel, by decide +kernel, by decide +kernel, by decide⟩
theorem mi_186 : sm_mI 186 := ⟨wd_928, Or.inl ⟨_, rfl, rfl⟩⟩
theorem se_186 : Cond.selects (sm_name 186).cls (sm_name 186) (sm_name 186) ∈ sm_tbl := List.mem_filter.mpr ⟨List.mem_append_left _ (List.mem_map.mpr ⟨(⟨"QueryTablesModel", "before", "(IIII)Z"⟩, 59), (List.mem_append_right _ (List.mem_append_right _ (List.mem_append_right _ (List.mem_append_right _ (List.mem_append_left _ (List.mem_of_getElem? (i := 15) rfl)))))), rfl⟩), rfl⟩
theorem mo_187 : sm_mok 187 := ⟨wd_929, wd_813, by decide +kernel, by decide +kernel, by decide +kernel, by decide⟩
theorem mi_187 : sm_mI 187 := ⟨wd_930, Or.inl ⟨_, rfl, rfl⟩⟩
theorem se_187 : Cond.selects (sm_name 187).cls (sm_name 187) (sm_name 187) ∈ sm_tbl := wd_931
theorem mo_188 : sm_mok 188 := ⟨wd_932, wd_813, by decide +kernel, by decide +kernel, by decide +kernel, by decide⟩
theorem mi_188 : sm_mI 188 := ⟨wd_933, Or.inl ⟨_, rfl, rfl⟩⟩
theorem se_188 : Cond.selects (sm_name 188).cls (sm_name 188) (sm_name 188) ∈ sm_tbl := wd_934
theorem mo_189 : sm_mok 189 := ⟨wd_935, wd_813, by decide +kernel, by decide +kernel, by decide +kernel, by decide⟩
theorem mi_189 : sm_mI 189 := ⟨wd_936, Or.inl ⟨_, rfl, rfl⟩⟩
theorem se_189 : Cond.selects (sm_name 189).cls (sm_name 189) (sm_name 189) ∈ sm_tbl := wd_937
theorem mo_190 : sm_mok 190 := ⟨wd_938, wd_813, by decide +kernel, by decide +kernel, by decide +kernel, by decide⟩
theorem mi_190 : sm_mI 190 := ⟨wd_939, Or.inl ⟨_, rfl, rfl⟩⟩
theorem se_190 : Cond.selects (sm_name 190).cls (sm_name 190) (sm_name 190) ∈ sm_tbl := wd_940
theorem mo_191 : sm_mok 191 := ⟨wd_941, wd_813, by decide +kernel, by decide +kernel, by decide +kernel, by decide⟩
theorem mi_191 : sm_mI 191 := ⟨wd_942, Or.inl ⟨_, rfl, rfl⟩⟩
theorem se_191 : Cond.selects (sm_name 191).cls (sm_name 191) (sm_name 191) ∈ sm_tbl := wd_943
theorem mo_192 : sm_mok 192 := ⟨wd_944, wd_813, by decide +kernel, by decide +kernel, by decide +kernel, by decide⟩
theorem ms_192 : Cond.static (sm_name 192) ∈ sm_tbl := wd_945
theorem mo_193 : sm_mok 193 := ⟨wd_946, wd_813, by decide +kernel, by decide +kernel, by decide +kernel, by decide⟩
theorem mi_193 : sm_mI 193 := ⟨wd_947, Or.inl ⟨_, rfl, rfl⟩⟩
theorem se_193 : Cond.selects (sm_name 193).cls (sm_name 193) (sm_name 193) ∈ sm_tbl := wd_948
theorem mo_194 : sm_mok 194 := ⟨wd_949, wd_813, by decide +kernel, by decide +kernel, by decide +kernel, by decide⟩
theorem mi_194 : sm_mI 194 := ⟨wd_950, Or.inl ⟨_, rfl, rfl⟩⟩
theorem se_194 : Cond.selects (sm_name 194).cls (sm_name 194) (sm_name 194) ∈ sm_tbl := wd_951
theorem mo_195 : sm_mok 195 := ⟨wd_952, wd_813, by decide +kernel, by decide +kernel, by decide +kernel, by decide⟩
theorem mi_195 : sm_mI 195 := ⟨wd_953, Or.inl ⟨_, rfl, rfl⟩⟩
theorem se_195 : Cond.selects (sm_name 195).cls (sm_name 195) (sm_name 195) ∈ sm_tbl := wd_954
theorem mo_196 : sm_mok 196 := ⟨wd_955, wd_813, by decide +kernel, by decide +kernel, by decide +kernel, by decide⟩
theorem mi_196 : sm_mI 196 := ⟨wd_956, Or.inl ⟨_, rfl, rfl⟩⟩
theorem se_196 : Cond.selects (sm_name 196).cls (sm_name 196) (sm_name 196) ∈ sm_tbl := wd_957
theorem mo_197 : sm_mok 197 := ⟨wd_958, wd_813, by decide +kernel, by decide +kernel, by decide +kernel, by decide⟩
theorem mi_197 : sm_mI 197 := ⟨wd_959, Or.inl ⟨_, rfl, rfl⟩⟩
theorem se_197 : Cond.selects (sm_name 197).cls (sm_name 197) (sm_name 197) ∈ sm_tbl := wd_960
theorem mo_198 : sm_mok 198 := ⟨wd_961, wd_962, by decide +kernel, by decide +kernel, by decide +kernel, by decide⟩
theorem mi_198 : sm_mI 198 := ⟨wd_963, Or.inr ⟨rfl, rfl⟩⟩
theorem se_198 : Cond.selects (sm_name 198).cls (sm_name 198) (sm_name 198) ∈ sm_tbl := wd_964
theorem mo_199 : sm_mok 199 := ⟨wd_965, wd_962, by decide +kernel, by decide +kernel, by decide +kernel, by decide⟩
theorem mi_199 : sm_mI 199 := ⟨wd_966, Or.inr ⟨rfl, rfl⟩⟩
theorem se_199 : Cond.selects (sm_name 199).cls (sm_name 199) (sm_name 199) ∈ sm_tbl := wd_967
theorem mo_200 : sm_mok 200 := ⟨wd_968, wd_962, by decide +kernel, by decide +kernel, by decide +kernel, by decide⟩
theorem mi_200 : sm_mI 200 := ⟨wd_969, Or.inr ⟨rfl, rfl⟩⟩
theorem se_200 : Cond.selects (sm_name 200).cls (sm_name 200) (sm_name 200) ∈ sm_tbl := wd_970
theorem mo_201 : sm_mok 201 := ⟨wd_971, wd_962, by decide +kernel, by decide +kernel, by decide +kernel, by decide⟩
theorem mi_201 : sm_mI 201 := ⟨wd_972, Or.inr ⟨rfl, rfl⟩⟩
theorem se_201 : Cond.selects (sm_name 201).cls (sm_name 201) (sm_name 201) ∈ sm_tbl := wd_973
theorem mo_202 : sm_mok 202 := ⟨wd_974, wd_962, by decide +kernel, by decide +kernel, by decide +kernel, by decide⟩
theorem mi_202 : sm_mI 202 := ⟨wd_975, Or.inr ⟨rfl, rfl⟩⟩
theorem se_202 : Cond.selects (sm_name 202).cls (sm_name 202) (sm_name 202) ∈ sm_tbl := wd_976
theorem mo_203 : sm_mok 203 := ⟨wd_977, wd_962, by decide +kernel, by decide +kernel, by decide +kernel, by decide⟩
theorem mi_203 : sm_mI 203 := ⟨wd_978, Or.inr ⟨rfl, rfl⟩⟩
theorem se_203 : Cond.selects (sm_name 203).cls (sm_name 203) (sm_name 203) ∈ sm_tbl := wd_979
theorem mo_204 : sm_mok 204 := ⟨wd_980, wd_962, by decide +kernel, by decide +kernel, by decide +kernel, by decide⟩
theorem ms_204 : Cond.static (sm_name 204) ∈ sm_tbl := wd_981
theorem mo_205 : sm_mok 205 := ⟨wd_982, wd_983, by decide +kernel, by decide +kernel, by decide +kernel, by decide⟩
theorem ms_205 : Cond.static (sm_name 205) ∈ sm_tbl := wd_984
theorem mo_206 : sm_mok 206 := ⟨wd_985, wd_983, by decide +kernel, by decide +kernel, by decide +kernel, by decide⟩
theorem ms_206 : Cond.static (sm_name 206) ∈ sm_tbl := wd_986
theorem mo_207 : sm_mok 207 := ⟨wd_987, wd_983, by decide +kernel, by decide +kernel, by decide +kernel, by decide⟩
theorem ms_207 : Cond.static (sm_name 207) ∈ sm_tbl := wd_988
theorem mo_208 : sm_mok 208 := ⟨wd_989, wd_983, by decide +kernel, by decide +kernel, by decide +kernel, by decide⟩
theorem ms_208 : Cond.static (sm_name 208) ∈ sm_tbl := wd_990
theorem mo_209 : sm_mok 209 := ⟨wd_991, wd_992, by decide +kernel, by decide +kernel, by decide +kernel, by decide⟩
theorem ms_209 : Cond.static (sm_name 209) ∈ sm_tbl := wd_993
theorem pm_0 : sm_lnk "QueryTablesLaw" 9 1 := Or.inl wd_1
theorem pm_1 : sm_lnk "QueryTablesLaw" 12 131 := Or.inl wd_3
theorem pm_2 : sm_lnk "QueryTablesLaw" 13 2 := Or.inl wd_4
theorem pm_3 : sm_lnk "QueryTablesLaw" 17 132 := Or.inl wd_5
theorem pm_4 : sm_lnk "QueryTablesLaw" 18 3 := Or.inl wd_6
theorem pm_5 : sm_lnk "QueryTablesLaw" 22 133 := Or.inl wd_7
theorem pm_6 : sm_lnk "QueryTablesLaw" 23 4 := Or.inl wd_8
theorem pm_7 : sm_lnk "QueryTablesLaw" 27 166 := Or.inl wd_9
theorem pm_8 : sm_lnk "QueryTablesLaw" 28 5 := Or.inl wd_10
theorem pm_9 : sm_lnk "QueryTablesLaw" 31 134 := Or.inl wd_11
theorem pm_10 : sm_lnk "QueryTablesLaw" 32 6 := Or.inl wd_12
theorem pm_11 : sm_lnk "QueryTablesLaw" 35 187 := Or.inl wd_13
theorem pm_12 : sm_lnk "QueryTablesLaw" 36 7 := Or.inl wd_14
theorem pm_13 : sm_lnk "QueryTablesLaw" 39 188 := Or.inl wd_15
theorem pm_14 : sm_lnk "QueryTablesLaw" 40 8 := Or.inl wd_16
theorem pm_15 : sm_lnk "QueryTablesLaw" 44 189 := Or.inl wd_17
theorem pm_16 : sm_lnk "QueryTablesLaw" 45 9 := Or.inl wd_18
theorem pm_17 : sm_lnk "QueryTablesLaw" 48 190 := Or.inl wd_19
theorem pm_18 : sm_lnk "QueryTablesLaw" 49 10 := Or.inl wd_20
theorem pm_19 : sm_lnk "QueryTablesLaw" 52 191 := Or.inl wd_21
theorem pm_20 : sm_lnk "QueryTablesLaw" 53 11 := Or.inl wd_22
theorem pm_21 : sm_lnk "QueryTablesLaw" 57 193 := Or.inl wd_23
theorem pm_22 : sm_lnk "QueryTablesLaw" 58 12 := Or.inl wd_24
theorem pm_23 : sm_lnk "QueryTablesLaw" 61 194 := Or.inl wd_25
theorem pm_24 : sm_lnk "QueryTablesLaw" 62 13 := Or.inl wd_26
theorem pm_25 : sm_lnk "QueryTablesLaw" 66 195 := Or.inl wd_27
theorem pm_26 : sm_lnk "QueryTablesLaw" 67 14 := Or.inl wd_28
theorem pm_27 : sm_lnk "QueryTablesLaw" 71 196 := Or.inl wd_29
theorem pm_28 : sm_lnk "QueryTablesLaw" 74 15 := Or.inl wd_31
theorem pm_29 : sm_lnk "QueryTablesLaw" 78 197 := Or.inl wd_32
theorem pm_30 : sm_lnk "QueryTables" 19 25 := Or.inr ⟨_, wd_41⟩
theorem pm_31 : sm_lnk "QueryTables" 22 58 := Or.inr ⟨_, wd_43⟩
theorem pm_32 : sm_lnk "QueryTables" 29 44 := Or.inr ⟨_, wd_46⟩
theorem pm_33 : sm_lnk "QueryTables" 36 39 := Or.inl wd_49
theorem pm_34 : sm_lnk "QueryTables" 45 83 := Or.inl wd_52
theorem pm_35 : sm_lnk "QueryTables" 54 105 := Or.inl wd_55
theorem pm_36 : sm_lnk "QueryTables" 63 118 := Or.inl wd_58
theorem pm_37 : sm_lnk "QueryTables" 81 17 := Or.inl wd_64
theorem pm_38 : sm_lnk "QueryTables" 84 84 := Or.inl wd_65
theorem pm_39 : sm_lnk "QueryTables" 88 86 := Or.inl wd_66
theorem pm_40 : sm_lnk "QueryTables" 92 85 := Or.inl wd_67
theorem pm_41 : sm_lnk "QueryTables" 95 18 := Or.inl wd_68
theorem pm_42 : sm_lnk "QueryTables" 113 16 := Or.inl wd_74
theorem pm_43 : sm_lnk "QueryTables" 123 28 := Or.inl wd_77
theorem pm_44 : sm_lnk "QueryTables" 126 29 := Or.inl wd_78
theorem pm_45 : sm_lnk "QueryTables" 130 27 := Or.inl wd_79
theorem pm_46 : sm_lnk "QueryTables" 133 30 := Or.inl wd_80
theorem pm_47 : sm_lnk "QueryTables" 137 106 := Or.inl wd_81
theorem pm_48 : sm_lnk "QueryTables" 143 65 := Or.inl wd_83
theorem pm_49 : sm_lnk "QueryTables" 149 40 := Or.inl wd_85
theorem pm_50 : sm_lnk "QueryTables" 153 119 := Or.inl wd_86
theorem pm_51 : sm_lnk "QueryTables" 156 123 := Or.inl wd_87
theorem pm_52 : sm_lnk "QueryTables" 159 19 := Or.inl wd_88
theorem pm_53 : sm_lnk "QueryTables" 166 122 := Or.inl wd_90
theorem pm_54 : sm_lnk "QueryTables" 175 31 := Or.inl wd_93
theorem pm_55 : sm_lnk "QueryTables" 182 32 := Or.inl wd_95
theorem pm_56 : sm_lnk "QueryTables" 185 20 := Or.inl wd_96
theorem pm_57 : sm_lnk "QueryTables" 188 21 := Or.inl wd_97
theorem pm_58 : sm_lnk "QueryTables" 191 23 := Or.inl wd_98
theorem pm_59 : sm_lnk "QueryTables" 194 24 := Or.inl wd_99
theorem pm_60 : sm_lnk "QueryTables" 200 61 := Or.inl wd_101
theorem pm_61 : sm_lnk "QueryTables" 204 62 := Or.inl wd_102
theorem pm_62 : sm_lnk "QueryTables" 207 51 := Or.inl wd_103
theorem pm_63 : sm_lnk "QueryTables" 213 33 := Or.inl wd_105
theorem pm_64 : sm_lnk "QueryTables" 217 35 := Or.inl wd_106
theorem pm_65 : sm_lnk "QueryTables" 224 130 := Or.inl wd_108
theorem pm_66 : sm_lnk "QueryTables" 227 42 := Or.inl wd_109
theorem pm_67 : sm_lnk "QueryTables" 230 22 := Or.inl wd_110
theorem pm_68 : sm_lnk "QueryTables" 234 36 := Or.inl wd_111
theorem pm_69 : sm_lnk "QueryTables" 237 34 := Or.inl wd_112
theorem pm_70 : sm_lnk "QueryTables$Table" 23 27 := Or.inl wd_123
theorem pm_71 : sm_lnk "QueryTables$Table" 32 37 := Or.inl wd_126
theorem pm_72 : sm_lnk "QueryTables$Table" 42 38 := Or.inl wd_131
theorem pm_73 : sm_lnk "QueryTables$Code" 32 47 := Or.inl wd_144
theorem pm_74 : sm_lnk "QueryTables$Code" 38 48 := Or.inl wd_145
theorem pm_75 : sm_lnk "QueryTables$Code" 48 52 := Or.inl wd_149
theorem pm_76 : sm_lnk "QueryTables$Code" 52 53 := Or.inl wd_150
theorem pm_77 : sm_lnk "QueryTables$Code" 56 54 := Or.inl wd_151
theorem pm_78 : sm_lnk "QueryTables$Code" 60 55 := Or.inl wd_152
theorem pm_79 : sm_lnk "QueryTables$Code" 66 41 := Or.inl wd_154
theorem pm_80 : sm_lnk "QueryTables$Code" 72 42 := Or.inl wd_155
theorem pm_81 : sm_lnk "QueryTables$Code" 75 29 := Or.inl wd_156
theorem pm_82 : sm_lnk "QueryTables$Code" 89 56 := Or.inl wd_164
theorem pm_83 : sm_lnk "QueryTables$Code" 92 57 := Or.inl wd_165
theorem pm_84 : sm_lnk "QueryTables$Statement" 70 63 := Or.inl wd_185
theorem pm_85 : sm_lnk "QueryTables$Tokens" 25 75 := Or.inl wd_191
theorem pm_86 : sm_lnk "QueryTables$Tokens" 29 76 := Or.inl wd_192
theorem pm_87 : sm_lnk "QueryTables$Tokens" 33 73 := Or.inl wd_193
theorem pm_88 : sm_lnk "QueryTables$Tokens" 37 74 := Or.inl wd_194
theorem pm_89 : sm_lnk "QueryTables$Tokens" 40 78 := Or.inl wd_195
theorem pm_90 : sm_lnk "QueryTables$Tokens" 43 77 := Or.inl wd_196
theorem pm_91 : sm_lnk "QueryTables$Tokens" 46 79 := Or.inl wd_197
theorem pm_92 : sm_lnk "QueryTables$Tokens" 52 200 := Or.inl wd_198
theorem pm_93 : sm_lnk "QueryTables$Tokens" 58 80 := Or.inl wd_199
theorem pm_94 : sm_lnk "QueryTables$Tokens" 62 81 := Or.inl wd_200
theorem pm_95 : sm_lnk "QueryTables$Tokens" 67 82 := Or.inl wd_201
theorem pm_96 : sm_lnk "QueryTables$Tokens" 99 203 := Or.inl wd_202
theorem pm_97 : sm_lnk "QueryTables$Tokens" 103 198 := Or.inl wd_203
theorem pm_98 : sm_lnk "QueryTables$Parser" 11 68 := Or.inr ⟨_, wd_206⟩
theorem pm_99 : sm_lnk "QueryTables$Parser" 30 59 := Or.inl wd_211
theorem pm_100 : sm_lnk "QueryTables$Parser" 35 45 := Or.inl wd_212
theorem pm_101 : sm_lnk "QueryTables$Parser" 38 69 := Or.inl wd_213
theorem pm_102 : sm_lnk "QueryTables$Parser" 42 70 := Or.inl wd_214
theorem pm_103 : sm_lnk "QueryTables$Parser" 49 71 := Or.inl wd_216
theorem pm_104 : sm_lnk "QueryTables$Parser" 53 87 := Or.inl wd_217
theorem pm_105 : sm_lnk "QueryTables$Parser" 57 89 := Or.inl wd_218
theorem pm_106 : sm_lnk "QueryTables$Parser" 60 90 := Or.inl wd_219
theorem pm_107 : sm_lnk "QueryTables$Parser" 63 91 := Or.inl wd_220
theorem pm_108 : sm_lnk "QueryTables$Parser" 66 92 := Or.inl wd_221
theorem pm_109 : sm_lnk "QueryTables$Parser" 69 93 := Or.inl wd_222
theorem pm_110 : sm_lnk "QueryTables$Parser" 74 88 := Or.inl wd_224
theorem pm_111 : sm_lnk "QueryTables$Parser" 77 94 := Or.inl wd_225
theorem pm_112 : sm_lnk "QueryTables$Parser" 80 95 := Or.inl wd_226
theorem pm_113 : sm_lnk "QueryTables$Parser" 83 72 := Or.inl wd_227
theorem pm_114 : sm_lnk "QueryTables$Parser" 96 96 := Or.inl wd_232
theorem pm_115 : sm_lnk "QueryTables$Parser" 102 60 := Or.inl wd_234
theorem pm_116 : sm_lnk "QueryTables$Parser" 109 100 := Or.inl wd_236
theorem pm_117 : sm_lnk "QueryTables$Parser" 127 97 := Or.inl wd_242
theorem pm_118 : sm_lnk "QueryTables$Parser" 130 46 := Or.inl wd_243
theorem pm_119 : sm_lnk "QueryTables$Parser" 133 98 := Or.inl wd_244
theorem pm_120 : sm_lnk "QueryTables$Parser" 136 47 := Or.inl wd_245
theorem pm_121 : sm_lnk "QueryTables$Parser" 140 99 := Or.inl wd_246
theorem pm_122 : sm_lnk "QueryTables$Parser" 143 101 := Or.inl wd_247
theorem pm_123 : sm_lnk "QueryTables$Parser" 146 64 := Or.inl wd_248
theorem pm_124 : sm_lnk "QueryTables$Parser" 150 102 := Or.inl wd_249
theorem pm_125 : sm_lnk "QueryTables$Parser" 153 103 := Or.inl wd_250
theorem pm_126 : sm_lnk "QueryTables$Parser" 156 63 := Or.inl wd_251
theorem pm_127 : sm_lnk "QueryTables$Parser" 159 104 := Or.inl wd_252
theorem pm_128 : sm_lnk "QueryTables$Checker" 23 107 := Or.inl wd_257
theorem pm_129 : sm_lnk "QueryTables$Checker" 27 108 := Or.inl wd_258
theorem pm_130 : sm_lnk "QueryTables$Checker" 30 109 := Or.inl wd_259
theorem pm_131 : sm_lnk "QueryTables$Checker" 33 112 := Or.inl wd_260
theorem pm_132 : sm_lnk "QueryTables$Checker" 42 26 := Or.inl wd_262
theorem pm_133 : sm_lnk "QueryTables$Checker" 58 27 := Or.inl wd_266
theorem pm_134 : sm_lnk "QueryTables$Checker" 62 28 := Or.inl wd_267
theorem pm_135 : sm_lnk "QueryTables$Checker" 70 48 := Or.inl wd_269
theorem pm_136 : sm_lnk "QueryTables$Checker" 80 110 := Or.inl wd_272
theorem pm_137 : sm_lnk "QueryTables$Checker" 87 111 := Or.inl wd_274
theorem pm_138 : sm_lnk "QueryTables$Access" 44 50 := Or.inl wd_288
theorem pm_139 : sm_lnk "QueryTables$Access" 50 115 := Or.inl wd_289
theorem pm_140 : sm_lnk "QueryTables$Access" 54 49 := Or.inl wd_290
theorem pm_141 : sm_lnk "QueryTables$Access" 58 116 := Or.inl wd_291
theorem pm_142 : sm_lnk "QueryTables$Access" 62 28 := Or.inl wd_292
theorem pm_143 : sm_lnk "QueryTables$Search" 42 113 := Or.inl wd_307
theorem pm_144 : sm_lnk "QueryTables$Search" 64 41 := Or.inl wd_314
theorem pm_145 : sm_lnk "QueryTables$Search" 70 114 := Or.inl wd_315
theorem pm_146 : sm_lnk "QueryTables$Search" 74 121 := Or.inl wd_316
theorem pm_147 : sm_lnk "QueryTables$Search" 78 117 := Or.inl wd_317
theorem pm_148 : sm_lnk "QueryTables$Search" 82 120 := Or.inl wd_318
theorem pm_149 : sm_lnk "QueryTables$Search" 104 124 := Or.inl wd_324
theorem pm_150 : sm_lnk "QueryTables$Search" 108 43 := Or.inl wd_325
theorem pm_151 : sm_lnk "QueryTables$Search" 112 126 := Or.inl wd_326
theorem pm_152 : sm_lnk "QueryTables$Search" 115 125 := Or.inl wd_327
theorem pm_153 : sm_lnk "QueryTables$Search" 126 51 := Or.inl wd_331
theorem pm_154 : sm_lnk "QueryTables$Search" 140 29 := Or.inl wd_334
theorem pm_155 : sm_lnk "QueryTables$Search" 153 49 := Or.inl wd_338
theorem pm_156 : sm_lnk "QueryTables$Search" 158 66 := Or.inl wd_340
theorem pm_157 : sm_lnk "QueryTables$Search" 167 67 := Or.inl wd_343
theorem pm_158 : sm_lnk "QueryTables$Search" 176 127 := Or.inl wd_346
theorem pm_159 : sm_lnk "QueryTables$Search" 180 42 := Or.inl wd_347
theorem pm_160 : sm_lnk "QueryTables$Search" 184 128 := Or.inl wd_348
theorem pm_161 : sm_lnk "QueryTables$Search" 194 129 := Or.inl wd_351
theorem pm_162 : sm_lnk "QueryTablesModel" 98 135 := Or.inl wd_381
theorem pm_163 : sm_lnk "QueryTablesModel" 102 136 := Or.inl wd_382
theorem pm_164 : sm_lnk "QueryTablesModel" 109 137 := Or.inl wd_384
theorem pm_165 : sm_lnk "QueryTablesModel" 115 140 := Or.inl wd_386
theorem pm_166 : sm_lnk "QueryTablesModel" 119 143 := Or.inl wd_387
theorem pm_167 : sm_lnk "QueryTablesModel" 135 147 := Or.inl wd_392
theorem pm_168 : sm_lnk "QueryTablesModel" 139 145 := Or.inl wd_393
theorem pm_169 : sm_lnk "QueryTablesModel" 146 146 := Or.inl wd_395
theorem pm_170 : sm_lnk "QueryTablesModel" 150 141 := Or.inl wd_396
theorem pm_171 : sm_lnk "QueryTablesModel" 153 144 := Or.inl wd_397
theorem pm_172 : sm_lnk "QueryTablesModel" 156 139 := Or.inl wd_398
theorem pm_173 : sm_lnk "QueryTablesModel" 160 142 := Or.inl wd_399
theorem pm_174 : sm_lnk "QueryTablesModel" 163 148 := Or.inl wd_400
theorem pm_175 : sm_lnk "QueryTablesModel" 166 149 := Or.inl wd_401
theorem pm_176 : sm_lnk "QueryTablesModel" 169 150 := Or.inl wd_402
theorem pm_177 : sm_lnk "QueryTablesModel" 176 152 := Or.inl wd_404
theorem pm_178 : sm_lnk "QueryTablesModel" 188 153 := Or.inl wd_408
theorem pm_179 : sm_lnk "QueryTablesModel" 191 151 := Or.inl wd_409
theorem pm_180 : sm_lnk "QueryTablesModel" 194 154 := Or.inl wd_410
theorem pm_181 : sm_lnk "QueryTablesModel" 206 155 := Or.inl wd_414
theorem pm_182 : sm_lnk "QueryTablesModel" 209 156 := Or.inl wd_415
theorem pm_183 : sm_lnk "QueryTablesModel" 248 157 := Or.inl wd_428
theorem pm_184 : sm_lnk "QueryTablesModel" 254 159 := Or.inl wd_430
theorem pm_185 : sm_lnk "QueryTablesModel" 257 158 := Or.inl wd_431
theorem pm_186 : sm_lnk "QueryTablesModel" 260 161 := Or.inl wd_432
theorem pm_187 : sm_lnk "QueryTablesModel" 263 163 := Or.inl wd_433
theorem pm_188 : sm_lnk "QueryTablesModel" 272 165 := Or.inl wd_436
theorem pm_189 : sm_lnk "QueryTablesModel" 275 160 := Or.inl wd_437
theorem pm_190 : sm_lnk "QueryTablesModel" 278 138 := Or.inl wd_438
theorem pm_191 : sm_lnk "QueryTablesModel" 281 162 := Or.inl wd_439
theorem pm_192 : sm_lnk "QueryTablesModel" 284 164 := Or.inl wd_440
theorem pm_193 : sm_lnk "QueryTablesModel" 287 180 := Or.inl wd_441
theorem pm_194 : sm_lnk "QueryTablesModel" 290 184 := Or.inl wd_442
theorem pm_195 : sm_lnk "QueryTablesModel" 293 181 := Or.inl wd_443
theorem pm_196 : sm_lnk "QueryTablesModel" 296 182 := Or.inl wd_444
theorem pm_197 : sm_lnk "QueryTablesModel" 299 177 := Or.inl wd_445
theorem pm_198 : sm_lnk "QueryTablesModel" 302 183 := Or.inl wd_446
theorem pm_199 : sm_lnk "QueryTablesModel" 307 168 := Or.inl wd_448
theorem pm_200 : sm_lnk "QueryTablesModel" 311 167 := Or.inl wd_449
theorem pm_201 : sm_lnk "QueryTablesModel" 315 173 := Or.inl wd_450
theorem pm_202 : sm_lnk "QueryTablesModel" 319 171 := Or.inl wd_451
theorem pm_203 : sm_lnk "QueryTablesModel" 323 170 := Or.inl wd_452
theorem pm_204 : sm_lnk "QueryTablesModel" 327 172 := Or.inl wd_453
theorem pm_205 : sm_lnk "QueryTablesModel" 334 174 := Or.inl wd_455
theorem pm_206 : sm_lnk "QueryTablesModel" 337 176 := Or.inl wd_456
theorem pm_207 : sm_lnk "QueryTablesModel" 341 175 := Or.inl wd_457
theorem pm_208 : sm_lnk "QueryTablesModel" 344 179 := Or.inl wd_458
theorem pm_209 : sm_lnk "QueryTablesModel" 347 169 := Or.inl wd_459
theorem pm_210 : sm_lnk "QueryTablesModel" 353 185 := Or.inl wd_461
theorem pm_211 : sm_lnk "QueryTablesModel" 356 178 := Or.inl wd_462
theorem pm_212 : sm_lnk "QueryTablesModel" 359 186 := Or.inl wd_463
theorem pm_213 : sm_lnk "QueryTablesModel" 367 192 := Or.inl wd_466
theorem pm_214 : sm_lnk "java/lang/String" 492 202 := Or.inl wd_467
theorem pm_215 : sm_lnk "java/lang/String" 495 206 := Or.inl wd_469
theorem pm_216 : sm_lnk "java/lang/String" 633 201 := Or.inl wd_472
theorem pm_217 : sm_lnk "java/lang/String" 505 203 := Or.inl wd_473
theorem pm_218 : sm_lnk "java/lang/String" 637 207 := Or.inl wd_474
theorem pm_219 : sm_lnk "java/lang/String" 335 199 := Or.inl wd_475
theorem pm_220 : sm_lnk "java/lang/String" 1059 209 := Or.inl wd_477
theorem pm_221 : sm_lnk "java/lang/StringLatin1" 9 204 := Or.inl wd_478
theorem pm_222 : sm_lnk "java/lang/StringLatin1" 88 205 := Or.inl wd_479
theorem pm_223 : sm_lnk "java/lang/StringLatin1" 95 208 := Or.inl wd_482
theorem pf_0 {nm : String} (hn : nm = "<init>") : sm_pf "QueryTables" nm 9 0 0 := ⟨_, rfl, Nat.le_of_ble_eq_true rfl, Or.inr ⟨rfl, hn, rfl, wd_37⟩⟩
theorem pf_1 {nm : String} (hn : nm = "<init>") : sm_pf "QueryTables" nm 15 0 1 := ⟨_, rfl, Nat.le_of_ble_eq_true rfl, Or.inr ⟨rfl, hn, rfl, wd_40⟩⟩
theorem pf_2 : ∃ q, sm_classes[0]? = some q ∧ 1 < q.2.2 ∧ sm_fl "QueryTables" 15 q 1 := ⟨_, rfl, Nat.le_of_ble_eq_true rfl, Or.inl wd_40⟩
theorem pf_3 {nm : String} (hn : nm = "<init>") : sm_pf "QueryTables" nm 23 0 2 := ⟨_, rfl, Nat.le_of_ble_eq_true rfl, Or.inr ⟨rfl, hn, rfl, wd_44⟩⟩
theorem pf_4 {nm : String} (hn : nm = "<init>") : sm_pf "QueryTables" nm 30 0 3 := ⟨_, rfl, Nat.le_of_ble_eq_true rfl, Or.inr ⟨rfl, hn, rfl, wd_47⟩⟩
theorem pf_5 {nm : String} (hn : nm = "<init>") : sm_pf "QueryTables" nm 39 0 4 := ⟨_, rfl, Nat.le_of_ble_eq_true rfl, Or.inr ⟨rfl, hn, rfl, wd_50⟩⟩
theorem pf_6 : ∃ q, sm_classes[0]? = some q ∧ 2 < q.2.2 ∧ sm_fl "QueryTables" 23 q 2 := ⟨_, rfl, Nat.le_of_ble_eq_true rfl, Or.inl wd_44⟩
theorem pf_7 : ∃ q, sm_classes[0]? = some q ∧ 3 < q.2.2 ∧ sm_fl "QueryTables" 30 q 3 := ⟨_, rfl, Nat.le_of_ble_eq_true rfl, Or.inl wd_47⟩
theorem pf_8 {nm : String} (hn : nm = "<init>") : sm_pf "QueryTables" nm 48 0 5 := ⟨_, rfl, Nat.le_of_ble_eq_true rfl, Or.inr ⟨rfl, hn, rfl, wd_53⟩⟩
theorem pf_9 {nm : String} (hn : nm = "<init>") : sm_pf "QueryTables" nm 57 0 6 := ⟨_, rfl, Nat.le_of_ble_eq_true rfl, Or.inr ⟨rfl, hn, rfl, wd_56⟩⟩
theorem pf_10 : ∃ q, sm_classes[0]? = some q ∧ 4 < q.2.2 ∧ sm_fl "QueryTables" 39 q 4 := ⟨_, rfl, Nat.le_of_ble_eq_true rfl, Or.inl wd_50⟩
theorem pf_11 {nm : String} (hn : nm = "<init>") : sm_pf "QueryTables" nm 66 0 7 := ⟨_, rfl, Nat.le_of_ble_eq_true rfl, Or.inr ⟨rfl, hn, rfl, wd_59⟩⟩
theorem pf_12 {nm : String} (hn : nm = "<init>") : sm_pf "QueryTables" nm 70 0 8 := ⟨_, rfl, Nat.le_of_ble_eq_true rfl, Or.inr ⟨rfl, hn, rfl, wd_61⟩⟩
theorem pf_13 {nm : String} (hn : nm = "<init>") : sm_pf "QueryTables" nm 74 0 9 := ⟨_, rfl, Nat.le_of_ble_eq_true rfl, Or.inr ⟨rfl, hn, rfl, wd_62⟩⟩
theorem pf_14 : ∃ q, sm_classes[0]? = some q ∧ 10 < q.2.2 ∧ sm_fl "QueryTables" 77 q 10 := ⟨_, rfl, Nat.le_of_ble_eq_true rfl, Or.inl wd_63⟩
theorem pf_15 : ∃ q, sm_classes[0]? = some q ∧ 0 < q.2.2 ∧ sm_fl "QueryTables" 9 q 0 := ⟨_, rfl, Nat.le_of_ble_eq_true rfl, Or.inl wd_37⟩
theorem pf_16 {nm : String}  : sm_pf "QueryTables" nm 77 0 10 := ⟨_, rfl, Nat.le_of_ble_eq_true rfl, Or.inl ⟨rfl, Or.inl wd_63⟩⟩
theorem pf_17 : ∃ q, sm_classes[0]? = some q ∧ 5 < q.2.2 ∧ sm_fl "QueryTables" 48 q 5 := ⟨_, rfl, Nat.le_of_ble_eq_true rfl, Or.inl wd_53⟩
theorem pf_18 : ∃ q, sm_classes[0]? = some q ∧ 11 < q.2.2 ∧ sm_fl "QueryTables" 99 q 11 := ⟨_, rfl, Nat.le_of_ble_eq_true rfl, Or.inl wd_69⟩
theorem pf_19 : ∃ q, sm_classes[0]? = some q ∧ 12 < q.2.2 ∧ sm_fl "QueryTables" 102 q 12 := ⟨_, rfl, Nat.le_of_ble_eq_true rfl, Or.inl wd_70⟩
theorem pf_20 : ∃ q, sm_classes[0]? = some q ∧ 8 < q.2.2 ∧ sm_fl "QueryTables" 70 q 8 := ⟨_, rfl, Nat.le_of_ble_eq_true rfl, Or.inl wd_61⟩
theorem pf_21 : ∃ q, sm_classes[0]? = some q ∧ 13 < q.2.2 ∧ sm_fl "QueryTables" 107 q 13 := ⟨_, rfl, Nat.le_of_ble_eq_true rfl, Or.inl wd_72⟩
theorem pf_22 : ∃ q, sm_classes[0]? = some q ∧ 14 < q.2.2 ∧ sm_fl "QueryTables" 110 q 14 := ⟨_, rfl, Nat.le_of_ble_eq_true rfl, Or.inl wd_73⟩
theorem pf_23 : ∃ q, sm_classes[1]? = some q ∧ 2 < q.2.2 ∧ sm_fl "QueryTables" 117 q 2 := ⟨_, rfl, Nat.le_of_ble_eq_true rfl, Or.inr ⟨_, wd_75⟩⟩
theorem pf_24 : ∃ q, sm_classes[1]? = some q ∧ 3 < q.2.2 ∧ sm_fl "QueryTables" 120 q 3 := ⟨_, rfl, Nat.le_of_ble_eq_true rfl, Or.inr ⟨_, wd_76⟩⟩
theorem pf_25 {nm : String}  : sm_pf "QueryTables" nm 99 0 11 := ⟨_, rfl, Nat.le_of_ble_eq_true rfl, Or.inl ⟨rfl, Or.inl wd_69⟩⟩
theorem pf_26 {nm : String}  : sm_pf "QueryTables" nm 102 0 12 := ⟨_, rfl, Nat.le_of_ble_eq_true rfl, Or.inl ⟨rfl, Or.inl wd_70⟩⟩
theorem pf_27 {nm : String}  : sm_pf "QueryTables" nm 107 0 13 := ⟨_, rfl, Nat.le_of_ble_eq_true rfl, Or.inl ⟨rfl, Or.inl wd_72⟩⟩
theorem pf_28 {nm : String}  : sm_pf "QueryTables" nm 110 0 14 := ⟨_, rfl, Nat.le_of_ble_eq_true rfl, Or.inl ⟨rfl, Or.inl wd_73⟩⟩
theorem pf_29 : ∃ q, sm_classes[0]? = some q ∧ 6 < q.2.2 ∧ sm_fl "QueryTables" 57 q 6 := ⟨_, rfl, Nat.le_of_ble_eq_true rfl, Or.inl wd_56⟩
theorem pf_30 : ∃ q, sm_classes[4]? = some q ∧ 5 < q.2.2 ∧ sm_fl "QueryTables" 140 q 5 := ⟨_, rfl, Nat.le_of_ble_eq_true rfl, Or.inr ⟨_, wd_82⟩⟩
theorem pf_31 : ∃ q, sm_classes[4]? = some q ∧ 6 < q.2.2 ∧ sm_fl "QueryTables" 146 q 6 := ⟨_, rfl, Nat.le_of_ble_eq_true rfl, Or.inr ⟨_, wd_84⟩⟩
theorem pf_32 : ∃ q, sm_classes[0]? = some q ∧ 7 < q.2.2 ∧ sm_fl "QueryTables" 66 q 7 := ⟨_, rfl, Nat.le_of_ble_eq_true rfl, Or.inl wd_59⟩
theorem pf_33 : ∃ q, sm_classes[9]? = some q ∧ 14 < q.2.2 ∧ sm_fl "QueryTables" 163 q 14 := ⟨_, rfl, Nat.le_of_ble_eq_true rfl, Or.inr ⟨_, wd_89⟩⟩
theorem pf_34 : ∃ q, sm_classes[4]? = some q ∧ 4 < q.2.2 ∧ sm_fl "QueryTables" 169 q 4 := ⟨_, rfl, Nat.le_of_ble_eq_true rfl, Or.inr ⟨_, wd_91⟩⟩
theorem pf_35 : ∃ q, sm_classes[4]? = some q ∧ 8 < q.2.2 ∧ sm_fl "QueryTables" 172 q 8 := ⟨_, rfl, Nat.le_of_ble_eq_true rfl, Or.inr ⟨_, wd_92⟩⟩
theorem pf_36 : ∃ q, sm_classes[4]? = some q ∧ 7 < q.2.2 ∧ sm_fl "QueryTables" 179 q 7 := ⟨_, rfl, Nat.le_of_ble_eq_true rfl, Or.inr ⟨_, wd_94⟩⟩
theorem pf_37 : ∃ q, sm_classes[4]? = some q ∧ 9 < q.2.2 ∧ sm_fl "QueryTables" 197 q 9 := ⟨_, rfl, Nat.le_of_ble_eq_true rfl, Or.inr ⟨_, wd_100⟩⟩
theorem pf_38 : ∃ q, sm_classes[0]? = some q ∧ 9 < q.2.2 ∧ sm_fl "QueryTables" 74 q 9 := ⟨_, rfl, Nat.le_of_ble_eq_true rfl, Or.inl wd_62⟩
theorem pf_39 : ∃ q, sm_classes[9]? = some q ∧ 15 < q.2.2 ∧ sm_fl "QueryTables" 221 q 15 := ⟨_, rfl, Nat.le_of_ble_eq_true rfl, Or.inr ⟨_, wd_107⟩⟩
theorem pf_40 : ∃ q, sm_classes[4]? = some q ∧ 15 < q.2.2 ∧ sm_fl "QueryTables" 240 q 15 := ⟨_, rfl, Nat.le_of_ble_eq_true rfl, Or.inr ⟨_, wd_113⟩⟩
theorem pf_41 {nm : String} (hn : nm = "<init>") : sm_pf "QueryTables$Table" nm 9 1 0 := ⟨_, rfl, Nat.le_of_ble_eq_true rfl, Or.inr ⟨rfl, hn, rfl, wd_119⟩⟩
theorem pf_42 {nm : String} (hn : nm = "<init>") : sm_pf "QueryTables$Table" nm 15 1 1 := ⟨_, rfl, Nat.le_of_ble_eq_true rfl, Or.inr ⟨rfl, hn, rfl, wd_121⟩⟩
theorem pf_43 : ∃ q, sm_classes[1]? = some q ∧ 2 < q.2.2 ∧ sm_fl "QueryTables$Table" 19 q 2 := ⟨_, rfl, Nat.le_of_ble_eq_true rfl, Or.inl wd_122⟩
theorem pf_44 : ∃ q, sm_classes[1]? = some q ∧ 1 < q.2.2 ∧ sm_fl "QueryTables$Table" 15 q 1 := ⟨_, rfl, Nat.le_of_ble_eq_true rfl, Or.inl wd_121⟩
theorem pf_45 : ∃ q, sm_classes[1]? = some q ∧ 3 < q.2.2 ∧ sm_fl "QueryTables$Table" 27 q 3 := ⟨_, rfl, Nat.le_of_ble_eq_true rfl, Or.inl wd_124⟩
theorem pf_46 : ∃ q, sm_classes[1]? = some q ∧ 0 < q.2.2 ∧ sm_fl "QueryTables$Table" 9 q 0 := ⟨_, rfl, Nat.le_of_ble_eq_true rfl, Or.inl wd_119⟩
theorem pf_47 {nm : String}  : sm_pf "QueryTables$Table" nm 19 1 2 := ⟨_, rfl, Nat.le_of_ble_eq_true rfl, Or.inl ⟨rfl, Or.inl wd_122⟩⟩
theorem pf_48 {nm : String}  : sm_pf "QueryTables$Table" nm 27 1 3 := ⟨_, rfl, Nat.le_of_ble_eq_true rfl, Or.inl ⟨rfl, Or.inl wd_124⟩⟩
theorem pf_49 {nm : String} (hn : nm = "<init>") : sm_pf "QueryTables$Pair" nm 7 2 0 := ⟨_, rfl, Nat.le_of_ble_eq_true rfl, Or.inr ⟨rfl, hn, rfl, wd_134⟩⟩
theorem pf_50 {nm : String}  : sm_pf "QueryTables$Pair" nm 13 2 1 := ⟨_, rfl, Nat.le_of_ble_eq_true rfl, Or.inl ⟨rfl, Or.inl wd_135⟩⟩
theorem pf_51 {nm : String}  : sm_pf "QueryTables$Pair" nm 17 2 2 := ⟨_, rfl, Nat.le_of_ble_eq_true rfl, Or.inl ⟨rfl, Or.inl wd_136⟩⟩
theorem pf_52 : ∃ q, sm_classes[2]? = some q ∧ 0 < q.2.2 ∧ sm_fl "QueryTables$Pair" 7 q 0 := ⟨_, rfl, Nat.le_of_ble_eq_true rfl, Or.inl wd_134⟩
theorem pf_53 : ∃ q, sm_classes[2]? = some q ∧ 1 < q.2.2 ∧ sm_fl "QueryTables$Pair" 13 q 1 := ⟨_, rfl, Nat.le_of_ble_eq_true rfl, Or.inl wd_135⟩
theorem pf_54 : ∃ q, sm_classes[2]? = some q ∧ 2 < q.2.2 ∧ sm_fl "QueryTables$Pair" 17 q 2 := ⟨_, rfl, Nat.le_of_ble_eq_true rfl, Or.inl wd_136⟩
theorem pf_55 {nm : String} (hn : nm = "<init>") : sm_pf "QueryTables$Code" nm 9 3 0 := ⟨_, rfl, Nat.le_of_ble_eq_true rfl, Or.inr ⟨rfl, hn, rfl, wd_138⟩⟩
theorem pf_56 {nm : String} (hn : nm = "<init>") : sm_pf "QueryTables$Code" nm 15 3 1 := ⟨_, rfl, Nat.le_of_ble_eq_true rfl, Or.inr ⟨rfl, hn, rfl, wd_139⟩⟩
theorem pf_57 {nm : String} (hn : nm = "<init>") : sm_pf "QueryTables$Code" nm 18 3 2 := ⟨_, rfl, Nat.le_of_ble_eq_true rfl, Or.inr ⟨rfl, hn, rfl, wd_140⟩⟩
theorem pf_58 {nm : String} (hn : nm = "<init>") : sm_pf "QueryTables$Code" nm 21 3 3 := ⟨_, rfl, Nat.le_of_ble_eq_true rfl, Or.inr ⟨rfl, hn, rfl, wd_141⟩⟩
theorem pf_59 {nm : String} (hn : nm = "<init>") : sm_pf "QueryTables$Code" nm 24 3 4 := ⟨_, rfl, Nat.le_of_ble_eq_true rfl, Or.inr ⟨rfl, hn, rfl, wd_142⟩⟩
theorem pf_60 {nm : String}  : sm_pf "QueryTables$Code" nm 28 3 5 := ⟨_, rfl, Nat.le_of_ble_eq_true rfl, Or.inl ⟨rfl, Or.inl wd_143⟩⟩
theorem pf_61 : ∃ q, sm_classes[3]? = some q ∧ 5 < q.2.2 ∧ sm_fl "QueryTables$Code" 28 q 5 := ⟨_, rfl, Nat.le_of_ble_eq_true rfl, Or.inl wd_143⟩
theorem pf_62 : ∃ q, sm_classes[3]? = some q ∧ 0 < q.2.2 ∧ sm_fl "QueryTables$Code" 9 q 0 := ⟨_, rfl, Nat.le_of_ble_eq_true rfl, Or.inl wd_138⟩
theorem pf_63 : ∃ q, sm_classes[3]? = some q ∧ 1 < q.2.2 ∧ sm_fl "QueryTables$Code" 15 q 1 := ⟨_, rfl, Nat.le_of_ble_eq_true rfl, Or.inl wd_139⟩
theorem pf_64 : ∃ q, sm_classes[3]? = some q ∧ 2 < q.2.2 ∧ sm_fl "QueryTables$Code" 18 q 2 := ⟨_, rfl, Nat.le_of_ble_eq_true rfl, Or.inl wd_140⟩
theorem pf_65 : ∃ q, sm_classes[3]? = some q ∧ 3 < q.2.2 ∧ sm_fl "QueryTables$Code" 21 q 3 := ⟨_, rfl, Nat.le_of_ble_eq_true rfl, Or.inl wd_141⟩
theorem pf_66 : ∃ q, sm_classes[3]? = some q ∧ 4 < q.2.2 ∧ sm_fl "QueryTables$Code" 24 q 4 := ⟨_, rfl, Nat.le_of_ble_eq_true rfl, Or.inl wd_142⟩
theorem pf_67 {nm : String} (hn : nm = "<init>") : sm_pf "QueryTables$Statement" nm 9 4 0 := ⟨_, rfl, Nat.le_of_ble_eq_true rfl, Or.inr ⟨rfl, hn, rfl, wd_167⟩⟩
theorem pf_68 {nm : String} (hn : nm = "<init>") : sm_pf "QueryTables$Statement" nm 15 4 1 := ⟨_, rfl, Nat.le_of_ble_eq_true rfl, Or.inr ⟨rfl, hn, rfl, wd_168⟩⟩
theorem pf_69 {nm : String} (hn : nm = "<init>") : sm_pf "QueryTables$Statement" nm 18 4 2 := ⟨_, rfl, Nat.le_of_ble_eq_true rfl, Or.inr ⟨rfl, hn, rfl, wd_169⟩⟩
theorem pf_70 {nm : String} (hn : nm = "<init>") : sm_pf "QueryTables$Statement" nm 21 4 3 := ⟨_, rfl, Nat.le_of_ble_eq_true rfl, Or.inr ⟨rfl, hn, rfl, wd_170⟩⟩
theorem pf_71 {nm : String}  : sm_pf "QueryTables$Statement" nm 26 4 4 := ⟨_, rfl, Nat.le_of_ble_eq_true rfl, Or.inl ⟨rfl, Or.inl wd_171⟩⟩
theorem pf_72 {nm : String}  : sm_pf "QueryTables$Statement" nm 30 4 5 := ⟨_, rfl, Nat.le_of_ble_eq_true rfl, Or.inl ⟨rfl, Or.inl wd_172⟩⟩
theorem pf_73 {nm : String}  : sm_pf "QueryTables$Statement" nm 33 4 6 := ⟨_, rfl, Nat.le_of_ble_eq_true rfl, Or.inl ⟨rfl, Or.inl wd_173⟩⟩
theorem pf_74 {nm : String}  : sm_pf "QueryTables$Statement" nm 36 4 7 := ⟨_, rfl, Nat.le_of_ble_eq_true rfl, Or.inl ⟨rfl, Or.inl wd_174⟩⟩
theorem pf_75 {nm : String}  : sm_pf "QueryTables$Statement" nm 39 4 8 := ⟨_, rfl, Nat.le_of_ble_eq_true rfl, Or.inl ⟨rfl, Or.inl wd_175⟩⟩
theorem pf_76 {nm : String}  : sm_pf "QueryTables$Statement" nm 42 4 9 := ⟨_, rfl, Nat.le_of_ble_eq_true rfl, Or.inl ⟨rfl, Or.inl wd_176⟩⟩
theorem pf_77 {nm : String}  : sm_pf "QueryTables$Statement" nm 45 4 10 := ⟨_, rfl, Nat.le_of_ble_eq_true rfl, Or.inl ⟨rfl, Or.inl wd_177⟩⟩
theorem pf_78 {nm : String}  : sm_pf "QueryTables$Statement" nm 48 4 11 := ⟨_, rfl, Nat.le_of_ble_eq_true rfl, Or.inl ⟨rfl, Or.inl wd_178⟩⟩
theorem pf_79 {nm : String}  : sm_pf "QueryTables$Statement" nm 51 4 12 := ⟨_, rfl, Nat.le_of_ble_eq_true rfl, Or.inl ⟨rfl, Or.inl wd_179⟩⟩
theorem pf_80 {nm : String}  : sm_pf "QueryTables$Statement" nm 54 4 13 := ⟨_, rfl, Nat.le_of_ble_eq_true rfl, Or.inl ⟨rfl, Or.inl wd_180⟩⟩
theorem pf_81 {nm : String}  : sm_pf "QueryTables$Statement" nm 57 4 14 := ⟨_, rfl, Nat.le_of_ble_eq_true rfl, Or.inl ⟨rfl, Or.inl wd_181⟩⟩
theorem pf_82 {nm : String}  : sm_pf "QueryTables$Statement" nm 64 4 15 := ⟨_, rfl, Nat.le_of_ble_eq_true rfl, Or.inl ⟨rfl, Or.inl wd_183⟩⟩
theorem pf_83 {nm : String}  : sm_pf "QueryTables$Statement" nm 67 4 16 := ⟨_, rfl, Nat.le_of_ble_eq_true rfl, Or.inl ⟨rfl, Or.inl wd_184⟩⟩
theorem pf_84 : ∃ q, sm_classes[4]? = some q ∧ 9 < q.2.2 ∧ sm_fl "QueryTables$Statement" 42 q 9 := ⟨_, rfl, Nat.le_of_ble_eq_true rfl, Or.inl wd_176⟩
theorem pf_85 : ∃ q, sm_classes[4]? = some q ∧ 0 < q.2.2 ∧ sm_fl "QueryTables$Statement" 9 q 0 := ⟨_, rfl, Nat.le_of_ble_eq_true rfl, Or.inl wd_167⟩
theorem pf_86 : ∃ q, sm_classes[4]? = some q ∧ 16 < q.2.2 ∧ sm_fl "QueryTables$Statement" 67 q 16 := ⟨_, rfl, Nat.le_of_ble_eq_true rfl, Or.inl wd_184⟩
theorem pf_87 : ∃ q, sm_classes[4]? = some q ∧ 1 < q.2.2 ∧ sm_fl "QueryTables$Statement" 15 q 1 := ⟨_, rfl, Nat.le_of_ble_eq_true rfl, Or.inl wd_168⟩
theorem pf_88 : ∃ q, sm_classes[4]? = some q ∧ 2 < q.2.2 ∧ sm_fl "QueryTables$Statement" 18 q 2 := ⟨_, rfl, Nat.le_of_ble_eq_true rfl, Or.inl wd_169⟩
theorem pf_89 : ∃ q, sm_classes[4]? = some q ∧ 3 < q.2.2 ∧ sm_fl "QueryTables$Statement" 21 q 3 := ⟨_, rfl, Nat.le_of_ble_eq_true rfl, Or.inl wd_170⟩
theorem pf_90 : ∃ q, sm_classes[4]? = some q ∧ 4 < q.2.2 ∧ sm_fl "QueryTables$Statement" 26 q 4 := ⟨_, rfl, Nat.le_of_ble_eq_true rfl, Or.inl wd_171⟩
theorem pf_91 : ∃ q, sm_classes[4]? = some q ∧ 11 < q.2.2 ∧ sm_fl "QueryTables$Statement" 48 q 11 := ⟨_, rfl, Nat.le_of_ble_eq_true rfl, Or.inl wd_178⟩
theorem pf_92 : ∃ q, sm_classes[4]? = some q ∧ 10 < q.2.2 ∧ sm_fl "QueryTables$Statement" 45 q 10 := ⟨_, rfl, Nat.le_of_ble_eq_true rfl, Or.inl wd_177⟩
theorem pf_93 : ∃ q, sm_classes[4]? = some q ∧ 13 < q.2.2 ∧ sm_fl "QueryTables$Statement" 54 q 13 := ⟨_, rfl, Nat.le_of_ble_eq_true rfl, Or.inl wd_180⟩
theorem pf_94 : ∃ q, sm_classes[4]? = some q ∧ 12 < q.2.2 ∧ sm_fl "QueryTables$Statement" 51 q 12 := ⟨_, rfl, Nat.le_of_ble_eq_true rfl, Or.inl wd_179⟩
theorem pf_95 {nm : String} (hn : nm = "<init>") : sm_pf "QueryTables$Tokens" nm 9 5 0 := ⟨_, rfl, Nat.le_of_ble_eq_true rfl, Or.inr ⟨rfl, hn, rfl, wd_187⟩⟩
theorem pf_96 {nm : String} (hn : nm = "<init>") : sm_pf "QueryTables$Tokens" nm 15 5 1 := ⟨_, rfl, Nat.le_of_ble_eq_true rfl, Or.inr ⟨rfl, hn, rfl, wd_188⟩⟩
theorem pf_97 {nm : String}  : sm_pf "QueryTables$Tokens" nm 18 5 2 := ⟨_, rfl, Nat.le_of_ble_eq_true rfl, Or.inl ⟨rfl, Or.inl wd_189⟩⟩
theorem pf_98 {nm : String}  : sm_pf "QueryTables$Tokens" nm 22 5 3 := ⟨_, rfl, Nat.le_of_ble_eq_true rfl, Or.inl ⟨rfl, Or.inl wd_190⟩⟩
theorem pf_99 : ∃ q, sm_classes[5]? = some q ∧ 3 < q.2.2 ∧ sm_fl "QueryTables$Tokens" 22 q 3 := ⟨_, rfl, Nat.le_of_ble_eq_true rfl, Or.inl wd_190⟩
theorem pf_100 : ∃ q, sm_classes[5]? = some q ∧ 2 < q.2.2 ∧ sm_fl "QueryTables$Tokens" 18 q 2 := ⟨_, rfl, Nat.le_of_ble_eq_true rfl, Or.inl wd_189⟩
theorem pf_101 : ∃ q, sm_classes[5]? = some q ∧ 0 < q.2.2 ∧ sm_fl "QueryTables$Tokens" 9 q 0 := ⟨_, rfl, Nat.le_of_ble_eq_true rfl, Or.inl wd_187⟩
theorem pf_102 : ∃ q, sm_classes[5]? = some q ∧ 1 < q.2.2 ∧ sm_fl "QueryTables$Tokens" 15 q 1 := ⟨_, rfl, Nat.le_of_ble_eq_true rfl, Or.inl wd_188⟩
theorem pf_103 {nm : String} (hn : nm = "<init>") : sm_pf "QueryTables$Parser" nm 12 6 0 := ⟨_, rfl, Nat.le_of_ble_eq_true rfl, Or.inr ⟨rfl, hn, rfl, wd_207⟩⟩
theorem pf_104 {nm : String}  : sm_pf "QueryTables$Parser" nm 18 6 3 := ⟨_, rfl, Nat.le_of_ble_eq_true rfl, Or.inl ⟨rfl, Or.inl wd_208⟩⟩
theorem pf_105 {nm : String} (hn : nm = "<init>") : sm_pf "QueryTables$Parser" nm 22 6 1 := ⟨_, rfl, Nat.le_of_ble_eq_true rfl, Or.inr ⟨rfl, hn, rfl, wd_209⟩⟩
theorem pf_106 {nm : String} (hn : nm = "<init>") : sm_pf "QueryTables$Parser" nm 26 6 2 := ⟨_, rfl, Nat.le_of_ble_eq_true rfl, Or.inr ⟨rfl, hn, rfl, wd_210⟩⟩
theorem pf_107 : ∃ q, sm_classes[6]? = some q ∧ 1 < q.2.2 ∧ sm_fl "QueryTables$Parser" 22 q 1 := ⟨_, rfl, Nat.le_of_ble_eq_true rfl, Or.inl wd_209⟩
theorem pf_108 : ∃ q, sm_classes[6]? = some q ∧ 2 < q.2.2 ∧ sm_fl "QueryTables$Parser" 26 q 2 := ⟨_, rfl, Nat.le_of_ble_eq_true rfl, Or.inl wd_210⟩
theorem pf_109 : ∃ q, sm_classes[6]? = some q ∧ 0 < q.2.2 ∧ sm_fl "QueryTables$Parser" 12 q 0 := ⟨_, rfl, Nat.le_of_ble_eq_true rfl, Or.inl wd_207⟩
theorem pf_110 {nm : String}  : sm_pf "QueryTables$Parser" nm 46 4 4 := ⟨_, rfl, Nat.le_of_ble_eq_true rfl, Or.inl ⟨rfl, Or.inr ⟨_, wd_215⟩⟩⟩
theorem pf_111 : ∃ q, sm_classes[4]? = some q ∧ 9 < q.2.2 ∧ sm_fl "QueryTables$Parser" 72 q 9 := ⟨_, rfl, Nat.le_of_ble_eq_true rfl, Or.inr ⟨_, wd_223⟩⟩
theorem pf_112 {nm : String}  : sm_pf "QueryTables$Parser" nm 86 4 5 := ⟨_, rfl, Nat.le_of_ble_eq_true rfl, Or.inl ⟨rfl, Or.inr ⟨_, wd_228⟩⟩⟩
theorem pf_113 {nm : String}  : sm_pf "QueryTables$Parser" nm 89 4 6 := ⟨_, rfl, Nat.le_of_ble_eq_true rfl, Or.inl ⟨rfl, Or.inr ⟨_, wd_229⟩⟩⟩
theorem pf_114 {nm : String}  : sm_pf "QueryTables$Parser" nm 92 4 8 := ⟨_, rfl, Nat.le_of_ble_eq_true rfl, Or.inl ⟨rfl, Or.inr ⟨_, wd_230⟩⟩⟩
theorem pf_115 {nm : String}  : sm_pf "QueryTables$Parser" nm 94 4 7 := ⟨_, rfl, Nat.le_of_ble_eq_true rfl, Or.inl ⟨rfl, Or.inr ⟨_, wd_231⟩⟩⟩
theorem pf_116 : ∃ q, sm_classes[3]? = some q ∧ 5 < q.2.2 ∧ sm_fl "QueryTables$Parser" 99 q 5 := ⟨_, rfl, Nat.le_of_ble_eq_true rfl, Or.inr ⟨_, wd_233⟩⟩
theorem pf_117 {nm : String}  : sm_pf "QueryTables$Parser" nm 106 4 10 := ⟨_, rfl, Nat.le_of_ble_eq_true rfl, Or.inl ⟨rfl, Or.inr ⟨_, wd_235⟩⟩⟩
theorem pf_118 {nm : String}  : sm_pf "QueryTables$Parser" nm 112 4 11 := ⟨_, rfl, Nat.le_of_ble_eq_true rfl, Or.inl ⟨rfl, Or.inr ⟨_, wd_237⟩⟩⟩
theorem pf_119 {nm : String}  : sm_pf "QueryTables$Parser" nm 115 4 12 := ⟨_, rfl, Nat.le_of_ble_eq_true rfl, Or.inl ⟨rfl, Or.inr ⟨_, wd_238⟩⟩⟩
theorem pf_120 {nm : String}  : sm_pf "QueryTables$Parser" nm 118 4 13 := ⟨_, rfl, Nat.le_of_ble_eq_true rfl, Or.inl ⟨rfl, Or.inr ⟨_, wd_239⟩⟩⟩
theorem pf_121 {nm : String}  : sm_pf "QueryTables$Parser" nm 121 4 14 := ⟨_, rfl, Nat.le_of_ble_eq_true rfl, Or.inl ⟨rfl, Or.inr ⟨_, wd_240⟩⟩⟩
theorem pf_122 {nm : String}  : sm_pf "QueryTables$Parser" nm 125 4 15 := ⟨_, rfl, Nat.le_of_ble_eq_true rfl, Or.inl ⟨rfl, Or.inr ⟨_, wd_241⟩⟩⟩
theorem pf_123 : ∃ q, sm_classes[6]? = some q ∧ 3 < q.2.2 ∧ sm_fl "QueryTables$Parser" 18 q 3 := ⟨_, rfl, Nat.le_of_ble_eq_true rfl, Or.inl wd_208⟩
theorem pf_124 {nm : String} (hn : nm = "<init>") : sm_pf "QueryTables$Checker" nm 9 7 0 := ⟨_, rfl, Nat.le_of_ble_eq_true rfl, Or.inr ⟨rfl, hn, rfl, wd_254⟩⟩
theorem pf_125 {nm : String} (hn : nm = "<init>") : sm_pf "QueryTables$Checker" nm 15 7 1 := ⟨_, rfl, Nat.le_of_ble_eq_true rfl, Or.inr ⟨rfl, hn, rfl, wd_255⟩⟩
theorem pf_126 {nm : String} (hn : nm = "<init>") : sm_pf "QueryTables$Checker" nm 19 7 2 := ⟨_, rfl, Nat.le_of_ble_eq_true rfl, Or.inr ⟨rfl, hn, rfl, wd_256⟩⟩
theorem pf_127 : ∃ q, sm_classes[7]? = some q ∧ 0 < q.2.2 ∧ sm_fl "QueryTables$Checker" 9 q 0 := ⟨_, rfl, Nat.le_of_ble_eq_true rfl, Or.inl wd_254⟩
theorem pf_128 : ∃ q, sm_classes[7]? = some q ∧ 1 < q.2.2 ∧ sm_fl "QueryTables$Checker" 15 q 1 := ⟨_, rfl, Nat.le_of_ble_eq_true rfl, Or.inl wd_255⟩
theorem pf_129 : ∃ q, sm_classes[4]? = some q ∧ 5 < q.2.2 ∧ sm_fl "QueryTables$Checker" 36 q 5 := ⟨_, rfl, Nat.le_of_ble_eq_true rfl, Or.inr ⟨_, wd_261⟩⟩
theorem pf_130 : ∃ q, sm_classes[4]? = some q ∧ 4 < q.2.2 ∧ sm_fl "QueryTables$Checker" 47 q 4 := ⟨_, rfl, Nat.le_of_ble_eq_true rfl, Or.inr ⟨_, wd_263⟩⟩
theorem pf_131 : ∃ q, sm_classes[4]? = some q ∧ 6 < q.2.2 ∧ sm_fl "QueryTables$Checker" 52 q 6 := ⟨_, rfl, Nat.le_of_ble_eq_true rfl, Or.inr ⟨_, wd_264⟩⟩
theorem pf_132 : ∃ q, sm_classes[4]? = some q ∧ 7 < q.2.2 ∧ sm_fl "QueryTables$Checker" 55 q 7 := ⟨_, rfl, Nat.le_of_ble_eq_true rfl, Or.inr ⟨_, wd_265⟩⟩
theorem pf_133 : ∃ q, sm_classes[7]? = some q ∧ 2 < q.2.2 ∧ sm_fl "QueryTables$Checker" 19 q 2 := ⟨_, rfl, Nat.le_of_ble_eq_true rfl, Or.inl wd_256⟩
theorem pf_134 : ∃ q, sm_classes[3]? = some q ∧ 5 < q.2.2 ∧ sm_fl "QueryTables$Checker" 65 q 5 := ⟨_, rfl, Nat.le_of_ble_eq_true rfl, Or.inr ⟨_, wd_268⟩⟩
theorem pf_135 : ∃ q, sm_classes[3]? = some q ∧ 2 < q.2.2 ∧ sm_fl "QueryTables$Checker" 73 q 2 := ⟨_, rfl, Nat.le_of_ble_eq_true rfl, Or.inr ⟨_, wd_270⟩⟩
theorem pf_136 : ∃ q, sm_classes[3]? = some q ∧ 1 < q.2.2 ∧ sm_fl "QueryTables$Checker" 77 q 1 := ⟨_, rfl, Nat.le_of_ble_eq_true rfl, Or.inr ⟨_, wd_271⟩⟩
theorem pf_137 : ∃ q, sm_classes[3]? = some q ∧ 3 < q.2.2 ∧ sm_fl "QueryTables$Checker" 84 q 3 := ⟨_, rfl, Nat.le_of_ble_eq_true rfl, Or.inr ⟨_, wd_273⟩⟩
theorem pf_138 : ∃ q, sm_classes[4]? = some q ∧ 8 < q.2.2 ∧ sm_fl "QueryTables$Checker" 91 q 8 := ⟨_, rfl, Nat.le_of_ble_eq_true rfl, Or.inr ⟨_, wd_275⟩⟩
theorem pf_139 : ∃ q, sm_classes[4]? = some q ∧ 9 < q.2.2 ∧ sm_fl "QueryTables$Checker" 94 q 9 := ⟨_, rfl, Nat.le_of_ble_eq_true rfl, Or.inr ⟨_, wd_276⟩⟩
theorem pf_140 : ∃ q, sm_classes[1]? = some q ∧ 2 < q.2.2 ∧ sm_fl "QueryTables$Checker" 97 q 2 := ⟨_, rfl, Nat.le_of_ble_eq_true rfl, Or.inr ⟨_, wd_277⟩⟩
theorem pf_141 {nm : String}  : sm_pf "QueryTables$Access" nm 11 8 4 := ⟨_, rfl, Nat.le_of_ble_eq_true rfl, Or.inl ⟨rfl, Or.inl wd_279⟩⟩
theorem pf_142 {nm : String} (hn : nm = "<init>") : sm_pf "QueryTables$Access" nm 15 8 0 := ⟨_, rfl, Nat.le_of_ble_eq_true rfl, Or.inr ⟨rfl, hn, rfl, wd_280⟩⟩
theorem pf_143 {nm : String} (hn : nm = "<init>") : sm_pf "QueryTables$Access" nm 19 8 1 := ⟨_, rfl, Nat.le_of_ble_eq_true rfl, Or.inr ⟨rfl, hn, rfl, wd_281⟩⟩
theorem pf_144 {nm : String} (hn : nm = "<init>") : sm_pf "QueryTables$Access" nm 23 8 2 := ⟨_, rfl, Nat.le_of_ble_eq_true rfl, Or.inr ⟨rfl, hn, rfl, wd_282⟩⟩
theorem pf_145 {nm : String} (hn : nm = "<init>") : sm_pf "QueryTables$Access" nm 26 8 3 := ⟨_, rfl, Nat.le_of_ble_eq_true rfl, Or.inr ⟨rfl, hn, rfl, wd_283⟩⟩
theorem pf_146 : ∃ q, sm_classes[8]? = some q ∧ 0 < q.2.2 ∧ sm_fl "QueryTables$Access" 15 q 0 := ⟨_, rfl, Nat.le_of_ble_eq_true rfl, Or.inl wd_280⟩
theorem pf_147 : ∃ q, sm_classes[4]? = some q ∧ 16 < q.2.2 ∧ sm_fl "QueryTables$Access" 29 q 16 := ⟨_, rfl, Nat.le_of_ble_eq_true rfl, Or.inr ⟨_, wd_284⟩⟩
theorem pf_148 : ∃ q, sm_classes[8]? = some q ∧ 4 < q.2.2 ∧ sm_fl "QueryTables$Access" 11 q 4 := ⟨_, rfl, Nat.le_of_ble_eq_true rfl, Or.inl wd_279⟩
theorem pf_149 : ∃ q, sm_classes[4]? = some q ∧ 2 < q.2.2 ∧ sm_fl "QueryTables$Access" 34 q 2 := ⟨_, rfl, Nat.le_of_ble_eq_true rfl, Or.inr ⟨_, wd_285⟩⟩
theorem pf_150 : ∃ q, sm_classes[4]? = some q ∧ 1 < q.2.2 ∧ sm_fl "QueryTables$Access" 38 q 1 := ⟨_, rfl, Nat.le_of_ble_eq_true rfl, Or.inr ⟨_, wd_286⟩⟩
theorem pf_151 : ∃ q, sm_classes[4]? = some q ∧ 3 < q.2.2 ∧ sm_fl "QueryTables$Access" 41 q 3 := ⟨_, rfl, Nat.le_of_ble_eq_true rfl, Or.inr ⟨_, wd_287⟩⟩
theorem pf_152 : ∃ q, sm_classes[8]? = some q ∧ 1 < q.2.2 ∧ sm_fl "QueryTables$Access" 19 q 1 := ⟨_, rfl, Nat.le_of_ble_eq_true rfl, Or.inl wd_281⟩
theorem pf_153 : ∃ q, sm_classes[8]? = some q ∧ 2 < q.2.2 ∧ sm_fl "QueryTables$Access" 23 q 2 := ⟨_, rfl, Nat.le_of_ble_eq_true rfl, Or.inl wd_282⟩
theorem pf_154 : ∃ q, sm_classes[8]? = some q ∧ 3 < q.2.2 ∧ sm_fl "QueryTables$Access" 26 q 3 := ⟨_, rfl, Nat.le_of_ble_eq_true rfl, Or.inl wd_283⟩
theorem pf_155 {nm : String}  : sm_pf "QueryTables$Access" nm 68 8 5 := ⟨_, rfl, Nat.le_of_ble_eq_true rfl, Or.inl ⟨rfl, Or.inl wd_293⟩⟩
theorem pf_156 {nm : String}  : sm_pf "QueryTables$Access" nm 71 8 6 := ⟨_, rfl, Nat.le_of_ble_eq_true rfl, Or.inl ⟨rfl, Or.inl wd_294⟩⟩
theorem pf_157 {nm : String}  : sm_pf "QueryTables$Access" nm 74 8 7 := ⟨_, rfl, Nat.le_of_ble_eq_true rfl, Or.inl ⟨rfl, Or.inl wd_295⟩⟩
theorem pf_158 : ∃ q, sm_classes[1]? = some q ∧ 3 < q.2.2 ∧ sm_fl "QueryTables$Access" 77 q 3 := ⟨_, rfl, Nat.le_of_ble_eq_true rfl, Or.inr ⟨_, wd_296⟩⟩
theorem pf_159 {nm : String} (hn : nm = "<init>") : sm_pf "QueryTables$Search" nm 9 9 7 := ⟨_, rfl, Nat.le_of_ble_eq_true rfl, Or.inr ⟨rfl, hn, rfl, wd_298⟩⟩
theorem pf_160 {nm : String} (hn : nm = "<init>") : sm_pf "QueryTables$Search" nm 15 9 8 := ⟨_, rfl, Nat.le_of_ble_eq_true rfl, Or.inr ⟨rfl, hn, rfl, wd_299⟩⟩
theorem pf_161 {nm : String} (hn : nm = "<init>") : sm_pf "QueryTables$Search" nm 18 9 9 := ⟨_, rfl, Nat.le_of_ble_eq_true rfl, Or.inr ⟨rfl, hn, rfl, wd_300⟩⟩
theorem pf_162 {nm : String} (hn : nm = "<init>") : sm_pf "QueryTables$Search" nm 22 9 10 := ⟨_, rfl, Nat.le_of_ble_eq_true rfl, Or.inr ⟨rfl, hn, rfl, wd_301⟩⟩
theorem pf_163 {nm : String} (hn : nm = "<init>") : sm_pf "QueryTables$Search" nm 25 9 11 := ⟨_, rfl, Nat.le_of_ble_eq_true rfl, Or.inr ⟨rfl, hn, rfl, wd_302⟩⟩
theorem pf_164 {nm : String} (hn : nm = "<init>") : sm_pf "QueryTables$Search" nm 28 9 0 := ⟨_, rfl, Nat.le_of_ble_eq_true rfl, Or.inr ⟨rfl, hn, rfl, wd_303⟩⟩
theorem pf_165 {nm : String} (hn : nm = "<init>") : sm_pf "QueryTables$Search" nm 32 9 1 := ⟨_, rfl, Nat.le_of_ble_eq_true rfl, Or.inr ⟨rfl, hn, rfl, wd_304⟩⟩
theorem pf_166 {nm : String} (hn : nm = "<init>") : sm_pf "QueryTables$Search" nm 36 9 2 := ⟨_, rfl, Nat.le_of_ble_eq_true rfl, Or.inr ⟨rfl, hn, rfl, wd_305⟩⟩
theorem pf_167 {nm : String} (hn : nm = "<init>") : sm_pf "QueryTables$Search" nm 45 9 3 := ⟨_, rfl, Nat.le_of_ble_eq_true rfl, Or.inr ⟨rfl, hn, rfl, wd_308⟩⟩
theorem pf_168 {nm : String} (hn : nm = "<init>") : sm_pf "QueryTables$Search" nm 49 9 4 := ⟨_, rfl, Nat.le_of_ble_eq_true rfl, Or.inr ⟨rfl, hn, rfl, wd_309⟩⟩
theorem pf_169 {nm : String} (hn : nm = "<init>") : sm_pf "QueryTables$Search" nm 52 9 5 := ⟨_, rfl, Nat.le_of_ble_eq_true rfl, Or.inr ⟨rfl, hn, rfl, wd_310⟩⟩
theorem pf_170 {nm : String} (hn : nm = "<init>") : sm_pf "QueryTables$Search" nm 55 9 6 := ⟨_, rfl, Nat.le_of_ble_eq_true rfl, Or.inr ⟨rfl, hn, rfl, wd_311⟩⟩
theorem pf_171 : ∃ q, sm_classes[9]? = some q ∧ 3 < q.2.2 ∧ sm_fl "QueryTables$Search" 45 q 3 := ⟨_, rfl, Nat.le_of_ble_eq_true rfl, Or.inl wd_308⟩
theorem pf_172 {nm : String}  : sm_pf "QueryTables$Search" nm 58 9 12 := ⟨_, rfl, Nat.le_of_ble_eq_true rfl, Or.inl ⟨rfl, Or.inl wd_312⟩⟩
theorem pf_173 : ∃ q, sm_classes[9]? = some q ∧ 6 < q.2.2 ∧ sm_fl "QueryTables$Search" 55 q 6 := ⟨_, rfl, Nat.le_of_ble_eq_true rfl, Or.inl wd_311⟩
theorem pf_174 {nm : String}  : sm_pf "QueryTables$Search" nm 61 9 13 := ⟨_, rfl, Nat.le_of_ble_eq_true rfl, Or.inl ⟨rfl, Or.inl wd_313⟩⟩
theorem pf_175 : ∃ q, sm_classes[9]? = some q ∧ 2 < q.2.2 ∧ sm_fl "QueryTables$Search" 36 q 2 := ⟨_, rfl, Nat.le_of_ble_eq_true rfl, Or.inl wd_305⟩
theorem pf_176 : ∃ q, sm_classes[9]? = some q ∧ 4 < q.2.2 ∧ sm_fl "QueryTables$Search" 49 q 4 := ⟨_, rfl, Nat.le_of_ble_eq_true rfl, Or.inl wd_309⟩
theorem pf_177 : ∃ q, sm_classes[9]? = some q ∧ 5 < q.2.2 ∧ sm_fl "QueryTables$Search" 52 q 5 := ⟨_, rfl, Nat.le_of_ble_eq_true rfl, Or.inl wd_310⟩
theorem pf_178 : ∃ q, sm_classes[9]? = some q ∧ 0 < q.2.2 ∧ sm_fl "QueryTables$Search" 28 q 0 := ⟨_, rfl, Nat.le_of_ble_eq_true rfl, Or.inl wd_303⟩
theorem pf_179 : ∃ q, sm_classes[4]? = some q ∧ 6 < q.2.2 ∧ sm_fl "QueryTables$Search" 86 q 6 := ⟨_, rfl, Nat.le_of_ble_eq_true rfl, Or.inr ⟨_, wd_319⟩⟩
theorem pf_180 : ∃ q, sm_classes[9]? = some q ∧ 12 < q.2.2 ∧ sm_fl "QueryTables$Search" 58 q 12 := ⟨_, rfl, Nat.le_of_ble_eq_true rfl, Or.inl wd_312⟩
theorem pf_181 : ∃ q, sm_classes[8]? = some q ∧ 4 < q.2.2 ∧ sm_fl "QueryTables$Search" 92 q 4 := ⟨_, rfl, Nat.le_of_ble_eq_true rfl, Or.inr ⟨_, wd_320⟩⟩
theorem pf_182 : ∃ q, sm_classes[9]? = some q ∧ 13 < q.2.2 ∧ sm_fl "QueryTables$Search" 61 q 13 := ⟨_, rfl, Nat.le_of_ble_eq_true rfl, Or.inl wd_313⟩
theorem pf_183 : ∃ q, sm_classes[8]? = some q ∧ 2 < q.2.2 ∧ sm_fl "QueryTables$Search" 95 q 2 := ⟨_, rfl, Nat.le_of_ble_eq_true rfl, Or.inr ⟨_, wd_321⟩⟩
theorem pf_184 {nm : String}  : sm_pf "QueryTables$Search" nm 98 9 14 := ⟨_, rfl, Nat.le_of_ble_eq_true rfl, Or.inl ⟨rfl, Or.inl wd_322⟩⟩
theorem pf_185 {nm : String}  : sm_pf "QueryTables$Search" nm 101 9 15 := ⟨_, rfl, Nat.le_of_ble_eq_true rfl, Or.inl ⟨rfl, Or.inl wd_323⟩⟩
theorem pf_186 : ∃ q, sm_classes[9]? = some q ∧ 7 < q.2.2 ∧ sm_fl "QueryTables$Search" 9 q 7 := ⟨_, rfl, Nat.le_of_ble_eq_true rfl, Or.inl wd_298⟩
theorem pf_187 : ∃ q, sm_classes[9]? = some q ∧ 8 < q.2.2 ∧ sm_fl "QueryTables$Search" 15 q 8 := ⟨_, rfl, Nat.le_of_ble_eq_true rfl, Or.inl wd_299⟩
theorem pf_188 : ∃ q, sm_classes[9]? = some q ∧ 1 < q.2.2 ∧ sm_fl "QueryTables$Search" 32 q 1 := ⟨_, rfl, Nat.le_of_ble_eq_true rfl, Or.inl wd_304⟩
theorem pf_189 : ∃ q, sm_classes[8]? = some q ∧ 6 < q.2.2 ∧ sm_fl "QueryTables$Search" 120 q 6 := ⟨_, rfl, Nat.le_of_ble_eq_true rfl, Or.inr ⟨_, wd_329⟩⟩
theorem pf_190 : ∃ q, sm_classes[8]? = some q ∧ 7 < q.2.2 ∧ sm_fl "QueryTables$Search" 123 q 7 := ⟨_, rfl, Nat.le_of_ble_eq_true rfl, Or.inr ⟨_, wd_330⟩⟩
theorem pf_191 : ∃ q, sm_classes[1]? = some q ∧ 3 < q.2.2 ∧ sm_fl "QueryTables$Search" 132 q 3 := ⟨_, rfl, Nat.le_of_ble_eq_true rfl, Or.inr ⟨_, wd_332⟩⟩
theorem pf_192 : ∃ q, sm_classes[8]? = some q ∧ 5 < q.2.2 ∧ sm_fl "QueryTables$Search" 137 q 5 := ⟨_, rfl, Nat.le_of_ble_eq_true rfl, Or.inr ⟨_, wd_333⟩⟩
theorem pf_193 : ∃ q, sm_classes[9]? = some q ∧ 14 < q.2.2 ∧ sm_fl "QueryTables$Search" 98 q 14 := ⟨_, rfl, Nat.le_of_ble_eq_true rfl, Or.inl wd_322⟩
theorem pf_194 : ∃ q, sm_classes[4]? = some q ∧ 16 < q.2.2 ∧ sm_fl "QueryTables$Search" 144 q 16 := ⟨_, rfl, Nat.le_of_ble_eq_true rfl, Or.inr ⟨_, wd_335⟩⟩
theorem pf_195 : ∃ q, sm_classes[4]? = some q ∧ 1 < q.2.2 ∧ sm_fl "QueryTables$Search" 147 q 1 := ⟨_, rfl, Nat.le_of_ble_eq_true rfl, Or.inr ⟨_, wd_336⟩⟩
theorem pf_196 : ∃ q, sm_classes[4]? = some q ∧ 3 < q.2.2 ∧ sm_fl "QueryTables$Search" 150 q 3 := ⟨_, rfl, Nat.le_of_ble_eq_true rfl, Or.inr ⟨_, wd_337⟩⟩
theorem pf_197 : ∃ q, sm_classes[4]? = some q ∧ 10 < q.2.2 ∧ sm_fl "QueryTables$Search" 161 q 10 := ⟨_, rfl, Nat.le_of_ble_eq_true rfl, Or.inr ⟨_, wd_341⟩⟩
theorem pf_198 : ∃ q, sm_classes[4]? = some q ∧ 11 < q.2.2 ∧ sm_fl "QueryTables$Search" 164 q 11 := ⟨_, rfl, Nat.le_of_ble_eq_true rfl, Or.inr ⟨_, wd_342⟩⟩
theorem pf_199 : ∃ q, sm_classes[9]? = some q ∧ 15 < q.2.2 ∧ sm_fl "QueryTables$Search" 101 q 15 := ⟨_, rfl, Nat.le_of_ble_eq_true rfl, Or.inl wd_323⟩
theorem pf_200 : ∃ q, sm_classes[4]? = some q ∧ 12 < q.2.2 ∧ sm_fl "QueryTables$Search" 170 q 12 := ⟨_, rfl, Nat.le_of_ble_eq_true rfl, Or.inr ⟨_, wd_344⟩⟩
theorem pf_201 : ∃ q, sm_classes[4]? = some q ∧ 13 < q.2.2 ∧ sm_fl "QueryTables$Search" 173 q 13 := ⟨_, rfl, Nat.le_of_ble_eq_true rfl, Or.inr ⟨_, wd_345⟩⟩
theorem pf_202 : ∃ q, sm_classes[4]? = some q ∧ 14 < q.2.2 ∧ sm_fl "QueryTables$Search" 190 q 14 := ⟨_, rfl, Nat.le_of_ble_eq_true rfl, Or.inr ⟨_, wd_350⟩⟩
theorem pf_203 : ∃ q, sm_classes[9]? = some q ∧ 9 < q.2.2 ∧ sm_fl "QueryTables$Search" 18 q 9 := ⟨_, rfl, Nat.le_of_ble_eq_true rfl, Or.inl wd_300⟩
theorem pf_204 : ∃ q, sm_classes[9]? = some q ∧ 10 < q.2.2 ∧ sm_fl "QueryTables$Search" 22 q 10 := ⟨_, rfl, Nat.le_of_ble_eq_true rfl, Or.inl wd_301⟩
theorem pf_205 : ∃ q, sm_classes[9]? = some q ∧ 11 < q.2.2 ∧ sm_fl "QueryTables$Search" 25 q 11 := ⟨_, rfl, Nat.le_of_ble_eq_true rfl, Or.inl wd_302⟩
theorem pf_206 {nm : String} (hn : nm = "<init>") : sm_pf "QueryTablesModel" nm 7 10 0 := ⟨_, rfl, Nat.le_of_ble_eq_true rfl, Or.inr ⟨rfl, hn, rfl, wd_353⟩⟩
theorem pf_207 {nm : String} (hn : nm = "<init>") : sm_pf "QueryTablesModel" nm 13 10 3 := ⟨_, rfl, Nat.le_of_ble_eq_true rfl, Or.inr ⟨rfl, hn, rfl, wd_354⟩⟩
theorem pf_208 {nm : String} (hn : nm = "<init>") : sm_pf "QueryTablesModel" nm 17 10 4 := ⟨_, rfl, Nat.le_of_ble_eq_true rfl, Or.inr ⟨rfl, hn, rfl, wd_355⟩⟩
theorem pf_209 {nm : String} (hn : nm = "<init>") : sm_pf "QueryTablesModel" nm 20 10 8 := ⟨_, rfl, Nat.le_of_ble_eq_true rfl, Or.inr ⟨rfl, hn, rfl, wd_356⟩⟩
theorem pf_210 {nm : String} (hn : nm = "<init>") : sm_pf "QueryTablesModel" nm 23 10 9 := ⟨_, rfl, Nat.le_of_ble_eq_true rfl, Or.inr ⟨rfl, hn, rfl, wd_357⟩⟩
theorem pf_211 {nm : String} (hn : nm = "<init>") : sm_pf "QueryTablesModel" nm 26 10 11 := ⟨_, rfl, Nat.le_of_ble_eq_true rfl, Or.inr ⟨rfl, hn, rfl, wd_358⟩⟩
theorem pf_212 {nm : String} (hn : nm = "<init>") : sm_pf "QueryTablesModel" nm 29 10 14 := ⟨_, rfl, Nat.le_of_ble_eq_true rfl, Or.inr ⟨rfl, hn, rfl, wd_359⟩⟩
theorem pf_213 {nm : String} (hn : nm = "<init>") : sm_pf "QueryTablesModel" nm 32 10 18 := ⟨_, rfl, Nat.le_of_ble_eq_true rfl, Or.inr ⟨rfl, hn, rfl, wd_360⟩⟩
theorem pf_214 {nm : String} (hn : nm = "<init>") : sm_pf "QueryTablesModel" nm 35 10 23 := ⟨_, rfl, Nat.le_of_ble_eq_true rfl, Or.inr ⟨rfl, hn, rfl, wd_361⟩⟩
theorem pf_215 {nm : String} (hn : nm = "<init>") : sm_pf "QueryTablesModel" nm 38 10 24 := ⟨_, rfl, Nat.le_of_ble_eq_true rfl, Or.inr ⟨rfl, hn, rfl, wd_362⟩⟩
theorem pf_216 {nm : String} (hn : nm = "<init>") : sm_pf "QueryTablesModel" nm 41 10 35 := ⟨_, rfl, Nat.le_of_ble_eq_true rfl, Or.inr ⟨rfl, hn, rfl, wd_363⟩⟩
theorem pf_217 {nm : String} (hn : nm = "<init>") : sm_pf "QueryTablesModel" nm 44 10 36 := ⟨_, rfl, Nat.le_of_ble_eq_true rfl, Or.inr ⟨rfl, hn, rfl, wd_364⟩⟩
theorem pf_218 {nm : String} (hn : nm = "<init>") : sm_pf "QueryTablesModel" nm 47 10 37 := ⟨_, rfl, Nat.le_of_ble_eq_true rfl, Or.inr ⟨rfl, hn, rfl, wd_365⟩⟩
theorem pf_219 {nm : String} (hn : nm = "<init>") : sm_pf "QueryTablesModel" nm 50 10 40 := ⟨_, rfl, Nat.le_of_ble_eq_true rfl, Or.inr ⟨rfl, hn, rfl, wd_366⟩⟩
theorem pf_220 {nm : String} (hn : nm = "<init>") : sm_pf "QueryTablesModel" nm 53 10 41 := ⟨_, rfl, Nat.le_of_ble_eq_true rfl, Or.inr ⟨rfl, hn, rfl, wd_367⟩⟩
theorem pf_221 {nm : String} (hn : nm = "<init>") : sm_pf "QueryTablesModel" nm 56 10 42 := ⟨_, rfl, Nat.le_of_ble_eq_true rfl, Or.inr ⟨rfl, hn, rfl, wd_368⟩⟩
theorem pf_222 {nm : String} (hn : nm = "<init>") : sm_pf "QueryTablesModel" nm 60 10 43 := ⟨_, rfl, Nat.le_of_ble_eq_true rfl, Or.inr ⟨rfl, hn, rfl, wd_369⟩⟩
theorem pf_223 {nm : String} (hn : nm = "<init>") : sm_pf "QueryTablesModel" nm 64 10 44 := ⟨_, rfl, Nat.le_of_ble_eq_true rfl, Or.inr ⟨rfl, hn, rfl, wd_370⟩⟩
theorem pf_224 {nm : String} (hn : nm = "<init>") : sm_pf "QueryTablesModel" nm 67 10 45 := ⟨_, rfl, Nat.le_of_ble_eq_true rfl, Or.inr ⟨rfl, hn, rfl, wd_371⟩⟩
theorem pf_225 {nm : String} (hn : nm = "<init>") : sm_pf "QueryTablesModel" nm 70 10 46 := ⟨_, rfl, Nat.le_of_ble_eq_true rfl, Or.inr ⟨rfl, hn, rfl, wd_372⟩⟩
theorem pf_226 {nm : String} (hn : nm = "<init>") : sm_pf "QueryTablesModel" nm 73 10 47 := ⟨_, rfl, Nat.le_of_ble_eq_true rfl, Or.inr ⟨rfl, hn, rfl, wd_373⟩⟩
theorem pf_227 {nm : String} (hn : nm = "<init>") : sm_pf "QueryTablesModel" nm 76 10 49 := ⟨_, rfl, Nat.le_of_ble_eq_true rfl, Or.inr ⟨rfl, hn, rfl, wd_374⟩⟩
theorem pf_228 {nm : String} (hn : nm = "<init>") : sm_pf "QueryTablesModel" nm 79 10 50 := ⟨_, rfl, Nat.le_of_ble_eq_true rfl, Or.inr ⟨rfl, hn, rfl, wd_375⟩⟩
theorem pf_229 {nm : String} (hn : nm = "<init>") : sm_pf "QueryTablesModel" nm 82 10 51 := ⟨_, rfl, Nat.le_of_ble_eq_true rfl, Or.inr ⟨rfl, hn, rfl, wd_376⟩⟩
theorem pf_230 {nm : String} (hn : nm = "<init>") : sm_pf "QueryTablesModel" nm 85 10 52 := ⟨_, rfl, Nat.le_of_ble_eq_true rfl, Or.inr ⟨rfl, hn, rfl, wd_377⟩⟩
theorem pf_231 {nm : String} (hn : nm = "<init>") : sm_pf "QueryTablesModel" nm 88 10 55 := ⟨_, rfl, Nat.le_of_ble_eq_true rfl, Or.inr ⟨rfl, hn, rfl, wd_378⟩⟩
theorem pf_232 : ∃ q, sm_classes[10]? = some q ∧ 1 < q.2.2 ∧ sm_fl "QueryTablesModel" 91 q 1 := ⟨_, rfl, Nat.le_of_ble_eq_true rfl, Or.inl wd_379⟩
theorem pf_233 : ∃ q, sm_classes[10]? = some q ∧ 0 < q.2.2 ∧ sm_fl "QueryTablesModel" 7 q 0 := ⟨_, rfl, Nat.le_of_ble_eq_true rfl, Or.inl wd_353⟩
theorem pf_234 {nm : String}  : sm_pf "QueryTablesModel" nm 91 10 1 := ⟨_, rfl, Nat.le_of_ble_eq_true rfl, Or.inl ⟨rfl, Or.inl wd_379⟩⟩
theorem pf_235 {nm : String}  : sm_pf "QueryTablesModel" nm 95 10 2 := ⟨_, rfl, Nat.le_of_ble_eq_true rfl, Or.inl ⟨rfl, Or.inl wd_380⟩⟩
theorem pf_236 : ∃ q, sm_classes[10]? = some q ∧ 6 < q.2.2 ∧ sm_fl "QueryTablesModel" 105 q 6 := ⟨_, rfl, Nat.le_of_ble_eq_true rfl, Or.inl wd_383⟩
theorem pf_237 {nm : String}  : sm_pf "QueryTablesModel" nm 105 10 6 := ⟨_, rfl, Nat.le_of_ble_eq_true rfl, Or.inl ⟨rfl, Or.inl wd_383⟩⟩
theorem pf_238 : ∃ q, sm_classes[10]? = some q ∧ 3 < q.2.2 ∧ sm_fl "QueryTablesModel" 13 q 3 := ⟨_, rfl, Nat.le_of_ble_eq_true rfl, Or.inl wd_354⟩
theorem pf_239 : ∃ q, sm_classes[10]? = some q ∧ 2 < q.2.2 ∧ sm_fl "QueryTablesModel" 95 q 2 := ⟨_, rfl, Nat.le_of_ble_eq_true rfl, Or.inl wd_380⟩
theorem pf_240 : ∃ q, sm_classes[10]? = some q ∧ 4 < q.2.2 ∧ sm_fl "QueryTablesModel" 17 q 4 := ⟨_, rfl, Nat.le_of_ble_eq_true rfl, Or.inl wd_355⟩
theorem pf_241 : ∃ q, sm_classes[10]? = some q ∧ 5 < q.2.2 ∧ sm_fl "QueryTablesModel" 112 q 5 := ⟨_, rfl, Nat.le_of_ble_eq_true rfl, Or.inl wd_385⟩
theorem pf_242 {nm : String}  : sm_pf "QueryTablesModel" nm 112 10 5 := ⟨_, rfl, Nat.le_of_ble_eq_true rfl, Or.inl ⟨rfl, Or.inl wd_385⟩⟩
theorem pf_243 : ∃ q, sm_classes[10]? = some q ∧ 8 < q.2.2 ∧ sm_fl "QueryTablesModel" 20 q 8 := ⟨_, rfl, Nat.le_of_ble_eq_true rfl, Or.inl wd_356⟩
theorem pf_244 : ∃ q, sm_classes[10]? = some q ∧ 7 < q.2.2 ∧ sm_fl "QueryTablesModel" 123 q 7 := ⟨_, rfl, Nat.le_of_ble_eq_true rfl, Or.inl wd_388⟩
theorem pf_245 : ∃ q, sm_classes[10]? = some q ∧ 9 < q.2.2 ∧ sm_fl "QueryTablesModel" 23 q 9 := ⟨_, rfl, Nat.le_of_ble_eq_true rfl, Or.inl wd_357⟩
theorem pf_246 {nm : String}  : sm_pf "QueryTablesModel" nm 123 10 7 := ⟨_, rfl, Nat.le_of_ble_eq_true rfl, Or.inl ⟨rfl, Or.inl wd_388⟩⟩
theorem pf_247 : ∃ q, sm_classes[10]? = some q ∧ 12 < q.2.2 ∧ sm_fl "QueryTablesModel" 126 q 12 := ⟨_, rfl, Nat.le_of_ble_eq_true rfl, Or.inl wd_389⟩
theorem pf_248 : ∃ q, sm_classes[10]? = some q ∧ 15 < q.2.2 ∧ sm_fl "QueryTablesModel" 129 q 15 := ⟨_, rfl, Nat.le_of_ble_eq_true rfl, Or.inl wd_390⟩
theorem pf_249 : ∃ q, sm_classes[10]? = some q ∧ 11 < q.2.2 ∧ sm_fl "QueryTablesModel" 26 q 11 := ⟨_, rfl, Nat.le_of_ble_eq_true rfl, Or.inl wd_358⟩
theorem pf_250 : ∃ q, sm_classes[10]? = some q ∧ 10 < q.2.2 ∧ sm_fl "QueryTablesModel" 132 q 10 := ⟨_, rfl, Nat.le_of_ble_eq_true rfl, Or.inl wd_391⟩
theorem pf_251 {nm : String}  : sm_pf "QueryTablesModel" nm 132 10 10 := ⟨_, rfl, Nat.le_of_ble_eq_true rfl, Or.inl ⟨rfl, Or.inl wd_391⟩⟩
theorem pf_252 {nm : String}  : sm_pf "QueryTablesModel" nm 126 10 12 := ⟨_, rfl, Nat.le_of_ble_eq_true rfl, Or.inl ⟨rfl, Or.inl wd_389⟩⟩
theorem pf_253 {nm : String}  : sm_pf "QueryTablesModel" nm 143 10 16 := ⟨_, rfl, Nat.le_of_ble_eq_true rfl, Or.inl ⟨rfl, Or.inl wd_394⟩⟩
theorem pf_254 : ∃ q, sm_classes[10]? = some q ∧ 16 < q.2.2 ∧ sm_fl "QueryTablesModel" 143 q 16 := ⟨_, rfl, Nat.le_of_ble_eq_true rfl, Or.inl wd_394⟩
theorem pf_255 : ∃ q, sm_classes[10]? = some q ∧ 13 < q.2.2 ∧ sm_fl "QueryTablesModel" 173 q 13 := ⟨_, rfl, Nat.le_of_ble_eq_true rfl, Or.inl wd_403⟩
theorem pf_256 {nm : String}  : sm_pf "QueryTablesModel" nm 173 10 13 := ⟨_, rfl, Nat.le_of_ble_eq_true rfl, Or.inl ⟨rfl, Or.inl wd_403⟩⟩
theorem pf_257 : ∃ q, sm_classes[10]? = some q ∧ 14 < q.2.2 ∧ sm_fl "QueryTablesModel" 29 q 14 := ⟨_, rfl, Nat.le_of_ble_eq_true rfl, Or.inl wd_359⟩
theorem pf_258 {nm : String}  : sm_pf "QueryTablesModel" nm 129 10 15 := ⟨_, rfl, Nat.le_of_ble_eq_true rfl, Or.inl ⟨rfl, Or.inl wd_390⟩⟩
theorem pf_259 : ∃ q, sm_classes[10]? = some q ∧ 35 < q.2.2 ∧ sm_fl "QueryTablesModel" 41 q 35 := ⟨_, rfl, Nat.le_of_ble_eq_true rfl, Or.inl wd_363⟩
theorem pf_260 : ∃ q, sm_classes[10]? = some q ∧ 33 < q.2.2 ∧ sm_fl "QueryTablesModel" 179 q 33 := ⟨_, rfl, Nat.le_of_ble_eq_true rfl, Or.inl wd_405⟩
theorem pf_261 : ∃ q, sm_classes[10]? = some q ∧ 38 < q.2.2 ∧ sm_fl "QueryTablesModel" 182 q 38 := ⟨_, rfl, Nat.le_of_ble_eq_true rfl, Or.inl wd_406⟩
theorem pf_262 : ∃ q, sm_classes[10]? = some q ∧ 36 < q.2.2 ∧ sm_fl "QueryTablesModel" 44 q 36 := ⟨_, rfl, Nat.le_of_ble_eq_true rfl, Or.inl wd_364⟩
theorem pf_263 : ∃ q, sm_classes[10]? = some q ∧ 37 < q.2.2 ∧ sm_fl "QueryTablesModel" 47 q 37 := ⟨_, rfl, Nat.le_of_ble_eq_true rfl, Or.inl wd_365⟩
theorem pf_264 : ∃ q, sm_classes[10]? = some q ∧ 39 < q.2.2 ∧ sm_fl "QueryTablesModel" 185 q 39 := ⟨_, rfl, Nat.le_of_ble_eq_true rfl, Or.inl wd_407⟩
theorem pf_265 {nm : String}  : sm_pf "QueryTablesModel" nm 179 10 33 := ⟨_, rfl, Nat.le_of_ble_eq_true rfl, Or.inl ⟨rfl, Or.inl wd_405⟩⟩
theorem pf_266 {nm : String}  : sm_pf "QueryTablesModel" nm 185 10 39 := ⟨_, rfl, Nat.le_of_ble_eq_true rfl, Or.inl ⟨rfl, Or.inl wd_407⟩⟩
theorem pf_267 : ∃ q, sm_classes[10]? = some q ∧ 34 < q.2.2 ∧ sm_fl "QueryTablesModel" 197 q 34 := ⟨_, rfl, Nat.le_of_ble_eq_true rfl, Or.inl wd_411⟩
theorem pf_268 {nm : String}  : sm_pf "QueryTablesModel" nm 197 10 34 := ⟨_, rfl, Nat.le_of_ble_eq_true rfl, Or.inl ⟨rfl, Or.inl wd_411⟩⟩
theorem pf_269 {nm : String}  : sm_pf "QueryTablesModel" nm 200 10 25 := ⟨_, rfl, Nat.le_of_ble_eq_true rfl, Or.inl ⟨rfl, Or.inl wd_412⟩⟩
theorem pf_270 {nm : String}  : sm_pf "QueryTablesModel" nm 203 10 26 := ⟨_, rfl, Nat.le_of_ble_eq_true rfl, Or.inl ⟨rfl, Or.inl wd_413⟩⟩
theorem pf_271 {nm : String}  : sm_pf "QueryTablesModel" nm 182 10 38 := ⟨_, rfl, Nat.le_of_ble_eq_true rfl, Or.inl ⟨rfl, Or.inl wd_406⟩⟩
theorem pf_272 {nm : String}  : sm_pf "QueryTablesModel" nm 212 10 27 := ⟨_, rfl, Nat.le_of_ble_eq_true rfl, Or.inl ⟨rfl, Or.inl wd_416⟩⟩
theorem pf_273 : ∃ q, sm_classes[10]? = some q ∧ 26 < q.2.2 ∧ sm_fl "QueryTablesModel" 203 q 26 := ⟨_, rfl, Nat.le_of_ble_eq_true rfl, Or.inl wd_413⟩
theorem pf_274 : ∃ q, sm_classes[10]? = some q ∧ 27 < q.2.2 ∧ sm_fl "QueryTablesModel" 212 q 27 := ⟨_, rfl, Nat.le_of_ble_eq_true rfl, Or.inl wd_416⟩
theorem pf_275 : ∃ q, sm_classes[10]? = some q ∧ 22 < q.2.2 ∧ sm_fl "QueryTablesModel" 215 q 22 := ⟨_, rfl, Nat.le_of_ble_eq_true rfl, Or.inl wd_417⟩
theorem pf_276 : ∃ q, sm_classes[10]? = some q ∧ 23 < q.2.2 ∧ sm_fl "QueryTablesModel" 35 q 23 := ⟨_, rfl, Nat.le_of_ble_eq_true rfl, Or.inl wd_361⟩
theorem pf_277 : ∃ q, sm_classes[10]? = some q ∧ 24 < q.2.2 ∧ sm_fl "QueryTablesModel" 38 q 24 := ⟨_, rfl, Nat.le_of_ble_eq_true rfl, Or.inl wd_362⟩
theorem pf_278 {nm : String}  : sm_pf "QueryTablesModel" nm 215 10 22 := ⟨_, rfl, Nat.le_of_ble_eq_true rfl, Or.inl ⟨rfl, Or.inl wd_417⟩⟩
theorem pf_279 : ∃ q, sm_classes[10]? = some q ∧ 18 < q.2.2 ∧ sm_fl "QueryTablesModel" 32 q 18 := ⟨_, rfl, Nat.le_of_ble_eq_true rfl, Or.inl wd_360⟩
theorem pf_280 : ∃ q, sm_classes[10]? = some q ∧ 19 < q.2.2 ∧ sm_fl "QueryTablesModel" 218 q 19 := ⟨_, rfl, Nat.le_of_ble_eq_true rfl, Or.inl wd_418⟩
theorem pf_281 {nm : String}  : sm_pf "QueryTablesModel" nm 218 10 19 := ⟨_, rfl, Nat.le_of_ble_eq_true rfl, Or.inl ⟨rfl, Or.inl wd_418⟩⟩
theorem pf_282 {nm : String}  : sm_pf "QueryTablesModel" nm 221 10 28 := ⟨_, rfl, Nat.le_of_ble_eq_true rfl, Or.inl ⟨rfl, Or.inl wd_419⟩⟩
theorem pf_283 {nm : String}  : sm_pf "QueryTablesModel" nm 224 10 29 := ⟨_, rfl, Nat.le_of_ble_eq_true rfl, Or.inl ⟨rfl, Or.inl wd_420⟩⟩
theorem pf_284 {nm : String}  : sm_pf "QueryTablesModel" nm 227 10 32 := ⟨_, rfl, Nat.le_of_ble_eq_true rfl, Or.inl ⟨rfl, Or.inl wd_421⟩⟩
theorem pf_285 {nm : String}  : sm_pf "QueryTablesModel" nm 230 10 20 := ⟨_, rfl, Nat.le_of_ble_eq_true rfl, Or.inl ⟨rfl, Or.inl wd_422⟩⟩
theorem pf_286 {nm : String}  : sm_pf "QueryTablesModel" nm 233 10 21 := ⟨_, rfl, Nat.le_of_ble_eq_true rfl, Or.inl ⟨rfl, Or.inl wd_423⟩⟩
theorem pf_287 {nm : String}  : sm_pf "QueryTablesModel" nm 236 10 53 := ⟨_, rfl, Nat.le_of_ble_eq_true rfl, Or.inl ⟨rfl, Or.inl wd_424⟩⟩
theorem pf_288 {nm : String}  : sm_pf "QueryTablesModel" nm 239 10 54 := ⟨_, rfl, Nat.le_of_ble_eq_true rfl, Or.inl ⟨rfl, Or.inl wd_425⟩⟩
theorem pf_289 {nm : String}  : sm_pf "QueryTablesModel" nm 242 10 56 := ⟨_, rfl, Nat.le_of_ble_eq_true rfl, Or.inl ⟨rfl, Or.inl wd_426⟩⟩
theorem pf_290 {nm : String}  : sm_pf "QueryTablesModel" nm 245 10 57 := ⟨_, rfl, Nat.le_of_ble_eq_true rfl, Or.inl ⟨rfl, Or.inl wd_427⟩⟩
theorem pf_291 {nm : String}  : sm_pf "QueryTablesModel" nm 251 10 17 := ⟨_, rfl, Nat.le_of_ble_eq_true rfl, Or.inl ⟨rfl, Or.inl wd_429⟩⟩
theorem pf_292 : ∃ q, sm_classes[10]? = some q ∧ 17 < q.2.2 ∧ sm_fl "QueryTablesModel" 251 q 17 := ⟨_, rfl, Nat.le_of_ble_eq_true rfl, Or.inl wd_429⟩
theorem pf_293 {nm : String}  : sm_pf "QueryTablesModel" nm 266 10 30 := ⟨_, rfl, Nat.le_of_ble_eq_true rfl, Or.inl ⟨rfl, Or.inl wd_434⟩⟩
theorem pf_294 {nm : String}  : sm_pf "QueryTablesModel" nm 269 10 31 := ⟨_, rfl, Nat.le_of_ble_eq_true rfl, Or.inl ⟨rfl, Or.inl wd_435⟩⟩
theorem pf_295 : ∃ q, sm_classes[10]? = some q ∧ 40 < q.2.2 ∧ sm_fl "QueryTablesModel" 50 q 40 := ⟨_, rfl, Nat.le_of_ble_eq_true rfl, Or.inl wd_366⟩
theorem pf_296 : ∃ q, sm_classes[10]? = some q ∧ 20 < q.2.2 ∧ sm_fl "QueryTablesModel" 230 q 20 := ⟨_, rfl, Nat.le_of_ble_eq_true rfl, Or.inl wd_422⟩
theorem pf_297 : ∃ q, sm_classes[10]? = some q ∧ 43 < q.2.2 ∧ sm_fl "QueryTablesModel" 60 q 43 := ⟨_, rfl, Nat.le_of_ble_eq_true rfl, Or.inl wd_369⟩
theorem pf_298 : ∃ q, sm_classes[10]? = some q ∧ 21 < q.2.2 ∧ sm_fl "QueryTablesModel" 233 q 21 := ⟨_, rfl, Nat.le_of_ble_eq_true rfl, Or.inl wd_423⟩
theorem pf_299 : ∃ q, sm_classes[10]? = some q ∧ 45 < q.2.2 ∧ sm_fl "QueryTablesModel" 67 q 45 := ⟨_, rfl, Nat.le_of_ble_eq_true rfl, Or.inl wd_371⟩
theorem pf_300 : ∃ q, sm_classes[10]? = some q ∧ 42 < q.2.2 ∧ sm_fl "QueryTablesModel" 56 q 42 := ⟨_, rfl, Nat.le_of_ble_eq_true rfl, Or.inl wd_368⟩
theorem pf_301 : ∃ q, sm_classes[10]? = some q ∧ 44 < q.2.2 ∧ sm_fl "QueryTablesModel" 64 q 44 := ⟨_, rfl, Nat.le_of_ble_eq_true rfl, Or.inl wd_370⟩
theorem pf_302 : ∃ q, sm_classes[10]? = some q ∧ 25 < q.2.2 ∧ sm_fl "QueryTablesModel" 200 q 25 := ⟨_, rfl, Nat.le_of_ble_eq_true rfl, Or.inl wd_412⟩
theorem pf_303 {nm : String}  : sm_pf "QueryTablesModel" nm 331 10 58 := ⟨_, rfl, Nat.le_of_ble_eq_true rfl, Or.inl ⟨rfl, Or.inl wd_454⟩⟩
theorem pf_304 : ∃ q, sm_classes[10]? = some q ∧ 58 < q.2.2 ∧ sm_fl "QueryTablesModel" 331 q 58 := ⟨_, rfl, Nat.le_of_ble_eq_true rfl, Or.inl wd_454⟩
theorem pf_305 : ∃ q, sm_classes[10]? = some q ∧ 41 < q.2.2 ∧ sm_fl "QueryTablesModel" 53 q 41 := ⟨_, rfl, Nat.le_of_ble_eq_true rfl, Or.inl wd_367⟩
theorem pf_306 : ∃ q, sm_classes[10]? = some q ∧ 57 < q.2.2 ∧ sm_fl "QueryTablesModel" 245 q 57 := ⟨_, rfl, Nat.le_of_ble_eq_true rfl, Or.inl wd_427⟩
theorem pf_307 : ∃ q, sm_classes[10]? = some q ∧ 56 < q.2.2 ∧ sm_fl "QueryTablesModel" 242 q 56 := ⟨_, rfl, Nat.le_of_ble_eq_true rfl, Or.inl wd_426⟩
theorem pf_308 : ∃ q, sm_classes[10]? = some q ∧ 46 < q.2.2 ∧ sm_fl "QueryTablesModel" 70 q 46 := ⟨_, rfl, Nat.le_of_ble_eq_true rfl, Or.inl wd_372⟩
theorem pf_309 : ∃ q, sm_classes[10]? = some q ∧ 47 < q.2.2 ∧ sm_fl "QueryTablesModel" 73 q 47 := ⟨_, rfl, Nat.le_of_ble_eq_true rfl, Or.inl wd_373⟩
theorem pf_310 : ∃ q, sm_classes[10]? = some q ∧ 53 < q.2.2 ∧ sm_fl "QueryTablesModel" 236 q 53 := ⟨_, rfl, Nat.le_of_ble_eq_true rfl, Or.inl wd_424⟩
theorem pf_311 {nm : String}  : sm_pf "QueryTablesModel" nm 350 10 48 := ⟨_, rfl, Nat.le_of_ble_eq_true rfl, Or.inl ⟨rfl, Or.inl wd_460⟩⟩
theorem pf_312 : ∃ q, sm_classes[10]? = some q ∧ 48 < q.2.2 ∧ sm_fl "QueryTablesModel" 350 q 48 := ⟨_, rfl, Nat.le_of_ble_eq_true rfl, Or.inl wd_460⟩
theorem pf_313 : ∃ q, sm_classes[10]? = some q ∧ 49 < q.2.2 ∧ sm_fl "QueryTablesModel" 76 q 49 := ⟨_, rfl, Nat.le_of_ble_eq_true rfl, Or.inl wd_374⟩
theorem pf_314 : ∃ q, sm_classes[10]? = some q ∧ 50 < q.2.2 ∧ sm_fl "QueryTablesModel" 79 q 50 := ⟨_, rfl, Nat.le_of_ble_eq_true rfl, Or.inl wd_375⟩
theorem pf_315 : ∃ q, sm_classes[10]? = some q ∧ 51 < q.2.2 ∧ sm_fl "QueryTablesModel" 82 q 51 := ⟨_, rfl, Nat.le_of_ble_eq_true rfl, Or.inl wd_376⟩
theorem pf_316 : ∃ q, sm_classes[10]? = some q ∧ 28 < q.2.2 ∧ sm_fl "QueryTablesModel" 221 q 28 := ⟨_, rfl, Nat.le_of_ble_eq_true rfl, Or.inl wd_419⟩
theorem pf_317 : ∃ q, sm_classes[10]? = some q ∧ 30 < q.2.2 ∧ sm_fl "QueryTablesModel" 266 q 30 := ⟨_, rfl, Nat.le_of_ble_eq_true rfl, Or.inl wd_434⟩
theorem pf_318 : ∃ q, sm_classes[10]? = some q ∧ 31 < q.2.2 ∧ sm_fl "QueryTablesModel" 269 q 31 := ⟨_, rfl, Nat.le_of_ble_eq_true rfl, Or.inl wd_435⟩
theorem pf_319 : ∃ q, sm_classes[10]? = some q ∧ 52 < q.2.2 ∧ sm_fl "QueryTablesModel" 85 q 52 := ⟨_, rfl, Nat.le_of_ble_eq_true rfl, Or.inl wd_377⟩
theorem pf_320 : ∃ q, sm_classes[10]? = some q ∧ 32 < q.2.2 ∧ sm_fl "QueryTablesModel" 227 q 32 := ⟨_, rfl, Nat.le_of_ble_eq_true rfl, Or.inl wd_421⟩
theorem pf_321 : ∃ q, sm_classes[10]? = some q ∧ 55 < q.2.2 ∧ sm_fl "QueryTablesModel" 88 q 55 := ⟨_, rfl, Nat.le_of_ble_eq_true rfl, Or.inl wd_378⟩
theorem pf_322 : ∃ q, sm_classes[10]? = some q ∧ 29 < q.2.2 ∧ sm_fl "QueryTablesModel" 224 q 29 := ⟨_, rfl, Nat.le_of_ble_eq_true rfl, Or.inl wd_420⟩
theorem pf_323 : ∃ q, sm_classes[10]? = some q ∧ 54 < q.2.2 ∧ sm_fl "QueryTablesModel" 239 q 54 := ⟨_, rfl, Nat.le_of_ble_eq_true rfl, Or.inl wd_425⟩
theorem uw_0 : ∀ k, k < 15 → u_lay "QueryTables" Tc_0 k ∈ sm_tbl
  | 0, _ => wd_994
  | 1, _ => wd_995
  | 2, _ => wd_996
  | 3, _ => wd_997
  | 4, _ => wd_998
  | 5, _ => wd_999
  | 6, _ => wd_1000
  | 7, _ => wd_1001
  | 8, _ => wd_1002
  | 9, _ => wd_1003
  | 10, _ => wd_1004
  | 11, _ => wd_1005
  | 12, _ => wd_1006
  | 13, _ => wd_1007
  | 14, _ => wd_1008
  | k + 15, h => absurd h (by omega)
theorem ck_0 : sm_cok 0 ("QueryTables", Tc_0, 15) := ⟨sm_uw uw_0, by decide +kernel, by decide +kernel, wd_1009, wd_484, _, rfl, rfl, by decide +kernel, by decide +kernel⟩
theorem uw_1 : ∀ k, k < 4 → u_lay "QueryTables$Table" Tc_1 k ∈ sm_tbl
  | 0, _ => wd_1010
  | 1, _ => wd_1011
  | 2, _ => wd_1012
  | 3, _ => wd_1013
  | k + 4, h => absurd h (by omega)
theorem ck_1 : sm_cok 1 ("QueryTables$Table", Tc_1, 4) := ⟨sm_uw uw_1, by decide +kernel, by decide +kernel, wd_1014, wd_547, _, rfl, rfl, by decide +kernel, by decide +kernel⟩
theorem uw_2 : ∀ k, k < 3 → u_lay "QueryTables$Pair" Tc_2 k ∈ sm_tbl
  | 0, _ => wd_1015
  | 1, _ => wd_1016
  | 2, _ => wd_1017
  | k + 3, h => absurd h (by omega)
theorem ck_2 : sm_cok 2 ("QueryTables$Pair", Tc_2, 3) := ⟨sm_uw uw_2, by decide +kernel, by decide +kernel, wd_1018, wd_587, _, rfl, rfl, by decide +kernel, by decide +kernel⟩
theorem uw_3 : ∀ k, k < 6 → u_lay "QueryTables$Code" Tc_3 k ∈ sm_tbl
  | 0, _ => wd_1019
  | 1, _ => wd_1020
  | 2, _ => wd_1021
  | 3, _ => wd_1022
  | 4, _ => wd_1023
  | 5, _ => wd_1024
  | k + 6, h => absurd h (by omega)
theorem ck_3 : sm_cok 3 ("QueryTables$Code", Tc_3, 6) := ⟨sm_uw uw_3, by decide +kernel, by decide +kernel, wd_1025, wd_602, _, rfl, rfl, by decide +kernel, by decide +kernel⟩
theorem uw_4 : ∀ k, k < 17 → u_lay "QueryTables$Statement" Tc_4 k ∈ sm_tbl
  | 0, _ => wd_1026
  | 1, _ => wd_1027
  | 2, _ => wd_1028
  | 3, _ => wd_1029
  | 4, _ => wd_1030
  | 5, _ => wd_1031
  | 6, _ => wd_1032
  | 7, _ => wd_1033
  | 8, _ => wd_1034
  | 9, _ => wd_1035
  | 10, _ => wd_1036
  | 11, _ => wd_1037
  | 12, _ => wd_1038
  | 13, _ => wd_1039
  | 14, _ => wd_1040
  | 15, _ => wd_1041
  | 16, _ => wd_1042
  | k + 17, h => absurd h (by omega)
theorem ck_4 : sm_cok 4 ("QueryTables$Statement", Tc_4, 17) := ⟨sm_uw uw_4, by decide +kernel, by decide +kernel, wd_1043, wd_638, _, rfl, rfl, by decide +kernel, by decide +kernel⟩
theorem uw_5 : ∀ k, k < 4 → u_lay "QueryTables$Tokens" Tc_5 k ∈ sm_tbl
  | 0, _ => wd_1044
  | 1, _ => wd_1045
  | 2, _ => wd_1046
  | 3, _ => wd_1047
  | k + 4, h => absurd h (by omega)
theorem ck_5 : sm_cok 5 ("QueryTables$Tokens", Tc_5, 4) := ⟨sm_uw uw_5, by decide +kernel, by decide +kernel, wd_1048, wd_668, _, rfl, rfl, by decide +kernel, by decide +kernel⟩
theorem uw_6 : ∀ k, k < 4 → u_lay "QueryTables$Parser" Tc_6 k ∈ sm_tbl
  | 0, _ => wd_1049
  | 1, _ => wd_1050
  | 2, _ => wd_1051
  | 3, _ => wd_1052
  | k + 4, h => absurd h (by omega)
theorem ck_6 : sm_cok 6 ("QueryTables$Parser", Tc_6, 4) := ⟨sm_uw uw_6, by decide +kernel, by decide +kernel, wd_1053, wd_703, _, rfl, rfl, by decide +kernel, by decide +kernel⟩
theorem uw_7 : ∀ k, k < 3 → u_lay "QueryTables$Checker" Tc_7 k ∈ sm_tbl
  | 0, _ => wd_1054
  | 1, _ => wd_1055
  | 2, _ => wd_1056
  | k + 3, h => absurd h (by omega)
theorem ck_7 : sm_cok 7 ("QueryTables$Checker", Tc_7, 3) := ⟨sm_uw uw_7, by decide +kernel, by decide +kernel, wd_1057, wd_751, _, rfl, rfl, by decide +kernel, by decide +kernel⟩
theorem uw_8 : ∀ k, k < 8 → u_lay "QueryTables$Access" Tc_8 k ∈ sm_tbl
  | 0, _ => wd_1058
  | 1, _ => wd_1059
  | 2, _ => wd_1060
  | 3, _ => wd_1061
  | 4, _ => wd_1062
  | 5, _ => wd_1063
  | 6, _ => wd_1064
  | 7, _ => wd_1065
  | k + 8, h => absurd h (by omega)
theorem ck_8 : sm_cok 8 ("QueryTables$Access", Tc_8, 8) := ⟨sm_uw uw_8, by decide +kernel, by decide +kernel, wd_1066, wd_769, _, rfl, rfl, by decide +kernel, by decide +kernel⟩
theorem uw_9 : ∀ k, k < 16 → u_lay "QueryTables$Search" Tc_9 k ∈ sm_tbl
  | 0, _ => wd_1067
  | 1, _ => wd_1068
  | 2, _ => wd_1069
  | 3, _ => wd_1070
  | 4, _ => wd_1071
  | 5, _ => wd_1072
  | 6, _ => wd_1073
  | 7, _ => wd_1074
  | 8, _ => wd_1075
  | 9, _ => wd_1076
  | 10, _ => wd_1077
  | 11, _ => wd_1078
  | 12, _ => wd_1079
  | 13, _ => wd_1080
  | 14, _ => wd_1081
  | 15, _ => wd_1082
  | k + 16, h => absurd h (by omega)
theorem ck_9 : sm_cok 9 ("QueryTables$Search", Tc_9, 16) := ⟨sm_uw uw_9, by decide +kernel, by decide +kernel, wd_1083, wd_782, _, rfl, rfl, by decide +kernel, by decide +kernel⟩
theorem uw_10 : ∀ k, k < 59 → u_lay "QueryTablesModel" Tc_10 k ∈ sm_tbl
  | 0, _ => wd_1084
  | 1, _ => wd_1085
  | 2, _ => wd_1086
  | 3, _ => wd_1087
  | 4, _ => wd_1088
  | 5, _ => wd_1089
  | 6, _ => wd_1090
  | 7, _ => wd_1091
  | 8, _ => wd_1092
  | 9, _ => wd_1093
  | 10, _ => wd_1094
  | 11, _ => wd_1095
  | 12, _ => wd_1096
  | 13, _ => wd_1097
  | 14, _ => wd_1098
  | 15, _ => wd_1099
  | 16, _ => wd_1100
  | 17, _ => wd_1101
  | 18, _ => wd_1102
  | 19, _ => wd_1103
  | 20, _ => wd_1104
  | 21, _ => wd_1105
  | 22, _ => wd_1106
  | 23, _ => wd_1107
  | 24, _ => wd_1108
  | 25, _ => wd_1109
  | 26, _ => wd_1110
  | 27, _ => wd_1111
  | 28, _ => wd_1112
  | 29, _ => wd_1113
  | 30, _ => wd_1114
  | 31, _ => wd_1115
  | 32, _ => wd_1116
  | 33, _ => wd_1117
  | 34, _ => wd_1118
  | 35, _ => wd_1119
  | 36, _ => wd_1120
  | 37, _ => wd_1121
  | 38, _ => wd_1122
  | 39, _ => wd_1123
  | 40, _ => wd_1124
  | 41, _ => wd_1125
  | 42, _ => wd_1126
  | 43, _ => wd_1127
  | 44, _ => wd_1128
  | 45, _ => wd_1129
  | 46, _ => wd_1130
  | 47, _ => wd_1131
  | 48, _ => wd_1132
  | 49, _ => wd_1133
  | 50, _ => wd_1134
  | 51, _ => wd_1135
  | 52, _ => wd_1136
  | 53, _ => wd_1137
  | 54, _ => wd_1138
  | 55, _ => wd_1139
  | 56, _ => wd_1140
  | 57, _ => wd_1141
  | 58, _ => wd_1142
  | k + 59, h => absurd h (by omega)
theorem ck_10 : sm_cok 10 ("QueryTablesModel", Tc_10, 59) := ⟨sm_uw uw_10, by decide +kernel, by decide +kernel, wd_1143, wd_813, _, rfl, rfl, by decide +kernel, by decide +kernel⟩
theorem sm_cls : ∀ (ci : Nat) (q : vw_C), sm_classes[ci]? = some q → sm_cok ci q
  | 0, _, h => Option.some.inj h ▸ ck_0
  | 1, _, h => Option.some.inj h ▸ ck_1
  | 2, _, h => Option.some.inj h ▸ ck_2
  | 3, _, h => Option.some.inj h ▸ ck_3
  | 4, _, h => Option.some.inj h ▸ ck_4
  | 5, _, h => Option.some.inj h ▸ ck_5
  | 6, _, h => Option.some.inj h ▸ ck_6
  | 7, _, h => Option.some.inj h ▸ ck_7
  | 8, _, h => Option.some.inj h ▸ ck_8
  | 9, _, h => Option.some.inj h ▸ ck_9
  | 10, _, h => Option.some.inj h ▸ ck_10
  | ci + 11, _, h => sm_n0 h (by show 11 ≤ ci + 11; omega)
theorem sm_aI : Cond.arrayClass .int ∈ sm_tbl := wd_133
theorem sm_aL : Cond.arrayClass .long ∈ sm_tbl := wd_60
theorem sm_aC : Cond.arrayClass .char ∈ sm_tbl := wd_36
theorem sm_aZ : Cond.arrayClass .boolean ∈ sm_tbl := wd_120
theorem sm_aT : Cond.arrayOver (.object sm_cT) ∈ sm_tbl := wd_39
