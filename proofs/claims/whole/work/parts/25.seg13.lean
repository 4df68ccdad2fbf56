/-! SEGMENTS of the methods 186 to 197 (by program, wip/whole/gen25.py): what must hold of a way from one place to the next -/
/-! 186: QueryTablesModel.before -/
set_option maxRecDepth 20000 in
theorem sp_186 {d : Nat} {m : Mm} {K : Option Value → Mm → Prop} (x1 : Int32) (x2 : Int32) (x3 : Int32) (x4 : Int32) (k : ok (m.B 66).length x1 ∧ (if (lg_cmp ((m.B 66).getD (ix x1) 0) 1099511627776) = (nI 0) then ok (m.B 66).length x2 ∧ (if (lg_cmp ((m.B 66).getD (ix x2) 0) 1099511627776) = (nI 0) then (if (lg_cmp (-1099511627776) (-1099511627776)) = (nI 0) then ok (m.A 64).length x1 ∧ ok (m.B 58).length (((nI 80) * x3) + ((nI 4) * ((m.A 64).getD (ix x1) 0))) ∧ ok (m.A 64).length x2 ∧ ok (m.B 58).length (((nI 80) * x3) + ((nI 4) * ((m.A 64).getD (ix x2) 0))) ∧ (if (lg_cmp ((m.B 58).getD (ix (((nI 80) * x3) + ((nI 4) * ((m.A 64).getD (ix x1) 0)))) 0) ((m.B 58).getD (ix (((nI 80) * x3) + ((nI 4) * ((m.A 64).getD (ix x2) 0)))) 0)) = (nI 0) then (if (nI 0) ≤ x4 then ok (m.A 65).length x1 ∧ ok (m.B 58).length (((nI 80) * x4) + ((nI 4) * ((m.A 65).getD (ix x1) 0))) ∧ ok (m.A 65).length x2 ∧ ok (m.B 58).length (((nI 80) * x4) + ((nI 4) * ((m.A 65).getD (ix x2) 0))) ∧ (if (nI 0) ≤ (lg_cmp ((m.B 58).getD (ix (((nI 80) * x4) + ((nI 4) * ((m.A 65).getD (ix x1) 0)))) 0) ((m.B 58).getD (ix (((nI 80) * x4) + ((nI 4) * ((m.A 65).getD (ix x2) 0)))) 0)) then K (some (.int (nI 0))) m else K (some (.int (nI 1))) m) else WH d 186 152 [(9, .long ((m.B 58).getD (ix (((nI 80) * x3) + ((nI 4) * ((m.A 64).getD (ix x1) 0)))) 0)), (11, .long ((m.B 58).getD (ix (((nI 80) * x3) + ((nI 4) * ((m.A 64).getD (ix x2) 0)))) 0))] [] m K) else WH d 186 152 [(9, .long ((m.B 58).getD (ix (((nI 80) * x3) + ((nI 4) * ((m.A 64).getD (ix x1) 0)))) 0)), (11, .long ((m.B 58).getD (ix (((nI 80) * x3) + ((nI 4) * ((m.A 64).getD (ix x2) 0)))) 0))] [] m K) else (if (m.F 42 29) = (nI 0) then (if (nI 0) ≤ (lg_cmp (-1099511627776) (-1099511627776)) then K (some (.int (nI 0))) m else K (some (.int (nI 1))) m) else (if (lg_cmp (-1099511627776) (-1099511627776)) ≤ (nI 0) then K (some (.int (nI 0))) m else K (some (.int (nI 1))) m))) else ok (m.B 66).length x2 ∧ (if (lg_cmp (-1099511627776) ((m.B 66).getD (ix x2) 0)) = (nI 0) then ok (m.A 64).length x1 ∧ ok (m.B 58).length (((nI 80) * x3) + ((nI 4) * ((m.A 64).getD (ix x1) 0))) ∧ ok (m.A 64).length x2 ∧ ok (m.B 58).length (((nI 80) * x3) + ((nI 4) * ((m.A 64).getD (ix x2) 0))) ∧ (if (lg_cmp ((m.B 58).getD (ix (((nI 80) * x3) + ((nI 4) * ((m.A 64).getD (ix x1) 0)))) 0) ((m.B 58).getD (ix (((nI 80) * x3) + ((nI 4) * ((m.A 64).getD (ix x2) 0)))) 0)) = (nI 0) then (if (nI 0) ≤ x4 then ok (m.A 65).length x1 ∧ ok (m.B 58).length (((nI 80) * x4) + ((nI 4) * ((m.A 65).getD (ix x1) 0))) ∧ ok (m.A 65).length x2 ∧ ok (m.B 58).length (((nI 80) * x4) + ((nI 4) * ((m.A 65).getD (ix x2) 0))) ∧ (if (nI 0) ≤ (lg_cmp ((m.B 58).getD (ix (((nI 80) * x4) + ((nI 4) * ((m.A 65).getD (ix x1) 0)))) 0) ((m.B 58).getD (ix (((nI 80) * x4) + ((nI 4) * ((m.A 65).getD (ix x2) 0)))) 0)) then K (some (.int (nI 0))) m else K (some (.int (nI 1))) m) else WH d 186 152 [(9, .long ((m.B 58).getD (ix (((nI 80) * x3) + ((nI 4) * ((m.A 64).getD (ix x1) 0)))) 0)), (11, .long ((m.B 58).getD (ix (((nI 80) * x3) + ((nI 4) * ((m.A 64).getD (ix x2) 0)))) 0))] [] m K) else WH d 186 152 [(9, .long ((m.B 58).getD (ix (((nI 80) * x3) + ((nI 4) * ((m.A 64).getD (ix x1) 0)))) 0)), (11, .long ((m.B 58).getD (ix (((nI 80) * x3) + ((nI 4) * ((m.A 64).getD (ix x2) 0)))) 0))] [] m K) else (if (m.F 42 29) = (nI 0) then (if (nI 0) ≤ (lg_cmp (-1099511627776) ((m.B 66).getD (ix x2) 0)) then K (some (.int (nI 0))) m else K (some (.int (nI 1))) m) else (if (lg_cmp (-1099511627776) ((m.B 66).getD (ix x2) 0)) ≤ (nI 0) then K (some (.int (nI 0))) m else K (some (.int (nI 1))) m)))) else ok (m.B 66).length x1 ∧ ok (m.B 66).length x2 ∧ (if (lg_cmp ((m.B 66).getD (ix x2) 0) 1099511627776) = (nI 0) then (if (lg_cmp ((m.B 66).getD (ix x1) 0) (-1099511627776)) = (nI 0) then ok (m.A 64).length x1 ∧ ok (m.B 58).length (((nI 80) * x3) + ((nI 4) * ((m.A 64).getD (ix x1) 0))) ∧ ok (m.A 64).length x2 ∧ ok (m.B 58).length (((nI 80) * x3) + ((nI 4) * ((m.A 64).getD (ix x2) 0))) ∧ (if (lg_cmp ((m.B 58).getD (ix (((nI 80) * x3) + ((nI 4) * ((m.A 64).getD (ix x1) 0)))) 0) ((m.B 58).getD (ix (((nI 80) * x3) + ((nI 4) * ((m.A 64).getD (ix x2) 0)))) 0)) = (nI 0) then (if (nI 0) ≤ x4 then ok (m.A 65).length x1 ∧ ok (m.B 58).length (((nI 80) * x4) + ((nI 4) * ((m.A 65).getD (ix x1) 0))) ∧ ok (m.A 65).length x2 ∧ ok (m.B 58).length (((nI 80) * x4) + ((nI 4) * ((m.A 65).getD (ix x2) 0))) ∧ (if (nI 0) ≤ (lg_cmp ((m.B 58).getD (ix (((nI 80) * x4) + ((nI 4) * ((m.A 65).getD (ix x1) 0)))) 0) ((m.B 58).getD (ix (((nI 80) * x4) + ((nI 4) * ((m.A 65).getD (ix x2) 0)))) 0)) then K (some (.int (nI 0))) m else K (some (.int (nI 1))) m) else WH d 186 152 [(9, .long ((m.B 58).getD (ix (((nI 80) * x3) + ((nI 4) * ((m.A 64).getD (ix x1) 0)))) 0)), (11, .long ((m.B 58).getD (ix (((nI 80) * x3) + ((nI 4) * ((m.A 64).getD (ix x2) 0)))) 0))] [] m K) else WH d 186 152 [(9, .long ((m.B 58).getD (ix (((nI 80) * x3) + ((nI 4) * ((m.A 64).getD (ix x1) 0)))) 0)), (11, .long ((m.B 58).getD (ix (((nI 80) * x3) + ((nI 4) * ((m.A 64).getD (ix x2) 0)))) 0))] [] m K) else (if (m.F 42 29) = (nI 0) then (if (nI 0) ≤ (lg_cmp ((m.B 66).getD (ix x1) 0) (-1099511627776)) then K (some (.int (nI 0))) m else K (some (.int (nI 1))) m) else (if (lg_cmp ((m.B 66).getD (ix x1) 0) (-1099511627776)) ≤ (nI 0) then K (some (.int (nI 0))) m else K (some (.int (nI 1))) m))) else ok (m.B 66).length x2 ∧ (if (lg_cmp ((m.B 66).getD (ix x1) 0) ((m.B 66).getD (ix x2) 0)) = (nI 0) then ok (m.A 64).length x1 ∧ ok (m.B 58).length (((nI 80) * x3) + ((nI 4) * ((m.A 64).getD (ix x1) 0))) ∧ ok (m.A 64).length x2 ∧ ok (m.B 58).length (((nI 80) * x3) + ((nI 4) * ((m.A 64).getD (ix x2) 0))) ∧ (if (lg_cmp ((m.B 58).getD (ix (((nI 80) * x3) + ((nI 4) * ((m.A 64).getD (ix x1) 0)))) 0) ((m.B 58).getD (ix (((nI 80) * x3) + ((nI 4) * ((m.A 64).getD (ix x2) 0)))) 0)) = (nI 0) then (if (nI 0) ≤ x4 then ok (m.A 65).length x1 ∧ ok (m.B 58).length (((nI 80) * x4) + ((nI 4) * ((m.A 65).getD (ix x1) 0))) ∧ ok (m.A 65).length x2 ∧ ok (m.B 58).length (((nI 80) * x4) + ((nI 4) * ((m.A 65).getD (ix x2) 0))) ∧ (if (nI 0) ≤ (lg_cmp ((m.B 58).getD (ix (((nI 80) * x4) + ((nI 4) * ((m.A 65).getD (ix x1) 0)))) 0) ((m.B 58).getD (ix (((nI 80) * x4) + ((nI 4) * ((m.A 65).getD (ix x2) 0)))) 0)) then K (some (.int (nI 0))) m else K (some (.int (nI 1))) m) else WH d 186 152 [(9, .long ((m.B 58).getD (ix (((nI 80) * x3) + ((nI 4) * ((m.A 64).getD (ix x1) 0)))) 0)), (11, .long ((m.B 58).getD (ix (((nI 80) * x3) + ((nI 4) * ((m.A 64).getD (ix x2) 0)))) 0))] [] m K) else WH d 186 152 [(9, .long ((m.B 58).getD (ix (((nI 80) * x3) + ((nI 4) * ((m.A 64).getD (ix x1) 0)))) 0)), (11, .long ((m.B 58).getD (ix (((nI 80) * x3) + ((nI 4) * ((m.A 64).getD (ix x2) 0)))) 0))] [] m K) else (if (m.F 42 29) = (nI 0) then (if (nI 0) ≤ (lg_cmp ((m.B 66).getD (ix x1) 0) ((m.B 66).getD (ix x2) 0)) then K (some (.int (nI 0))) m else K (some (.int (nI 1))) m) else (if (lg_cmp ((m.B 66).getD (ix x1) 0) ((m.B 66).getD (ix x2) 0)) ≤ (nI 0) then K (some (.int (nI 0))) m else K (some (.int (nI 1))) m)))))) : WP d 186 [.ref 42, .int x1, .int x2, .int x3, .int x4] m K := by
  have e_0 : sm_lk (lv_args 0 [.ref 42, .int x1, .int x2, .int x3, .int x4]) 0 = some (.ref 42) := rfl
  have e_1 : sm_lk (lv_args 0 [.ref 42, .int x1, .int x2, .int x3, .int x4]) 1 = some (.int x1) := rfl
  have e_2 : sm_lk (lv_args 0 [.ref 42, .int x1, .int x2, .int x3, .int x4]) 2 = some (.int x2) := rfl
  have e_3 : sm_lk (lv_args 0 [.ref 42, .int x1, .int x2, .int x3, .int x4]) 3 = some (.int x3) := rfl
  have e_4 : sm_lk (lv_args 0 [.ref 42, .int x1, .int x2, .int x3, .int x4]) 4 = some (.int x4) := rfl
  show sm_wp d 186 0 (lv_args 0 [.ref 42, .int x1, .int x2, .int x3, .int x4]) [] (hp m) (WQ K)
  generalize lv_args 0 [.ref 42, .int x1, .int x2, .int x3, .int x4] = lv0 at *
  refine wl_ald_n (pc' := 1) rfl e_0 rfl ?_
  refine wp_get (v := .ref 66) (pc' := 4) rfl (hq_42 _) rfl rfl ?_
  refine wl_ild_n (pc' := 5) rfl e_1 rfl ?_
  obtain ⟨k1, k⟩ := k
  refine wl_laload (g := m.B 66) (pc' := 6) rfl (hq_66 _) k1 rfl ?_
  refine wp_p (pc' := 9) (lv' := lv0) (st' := [.long 1099511627776, .long ((m.B 66).getD (ix x1) 0)]) rfl rfl ?_
  refine wp_lcmp (v := lg_cmp ((m.B 66).getD (ix x1) 0) 1099511627776) (pc' := 10) rfl rfl rfl ?_
  refine wp_if_ne (pc' := 13) rfl rfl (fun c2 => ?_) (fun c2 => ?_)
  · replace k := it_f (c := (lg_cmp ((m.B 66).getD (ix x1) 0) 1099511627776) = (nI 0)) c2 k
    refine wl_ald_n (pc' := 20) rfl e_0 rfl ?_
    refine wp_get (v := .ref 66) (pc' := 23) rfl (hq_42 _) rfl rfl ?_
    refine wl_ild_n (pc' := 24) rfl e_1 rfl ?_
    obtain ⟨k3, k⟩ := k
    refine wl_laload (g := m.B 66) (pc' := 25) rfl (hq_66 _) k3 rfl ?_
    refine wl_st2 (pc' := 27) (k0 := 5) (v := .long ((m.B 66).getD (ix x1) 0)) (r := []) rfl rfl (fun lv4 e5 f6 => ?_)
    have e7 := f6 0 _ e_0 (by decide) (by decide) rfl
    have e8 := f6 1 _ e_1 (by decide) (by decide) rfl
    have e9 := f6 2 _ e_2 (by decide) (by decide) rfl
    have e10 := f6 3 _ e_3 (by decide) (by decide) rfl
    have e11 := f6 4 _ e_4 (by decide) (by decide) rfl
    refine wl_ald_n (pc' := 28) rfl e7 rfl ?_
    refine wp_get (v := .ref 66) (pc' := 31) rfl (hq_42 _) rfl rfl ?_
    refine wl_ild_n (pc' := 32) rfl e9 rfl ?_
    obtain ⟨k12, k⟩ := k
    refine wl_laload (g := m.B 66) (pc' := 33) rfl (hq_66 _) k12 rfl ?_
    refine wp_p (pc' := 36) (lv' := lv4) (st' := [.long 1099511627776, .long ((m.B 66).getD (ix x2) 0)]) rfl rfl ?_
    refine wp_lcmp (v := lg_cmp ((m.B 66).getD (ix x2) 0) 1099511627776) (pc' := 37) rfl rfl rfl ?_
    refine wp_if_ne (pc' := 40) rfl rfl (fun c13 => ?_) (fun c13 => ?_)
    · replace k := it_f (c := (lg_cmp ((m.B 66).getD (ix x2) 0) 1099511627776) = (nI 0)) c13 k
      refine wl_ald_n (pc' := 47) rfl e7 rfl ?_
      refine wp_get (v := .ref 66) (pc' := 50) rfl (hq_42 _) rfl rfl ?_
      refine wl_ild_n (pc' := 51) rfl e9 rfl ?_
      obtain ⟨k14, k⟩ := k
      refine wl_laload (g := m.B 66) (pc' := 52) rfl (hq_66 _) k14 rfl ?_
      refine wl_st2 (pc' := 54) (k0 := 7) (v := .long ((m.B 66).getD (ix x2) 0)) (r := []) rfl rfl (fun lv15 e16 f17 => ?_)
      have e18 := f17 0 _ e7 (by decide) (by decide) rfl
      have e19 := f17 1 _ e8 (by decide) (by decide) rfl
      have e20 := f17 2 _ e9 (by decide) (by decide) rfl
      have e21 := f17 3 _ e10 (by decide) (by decide) rfl
      have e22 := f17 4 _ e11 (by decide) (by decide) rfl
      have e23 := f17 5 _ e5 (by decide) (by decide) rfl
      refine wl_lld (pc' := 56) rfl e23 rfl ?_
      refine wl_lld (pc' := 58) rfl e16 rfl ?_
      refine wp_lcmp (v := lg_cmp ((m.B 66).getD (ix x1) 0) ((m.B 66).getD (ix x2) 0)) (pc' := 59) rfl rfl rfl ?_
      refine wp_if_eq (pc' := 62) rfl rfl (fun c24 => ?_) (fun c24 => ?_)
      · replace k := it_t (c := (lg_cmp ((m.B 66).getD (ix x1) 0) ((m.B 66).getD (ix x2) 0)) = (nI 0)) c24 k
        refine wl_ald_n (pc' := 100) rfl e18 rfl ?_
        refine wp_get (v := .ref 58) (pc' := 103) rfl (hq_42 _) rfl rfl ?_
        refine wp_p (pc' := 105) (lv' := lv15) (st' := [.int (nI 80), .ref 58]) rfl rfl ?_
        refine wl_ild_n (pc' := 106) rfl e21 rfl ?_
        refine wp_imul (v := (nI 80) * x3) (pc' := 107) rfl rfl rfl ?_
        refine wp_p (pc' := 108) (lv' := lv15) (st' := [.int (nI 4), .int ((nI 80) * x3), .ref 58]) rfl rfl ?_
        refine wl_ald_n (pc' := 109) rfl e18 rfl ?_
        refine wp_get (v := .ref 64) (pc' := 112) rfl (hq_42 _) rfl rfl ?_
        refine wl_ild_n (pc' := 113) rfl e19 rfl ?_
        obtain ⟨k25, k⟩ := k
        refine wl_iaload (g := m.A 64) (pc' := 114) rfl (hq_64 _) k25 rfl ?_
        refine wp_imul (v := (nI 4) * ((m.A 64).getD (ix x1) 0)) (pc' := 115) rfl rfl rfl ?_
        refine wp_iadd (v := ((nI 80) * x3) + ((nI 4) * ((m.A 64).getD (ix x1) 0))) (pc' := 116) rfl rfl rfl ?_
        obtain ⟨k26, k⟩ := k
        refine wl_laload (g := m.B 58) (pc' := 117) rfl (hq_58 _) k26 rfl ?_
        refine wl_st2 (pc' := 119) (k0 := 9) (v := .long ((m.B 58).getD (ix (((nI 80) * x3) + ((nI 4) * ((m.A 64).getD (ix x1) 0)))) 0)) (r := []) rfl rfl (fun lv27 e28 f29 => ?_)
        have e30 := f29 0 _ e18 (by decide) (by decide) rfl
        have e31 := f29 1 _ e19 (by decide) (by decide) rfl
        have e32 := f29 2 _ e20 (by decide) (by decide) rfl
        have e33 := f29 3 _ e21 (by decide) (by decide) rfl
        have e34 := f29 4 _ e22 (by decide) (by decide) rfl
        have e35 := f29 5 _ e23 (by decide) (by decide) rfl
        have e36 := f29 7 _ e16 (by decide) (by decide) rfl
        refine wl_ald_n (pc' := 120) rfl e30 rfl ?_
        refine wp_get (v := .ref 58) (pc' := 123) rfl (hq_42 _) rfl rfl ?_
        refine wp_p (pc' := 125) (lv' := lv27) (st' := [.int (nI 80), .ref 58]) rfl rfl ?_
        refine wl_ild_n (pc' := 126) rfl e33 rfl ?_
        refine wp_imul (v := (nI 80) * x3) (pc' := 127) rfl rfl rfl ?_
        refine wp_p (pc' := 128) (lv' := lv27) (st' := [.int (nI 4), .int ((nI 80) * x3), .ref 58]) rfl rfl ?_
        refine wl_ald_n (pc' := 129) rfl e30 rfl ?_
        refine wp_get (v := .ref 64) (pc' := 132) rfl (hq_42 _) rfl rfl ?_
        refine wl_ild_n (pc' := 133) rfl e32 rfl ?_
        obtain ⟨k37, k⟩ := k
        refine wl_iaload (g := m.A 64) (pc' := 134) rfl (hq_64 _) k37 rfl ?_
        refine wp_imul (v := (nI 4) * ((m.A 64).getD (ix x2) 0)) (pc' := 135) rfl rfl rfl ?_
        refine wp_iadd (v := ((nI 80) * x3) + ((nI 4) * ((m.A 64).getD (ix x2) 0))) (pc' := 136) rfl rfl rfl ?_
        obtain ⟨k38, k⟩ := k
        refine wl_laload (g := m.B 58) (pc' := 137) rfl (hq_58 _) k38 rfl ?_
        refine wl_st2 (pc' := 139) (k0 := 11) (v := .long ((m.B 58).getD (ix (((nI 80) * x3) + ((nI 4) * ((m.A 64).getD (ix x2) 0)))) 0)) (r := []) rfl rfl (fun lv39 e40 f41 => ?_)
        have e42 := f41 0 _ e30 (by decide) (by decide) rfl
        have e43 := f41 1 _ e31 (by decide) (by decide) rfl
        have e44 := f41 2 _ e32 (by decide) (by decide) rfl
        have e45 := f41 3 _ e33 (by decide) (by decide) rfl
        have e46 := f41 4 _ e34 (by decide) (by decide) rfl
        have e47 := f41 5 _ e35 (by decide) (by decide) rfl
        have e48 := f41 7 _ e36 (by decide) (by decide) rfl
        have e49 := f41 9 _ e28 (by decide) (by decide) rfl
        refine wl_lld (pc' := 141) rfl e49 rfl ?_
        refine wl_lld (pc' := 143) rfl e40 rfl ?_
        refine wp_lcmp (v := lg_cmp ((m.B 58).getD (ix (((nI 80) * x3) + ((nI 4) * ((m.A 64).getD (ix x1) 0)))) 0) ((m.B 58).getD (ix (((nI 80) * x3) + ((nI 4) * ((m.A 64).getD (ix x2) 0)))) 0)) (pc' := 144) rfl rfl rfl ?_
        refine wp_if_ne (pc' := 147) rfl rfl (fun c50 => ?_) (fun c50 => ?_)
        · replace k := it_f (c := (lg_cmp ((m.B 58).getD (ix (((nI 80) * x3) + ((nI 4) * ((m.A 64).getD (ix x1) 0)))) 0) ((m.B 58).getD (ix (((nI 80) * x3) + ((nI 4) * ((m.A 64).getD (ix x2) 0)))) 0)) = (nI 0)) c50 k
          exact k _ ⟨e49, e40, trivial⟩
        · replace k := it_t (c := (lg_cmp ((m.B 58).getD (ix (((nI 80) * x3) + ((nI 4) * ((m.A 64).getD (ix x1) 0)))) 0) ((m.B 58).getD (ix (((nI 80) * x3) + ((nI 4) * ((m.A 64).getD (ix x2) 0)))) 0)) = (nI 0)) c50 k
          refine wl_ild (pc' := 149) rfl e46 rfl ?_
          refine wp_if_ge (pc' := 152) rfl rfl (fun c51 => ?_) (fun c51 => ?_)
          · replace k := it_t (c := (nI 0) ≤ x4) c51 k
            refine wl_ald_n (pc' := 167) rfl e42 rfl ?_
            refine wp_get (v := .ref 58) (pc' := 170) rfl (hq_42 _) rfl rfl ?_
            refine wp_p (pc' := 172) (lv' := lv39) (st' := [.int (nI 80), .ref 58]) rfl rfl ?_
            refine wl_ild (pc' := 174) rfl e46 rfl ?_
            refine wp_imul (v := (nI 80) * x4) (pc' := 175) rfl rfl rfl ?_
            refine wp_p (pc' := 176) (lv' := lv39) (st' := [.int (nI 4), .int ((nI 80) * x4), .ref 58]) rfl rfl ?_
            refine wl_ald_n (pc' := 177) rfl e42 rfl ?_
            refine wp_get (v := .ref 65) (pc' := 180) rfl (hq_42 _) rfl rfl ?_
            refine wl_ild_n (pc' := 181) rfl e43 rfl ?_
            obtain ⟨k52, k⟩ := k
            refine wl_iaload (g := m.A 65) (pc' := 182) rfl (hq_65 _) k52 rfl ?_
            refine wp_imul (v := (nI 4) * ((m.A 65).getD (ix x1) 0)) (pc' := 183) rfl rfl rfl ?_
            refine wp_iadd (v := ((nI 80) * x4) + ((nI 4) * ((m.A 65).getD (ix x1) 0))) (pc' := 184) rfl rfl rfl ?_
            obtain ⟨k53, k⟩ := k
            refine wl_laload (g := m.B 58) (pc' := 185) rfl (hq_58 _) k53 rfl ?_
            refine wl_ald_n (pc' := 186) rfl e42 rfl ?_
            refine wp_get (v := .ref 58) (pc' := 189) rfl (hq_42 _) rfl rfl ?_
            refine wp_p (pc' := 191) (lv' := lv39) (st' := [.int (nI 80), .ref 58, .long ((m.B 58).getD (ix (((nI 80) * x4) + ((nI 4) * ((m.A 65).getD (ix x1) 0)))) 0)]) rfl rfl ?_
            refine wl_ild (pc' := 193) rfl e46 rfl ?_
            refine wp_imul (v := (nI 80) * x4) (pc' := 194) rfl rfl rfl ?_
            refine wp_p (pc' := 195) (lv' := lv39) (st' := [.int (nI 4), .int ((nI 80) * x4), .ref 58, .long ((m.B 58).getD (ix (((nI 80) * x4) + ((nI 4) * ((m.A 65).getD (ix x1) 0)))) 0)]) rfl rfl ?_
            refine wl_ald_n (pc' := 196) rfl e42 rfl ?_
            refine wp_get (v := .ref 65) (pc' := 199) rfl (hq_42 _) rfl rfl ?_
            refine wl_ild_n (pc' := 200) rfl e44 rfl ?_
            obtain ⟨k54, k⟩ := k
            refine wl_iaload (g := m.A 65) (pc' := 201) rfl (hq_65 _) k54 rfl ?_
            refine wp_imul (v := (nI 4) * ((m.A 65).getD (ix x2) 0)) (pc' := 202) rfl rfl rfl ?_
            refine wp_iadd (v := ((nI 80) * x4) + ((nI 4) * ((m.A 65).getD (ix x2) 0))) (pc' := 203) rfl rfl rfl ?_
            obtain ⟨k55, k⟩ := k
            refine wl_laload (g := m.B 58) (pc' := 204) rfl (hq_58 _) k55 rfl ?_
            refine wp_lcmp (v := lg_cmp ((m.B 58).getD (ix (((nI 80) * x4) + ((nI 4) * ((m.A 65).getD (ix x1) 0)))) 0) ((m.B 58).getD (ix (((nI 80) * x4) + ((nI 4) * ((m.A 65).getD (ix x2) 0)))) 0)) (pc' := 205) rfl rfl rfl ?_
            refine wp_if_ge (pc' := 208) rfl rfl (fun c56 => ?_) (fun c56 => ?_)
            · replace k := it_t (c := (nI 0) ≤ (lg_cmp ((m.B 58).getD (ix (((nI 80) * x4) + ((nI 4) * ((m.A 65).getD (ix x1) 0)))) 0) ((m.B 58).getD (ix (((nI 80) * x4) + ((nI 4) * ((m.A 65).getD (ix x2) 0)))) 0))) c56 k
              refine wp_p (pc' := 213) (lv' := lv39) (st' := [.int (nI 0)]) rfl rfl ?_
              exact wl_ret rfl rfl ⟨_, rfl, k⟩
            · replace k := it_f (c := (nI 0) ≤ (lg_cmp ((m.B 58).getD (ix (((nI 80) * x4) + ((nI 4) * ((m.A 65).getD (ix x1) 0)))) 0) ((m.B 58).getD (ix (((nI 80) * x4) + ((nI 4) * ((m.A 65).getD (ix x2) 0)))) 0))) c56 k
              refine wp_p (pc' := 209) (lv' := lv39) (st' := [.int (nI 1)]) rfl rfl ?_
              refine wp_p (pc' := 213) (lv' := lv39) (st' := [.int (nI 1)]) rfl rfl ?_
              exact wl_ret rfl rfl ⟨_, rfl, k⟩
          · replace k := it_f (c := (nI 0) ≤ x4) c51 k
            exact k _ ⟨e49, e40, trivial⟩
      · replace k := it_f (c := (lg_cmp ((m.B 66).getD (ix x1) 0) ((m.B 66).getD (ix x2) 0)) = (nI 0)) c24 k
        refine wl_ald_n (pc' := 63) rfl e18 rfl ?_
        refine wp_get (v := .int (m.F 42 29)) (pc' := 66) rfl (hq_42 _) rfl rfl ?_
        refine wp_if_eq (pc' := 69) rfl rfl (fun c57 => ?_) (fun c57 => ?_)
        · replace k := it_t (c := (m.F 42 29) = (nI 0)) c57 k
          refine wl_lld (pc' := 87) rfl e23 rfl ?_
          refine wl_lld (pc' := 89) rfl e16 rfl ?_
          refine wp_lcmp (v := lg_cmp ((m.B 66).getD (ix x1) 0) ((m.B 66).getD (ix x2) 0)) (pc' := 90) rfl rfl rfl ?_
          refine wp_if_ge (pc' := 93) rfl rfl (fun c58 => ?_) (fun c58 => ?_)
          · replace k := it_t (c := (nI 0) ≤ (lg_cmp ((m.B 66).getD (ix x1) 0) ((m.B 66).getD (ix x2) 0))) c58 k
            refine wp_p (pc' := 98) (lv' := lv15) (st' := [.int (nI 0)]) rfl rfl ?_
            exact wl_ret rfl rfl ⟨_, rfl, k⟩
          · replace k := it_f (c := (nI 0) ≤ (lg_cmp ((m.B 66).getD (ix x1) 0) ((m.B 66).getD (ix x2) 0))) c58 k
            refine wp_p (pc' := 94) (lv' := lv15) (st' := [.int (nI 1)]) rfl rfl ?_
            refine wp_p (pc' := 98) (lv' := lv15) (st' := [.int (nI 1)]) rfl rfl ?_
            exact wl_ret rfl rfl ⟨_, rfl, k⟩
        · replace k := it_f (c := (m.F 42 29) = (nI 0)) c57 k
          refine wl_lld (pc' := 71) rfl e23 rfl ?_
          refine wl_lld (pc' := 73) rfl e16 rfl ?_
          refine wp_lcmp (v := lg_cmp ((m.B 66).getD (ix x1) 0) ((m.B 66).getD (ix x2) 0)) (pc' := 74) rfl rfl rfl ?_
          refine wp_if_le (pc' := 77) rfl rfl (fun c59 => ?_) (fun c59 => ?_)
          · replace k := it_t (c := (lg_cmp ((m.B 66).getD (ix x1) 0) ((m.B 66).getD (ix x2) 0)) ≤ (nI 0)) c59 k
            refine wp_p (pc' := 82) (lv' := lv15) (st' := [.int (nI 0)]) rfl rfl ?_
            refine wp_p (pc' := 98) (lv' := lv15) (st' := [.int (nI 0)]) rfl rfl ?_
            exact wl_ret rfl rfl ⟨_, rfl, k⟩
          · replace k := it_f (c := (lg_cmp ((m.B 66).getD (ix x1) 0) ((m.B 66).getD (ix x2) 0)) ≤ (nI 0)) c59 k
            refine wp_p (pc' := 78) (lv' := lv15) (st' := [.int (nI 1)]) rfl rfl ?_
            refine wp_p (pc' := 98) (lv' := lv15) (st' := [.int (nI 1)]) rfl rfl ?_
            exact wl_ret rfl rfl ⟨_, rfl, k⟩
    · replace k := it_t (c := (lg_cmp ((m.B 66).getD (ix x2) 0) 1099511627776) = (nI 0)) c13 k
      refine wp_p (pc' := 43) (lv' := lv4) (st' := [.long (-1099511627776)]) rfl rfl ?_
      refine wp_p (pc' := 52) (lv' := lv4) (st' := [.long (-1099511627776)]) rfl rfl ?_
      refine wl_st2 (pc' := 54) (k0 := 7) (v := .long (-1099511627776)) (r := []) rfl rfl (fun lv60 e61 f62 => ?_)
      have e63 := f62 0 _ e7 (by decide) (by decide) rfl
      have e64 := f62 1 _ e8 (by decide) (by decide) rfl
      have e65 := f62 2 _ e9 (by decide) (by decide) rfl
      have e66 := f62 3 _ e10 (by decide) (by decide) rfl
      have e67 := f62 4 _ e11 (by decide) (by decide) rfl
      have e68 := f62 5 _ e5 (by decide) (by decide) rfl
      refine wl_lld (pc' := 56) rfl e68 rfl ?_
      refine wl_lld (pc' := 58) rfl e61 rfl ?_
      refine wp_lcmp (v := lg_cmp ((m.B 66).getD (ix x1) 0) (-1099511627776)) (pc' := 59) rfl rfl rfl ?_
      refine wp_if_eq (pc' := 62) rfl rfl (fun c69 => ?_) (fun c69 => ?_)
      · replace k := it_t (c := (lg_cmp ((m.B 66).getD (ix x1) 0) (-1099511627776)) = (nI 0)) c69 k
        refine wl_ald_n (pc' := 100) rfl e63 rfl ?_
        refine wp_get (v := .ref 58) (pc' := 103) rfl (hq_42 _) rfl rfl ?_
        refine wp_p (pc' := 105) (lv' := lv60) (st' := [.int (nI 80), .ref 58]) rfl rfl ?_
        refine wl_ild_n (pc' := 106) rfl e66 rfl ?_
        refine wp_imul (v := (nI 80) * x3) (pc' := 107) rfl rfl rfl ?_
        refine wp_p (pc' := 108) (lv' := lv60) (st' := [.int (nI 4), .int ((nI 80) * x3), .ref 58]) rfl rfl ?_
        refine wl_ald_n (pc' := 109) rfl e63 rfl ?_
        refine wp_get (v := .ref 64) (pc' := 112) rfl (hq_42 _) rfl rfl ?_
        refine wl_ild_n (pc' := 113) rfl e64 rfl ?_
        obtain ⟨k70, k⟩ := k
        refine wl_iaload (g := m.A 64) (pc' := 114) rfl (hq_64 _) k70 rfl ?_
        refine wp_imul (v := (nI 4) * ((m.A 64).getD (ix x1) 0)) (pc' := 115) rfl rfl rfl ?_
        refine wp_iadd (v := ((nI 80) * x3) + ((nI 4) * ((m.A 64).getD (ix x1) 0))) (pc' := 116) rfl rfl rfl ?_
        obtain ⟨k71, k⟩ := k
        refine wl_laload (g := m.B 58) (pc' := 117) rfl (hq_58 _) k71 rfl ?_
        refine wl_st2 (pc' := 119) (k0 := 9) (v := .long ((m.B 58).getD (ix (((nI 80) * x3) + ((nI 4) * ((m.A 64).getD (ix x1) 0)))) 0)) (r := []) rfl rfl (fun lv72 e73 f74 => ?_)
        have e75 := f74 0 _ e63 (by decide) (by decide) rfl
        have e76 := f74 1 _ e64 (by decide) (by decide) rfl
        have e77 := f74 2 _ e65 (by decide) (by decide) rfl
        have e78 := f74 3 _ e66 (by decide) (by decide) rfl
        have e79 := f74 4 _ e67 (by decide) (by decide) rfl
        have e80 := f74 5 _ e68 (by decide) (by decide) rfl
        have e81 := f74 7 _ e61 (by decide) (by decide) rfl
        refine wl_ald_n (pc' := 120) rfl e75 rfl ?_
        refine wp_get (v := .ref 58) (pc' := 123) rfl (hq_42 _) rfl rfl ?_
        refine wp_p (pc' := 125) (lv' := lv72) (st' := [.int (nI 80), .ref 58]) rfl rfl ?_
        refine wl_ild_n (pc' := 126) rfl e78 rfl ?_
        refine wp_imul (v := (nI 80) * x3) (pc' := 127) rfl rfl rfl ?_
        refine wp_p (pc' := 128) (lv' := lv72) (st' := [.int (nI 4), .int ((nI 80) * x3), .ref 58]) rfl rfl ?_
        refine wl_ald_n (pc' := 129) rfl e75 rfl ?_
        refine wp_get (v := .ref 64) (pc' := 132) rfl (hq_42 _) rfl rfl ?_
        refine wl_ild_n (pc' := 133) rfl e77 rfl ?_
        obtain ⟨k82, k⟩ := k
        refine wl_iaload (g := m.A 64) (pc' := 134) rfl (hq_64 _) k82 rfl ?_
        refine wp_imul (v := (nI 4) * ((m.A 64).getD (ix x2) 0)) (pc' := 135) rfl rfl rfl ?_
        refine wp_iadd (v := ((nI 80) * x3) + ((nI 4) * ((m.A 64).getD (ix x2) 0))) (pc' := 136) rfl rfl rfl ?_
        obtain ⟨k83, k⟩ := k
        refine wl_laload (g := m.B 58) (pc' := 137) rfl (hq_58 _) k83 rfl ?_
        refine wl_st2 (pc' := 139) (k0 := 11) (v := .long ((m.B 58).getD (ix (((nI 80) * x3) + ((nI 4) * ((m.A 64).getD (ix x2) 0)))) 0)) (r := []) rfl rfl (fun lv84 e85 f86 => ?_)
        have e87 := f86 0 _ e75 (by decide) (by decide) rfl
        have e88 := f86 1 _ e76 (by decide) (by decide) rfl
        have e89 := f86 2 _ e77 (by decide) (by decide) rfl
        have e90 := f86 3 _ e78 (by decide) (by decide) rfl
        have e91 := f86 4 _ e79 (by decide) (by decide) rfl
        have e92 := f86 5 _ e80 (by decide) (by decide) rfl
        have e93 := f86 7 _ e81 (by decide) (by decide) rfl
        have e94 := f86 9 _ e73 (by decide) (by decide) rfl
        refine wl_lld (pc' := 141) rfl e94 rfl ?_
        refine wl_lld (pc' := 143) rfl e85 rfl ?_
        refine wp_lcmp (v := lg_cmp ((m.B 58).getD (ix (((nI 80) * x3) + ((nI 4) * ((m.A 64).getD (ix x1) 0)))) 0) ((m.B 58).getD (ix (((nI 80) * x3) + ((nI 4) * ((m.A 64).getD (ix x2) 0)))) 0)) (pc' := 144) rfl rfl rfl ?_
        refine wp_if_ne (pc' := 147) rfl rfl (fun c95 => ?_) (fun c95 => ?_)
        · replace k := it_f (c := (lg_cmp ((m.B 58).getD (ix (((nI 80) * x3) + ((nI 4) * ((m.A 64).getD (ix x1) 0)))) 0) ((m.B 58).getD (ix (((nI 80) * x3) + ((nI 4) * ((m.A 64).getD (ix x2) 0)))) 0)) = (nI 0)) c95 k
          exact k _ ⟨e94, e85, trivial⟩
        · replace k := it_t (c := (lg_cmp ((m.B 58).getD (ix (((nI 80) * x3) + ((nI 4) * ((m.A 64).getD (ix x1) 0)))) 0) ((m.B 58).getD (ix (((nI 80) * x3) + ((nI 4) * ((m.A 64).getD (ix x2) 0)))) 0)) = (nI 0)) c95 k
          refine wl_ild (pc' := 149) rfl e91 rfl ?_
          refine wp_if_ge (pc' := 152) rfl rfl (fun c96 => ?_) (fun c96 => ?_)
          · replace k := it_t (c := (nI 0) ≤ x4) c96 k
            refine wl_ald_n (pc' := 167) rfl e87 rfl ?_
            refine wp_get (v := .ref 58) (pc' := 170) rfl (hq_42 _) rfl rfl ?_
            refine wp_p (pc' := 172) (lv' := lv84) (st' := [.int (nI 80), .ref 58]) rfl rfl ?_
            refine wl_ild (pc' := 174) rfl e91 rfl ?_
            refine wp_imul (v := (nI 80) * x4) (pc' := 175) rfl rfl rfl ?_
            refine wp_p (pc' := 176) (lv' := lv84) (st' := [.int (nI 4), .int ((nI 80) * x4), .ref 58]) rfl rfl ?_
            refine wl_ald_n (pc' := 177) rfl e87 rfl ?_
            refine wp_get (v := .ref 65) (pc' := 180) rfl (hq_42 _) rfl rfl ?_
            refine wl_ild_n (pc' := 181) rfl e88 rfl ?_
            obtain ⟨k97, k⟩ := k
            refine wl_iaload (g := m.A 65) (pc' := 182) rfl (hq_65 _) k97 rfl ?_
            refine wp_imul (v := (nI 4) * ((m.A 65).getD (ix x1) 0)) (pc' := 183) rfl rfl rfl ?_
            refine wp_iadd (v := ((nI 80) * x4) + ((nI 4) * ((m.A 65).getD (ix x1) 0))) (pc' := 184) rfl rfl rfl ?_
            obtain ⟨k98, k⟩ := k
            refine wl_laload (g := m.B 58) (pc' := 185) rfl (hq_58 _) k98 rfl ?_
            refine wl_ald_n (pc' := 186) rfl e87 rfl ?_
            refine wp_get (v := .ref 58) (pc' := 189) rfl (hq_42 _) rfl rfl ?_
            refine wp_p (pc' := 191) (lv' := lv84) (st' := [.int (nI 80), .ref 58, .long ((m.B 58).getD (ix (((nI 80) * x4) + ((nI 4) * ((m.A 65).getD (ix x1) 0)))) 0)]) rfl rfl ?_
            refine wl_ild (pc' := 193) rfl e91 rfl ?_
            refine wp_imul (v := (nI 80) * x4) (pc' := 194) rfl rfl rfl ?_
            refine wp_p (pc' := 195) (lv' := lv84) (st' := [.int (nI 4), .int ((nI 80) * x4), .ref 58, .long ((m.B 58).getD (ix (((nI 80) * x4) + ((nI 4) * ((m.A 65).getD (ix x1) 0)))) 0)]) rfl rfl ?_
            refine wl_ald_n (pc' := 196) rfl e87 rfl ?_
            refine wp_get (v := .ref 65) (pc' := 199) rfl (hq_42 _) rfl rfl ?_
            refine wl_ild_n (pc' := 200) rfl e89 rfl ?_
            obtain ⟨k99, k⟩ := k
            refine wl_iaload (g := m.A 65) (pc' := 201) rfl (hq_65 _) k99 rfl ?_
            refine wp_imul (v := (nI 4) * ((m.A 65).getD (ix x2) 0)) (pc' := 202) rfl rfl rfl ?_
            refine wp_iadd (v := ((nI 80) * x4) + ((nI 4) * ((m.A 65).getD (ix x2) 0))) (pc' := 203) rfl rfl rfl ?_
            obtain ⟨k100, k⟩ := k
            refine wl_laload (g := m.B 58) (pc' := 204) rfl (hq_58 _) k100 rfl ?_
            refine wp_lcmp (v := lg_cmp ((m.B 58).getD (ix (((nI 80) * x4) + ((nI 4) * ((m.A 65).getD (ix x1) 0)))) 0) ((m.B 58).getD (ix (((nI 80) * x4) + ((nI 4) * ((m.A 65).getD (ix x2) 0)))) 0)) (pc' := 205) rfl rfl rfl ?_
            refine wp_if_ge (pc' := 208) rfl rfl (fun c101 => ?_) (fun c101 => ?_)
            · replace k := it_t (c := (nI 0) ≤ (lg_cmp ((m.B 58).getD (ix (((nI 80) * x4) + ((nI 4) * ((m.A 65).getD (ix x1) 0)))) 0) ((m.B 58).getD (ix (((nI 80) * x4) + ((nI 4) * ((m.A 65).getD (ix x2) 0)))) 0))) c101 k
              refine wp_p (pc' := 213) (lv' := lv84) (st' := [.int (nI 0)]) rfl rfl ?_
              exact wl_ret rfl rfl ⟨_, rfl, k⟩
            · replace k := it_f (c := (nI 0) ≤ (lg_cmp ((m.B 58).getD (ix (((nI 80) * x4) + ((nI 4) * ((m.A 65).getD (ix x1) 0)))) 0) ((m.B 58).getD (ix (((nI 80) * x4) + ((nI 4) * ((m.A 65).getD (ix x2) 0)))) 0))) c101 k
              refine wp_p (pc' := 209) (lv' := lv84) (st' := [.int (nI 1)]) rfl rfl ?_
              refine wp_p (pc' := 213) (lv' := lv84) (st' := [.int (nI 1)]) rfl rfl ?_
              exact wl_ret rfl rfl ⟨_, rfl, k⟩
          · replace k := it_f (c := (nI 0) ≤ x4) c96 k
            exact k _ ⟨e94, e85, trivial⟩
      · replace k := it_f (c := (lg_cmp ((m.B 66).getD (ix x1) 0) (-1099511627776)) = (nI 0)) c69 k
        refine wl_ald_n (pc' := 63) rfl e63 rfl ?_
        refine wp_get (v := .int (m.F 42 29)) (pc' := 66) rfl (hq_42 _) rfl rfl ?_
        refine wp_if_eq (pc' := 69) rfl rfl (fun c102 => ?_) (fun c102 => ?_)
        · replace k := it_t (c := (m.F 42 29) = (nI 0)) c102 k
          refine wl_lld (pc' := 87) rfl e68 rfl ?_
          refine wl_lld (pc' := 89) rfl e61 rfl ?_
          refine wp_lcmp (v := lg_cmp ((m.B 66).getD (ix x1) 0) (-1099511627776)) (pc' := 90) rfl rfl rfl ?_
          refine wp_if_ge (pc' := 93) rfl rfl (fun c103 => ?_) (fun c103 => ?_)
          · replace k := it_t (c := (nI 0) ≤ (lg_cmp ((m.B 66).getD (ix x1) 0) (-1099511627776))) c103 k
            refine wp_p (pc' := 98) (lv' := lv60) (st' := [.int (nI 0)]) rfl rfl ?_
            exact wl_ret rfl rfl ⟨_, rfl, k⟩
          · replace k := it_f (c := (nI 0) ≤ (lg_cmp ((m.B 66).getD (ix x1) 0) (-1099511627776))) c103 k
            refine wp_p (pc' := 94) (lv' := lv60) (st' := [.int (nI 1)]) rfl rfl ?_
            refine wp_p (pc' := 98) (lv' := lv60) (st' := [.int (nI 1)]) rfl rfl ?_
            exact wl_ret rfl rfl ⟨_, rfl, k⟩
        · replace k := it_f (c := (m.F 42 29) = (nI 0)) c102 k
          refine wl_lld (pc' := 71) rfl e68 rfl ?_
          refine wl_lld (pc' := 73) rfl e61 rfl ?_
          refine wp_lcmp (v := lg_cmp ((m.B 66).getD (ix x1) 0) (-1099511627776)) (pc' := 74) rfl rfl rfl ?_
          refine wp_if_le (pc' := 77) rfl rfl (fun c104 => ?_) (fun c104 => ?_)
          · replace k := it_t (c := (lg_cmp ((m.B 66).getD (ix x1) 0) (-1099511627776)) ≤ (nI 0)) c104 k
            refine wp_p (pc' := 82) (lv' := lv60) (st' := [.int (nI 0)]) rfl rfl ?_
            refine wp_p (pc' := 98) (lv' := lv60) (st' := [.int (nI 0)]) rfl rfl ?_
            exact wl_ret rfl rfl ⟨_, rfl, k⟩
          · replace k := it_f (c := (lg_cmp ((m.B 66).getD (ix x1) 0) (-1099511627776)) ≤ (nI 0)) c104 k
            refine wp_p (pc' := 78) (lv' := lv60) (st' := [.int (nI 1)]) rfl rfl ?_
            refine wp_p (pc' := 98) (lv' := lv60) (st' := [.int (nI 1)]) rfl rfl ?_
            exact wl_ret rfl rfl ⟨_, rfl, k⟩
  · replace k := it_t (c := (lg_cmp ((m.B 66).getD (ix x1) 0) 1099511627776) = (nI 0)) c2 k
    refine wp_p (pc' := 16) (lv' := lv0) (st' := [.long (-1099511627776)]) rfl rfl ?_
    refine wp_p (pc' := 25) (lv' := lv0) (st' := [.long (-1099511627776)]) rfl rfl ?_
    refine wl_st2 (pc' := 27) (k0 := 5) (v := .long (-1099511627776)) (r := []) rfl rfl (fun lv105 e106 f107 => ?_)
    have e108 := f107 0 _ e_0 (by decide) (by decide) rfl
    have e109 := f107 1 _ e_1 (by decide) (by decide) rfl
    have e110 := f107 2 _ e_2 (by decide) (by decide) rfl
    have e111 := f107 3 _ e_3 (by decide) (by decide) rfl
    have e112 := f107 4 _ e_4 (by decide) (by decide) rfl
    refine wl_ald_n (pc' := 28) rfl e108 rfl ?_
    refine wp_get (v := .ref 66) (pc' := 31) rfl (hq_42 _) rfl rfl ?_
    refine wl_ild_n (pc' := 32) rfl e110 rfl ?_
    obtain ⟨k113, k⟩ := k
    refine wl_laload (g := m.B 66) (pc' := 33) rfl (hq_66 _) k113 rfl ?_
    refine wp_p (pc' := 36) (lv' := lv105) (st' := [.long 1099511627776, .long ((m.B 66).getD (ix x2) 0)]) rfl rfl ?_
    refine wp_lcmp (v := lg_cmp ((m.B 66).getD (ix x2) 0) 1099511627776) (pc' := 37) rfl rfl rfl ?_
    refine wp_if_ne (pc' := 40) rfl rfl (fun c114 => ?_) (fun c114 => ?_)
    · replace k := it_f (c := (lg_cmp ((m.B 66).getD (ix x2) 0) 1099511627776) = (nI 0)) c114 k
      refine wl_ald_n (pc' := 47) rfl e108 rfl ?_
      refine wp_get (v := .ref 66) (pc' := 50) rfl (hq_42 _) rfl rfl ?_
      refine wl_ild_n (pc' := 51) rfl e110 rfl ?_
      obtain ⟨k115, k⟩ := k
      refine wl_laload (g := m.B 66) (pc' := 52) rfl (hq_66 _) k115 rfl ?_
      refine wl_st2 (pc' := 54) (k0 := 7) (v := .long ((m.B 66).getD (ix x2) 0)) (r := []) rfl rfl (fun lv116 e117 f118 => ?_)
      have e119 := f118 0 _ e108 (by decide) (by decide) rfl
      have e120 := f118 1 _ e109 (by decide) (by decide) rfl
      have e121 := f118 2 _ e110 (by decide) (by decide) rfl
      have e122 := f118 3 _ e111 (by decide) (by decide) rfl
      have e123 := f118 4 _ e112 (by decide) (by decide) rfl
      have e124 := f118 5 _ e106 (by decide) (by decide) rfl
      refine wl_lld (pc' := 56) rfl e124 rfl ?_
      refine wl_lld (pc' := 58) rfl e117 rfl ?_
      refine wp_lcmp (v := lg_cmp (-1099511627776) ((m.B 66).getD (ix x2) 0)) (pc' := 59) rfl rfl rfl ?_
      refine wp_if_eq (pc' := 62) rfl rfl (fun c125 => ?_) (fun c125 => ?_)
      · replace k := it_t (c := (lg_cmp (-1099511627776) ((m.B 66).getD (ix x2) 0)) = (nI 0)) c125 k
        refine wl_ald_n (pc' := 100) rfl e119 rfl ?_
        refine wp_get (v := .ref 58) (pc' := 103) rfl (hq_42 _) rfl rfl ?_
        refine wp_p (pc' := 105) (lv' := lv116) (st' := [.int (nI 80), .ref 58]) rfl rfl ?_
        refine wl_ild_n (pc' := 106) rfl e122 rfl ?_
        refine wp_imul (v := (nI 80) * x3) (pc' := 107) rfl rfl rfl ?_
        refine wp_p (pc' := 108) (lv' := lv116) (st' := [.int (nI 4), .int ((nI 80) * x3), .ref 58]) rfl rfl ?_
        refine wl_ald_n (pc' := 109) rfl e119 rfl ?_
        refine wp_get (v := .ref 64) (pc' := 112) rfl (hq_42 _) rfl rfl ?_
        refine wl_ild_n (pc' := 113) rfl e120 rfl ?_
        obtain ⟨k126, k⟩ := k
        refine wl_iaload (g := m.A 64) (pc' := 114) rfl (hq_64 _) k126 rfl ?_
        refine wp_imul (v := (nI 4) * ((m.A 64).getD (ix x1) 0)) (pc' := 115) rfl rfl rfl ?_
        refine wp_iadd (v := ((nI 80) * x3) + ((nI 4) * ((m.A 64).getD (ix x1) 0))) (pc' := 116) rfl rfl rfl ?_
        obtain ⟨k127, k⟩ := k
        refine wl_laload (g := m.B 58) (pc' := 117) rfl (hq_58 _) k127 rfl ?_
        refine wl_st2 (pc' := 119) (k0 := 9) (v := .long ((m.B 58).getD (ix (((nI 80) * x3) + ((nI 4) * ((m.A 64).getD (ix x1) 0)))) 0)) (r := []) rfl rfl (fun lv128 e129 f130 => ?_)
        have e131 := f130 0 _ e119 (by decide) (by decide) rfl
        have e132 := f130 1 _ e120 (by decide) (by decide) rfl
        have e133 := f130 2 _ e121 (by decide) (by decide) rfl
        have e134 := f130 3 _ e122 (by decide) (by decide) rfl
        have e135 := f130 4 _ e123 (by decide) (by decide) rfl
        have e136 := f130 5 _ e124 (by decide) (by decide) rfl
        have e137 := f130 7 _ e117 (by decide) (by decide) rfl
        refine wl_ald_n (pc' := 120) rfl e131 rfl ?_
        refine wp_get (v := .ref 58) (pc' := 123) rfl (hq_42 _) rfl rfl ?_
        refine wp_p (pc' := 125) (lv' := lv128) (st' := [.int (nI 80), .ref 58]) rfl rfl ?_
        refine wl_ild_n (pc' := 126) rfl e134 rfl ?_
        refine wp_imul (v := (nI 80) * x3) (pc' := 127) rfl rfl rfl ?_
        refine wp_p (pc' := 128) (lv' := lv128) (st' := [.int (nI 4), .int ((nI 80) * x3), .ref 58]) rfl rfl ?_
        refine wl_ald_n (pc' := 129) rfl e131 rfl ?_
        refine wp_get (v := .ref 64) (pc' := 132) rfl (hq_42 _) rfl rfl ?_
        refine wl_ild_n (pc' := 133) rfl e133 rfl ?_
        obtain ⟨k138, k⟩ := k
        refine wl_iaload (g := m.A 64) (pc' := 134) rfl (hq_64 _) k138 rfl ?_
        refine wp_imul (v := (nI 4) * ((m.A 64).getD (ix x2) 0)) (pc' := 135) rfl rfl rfl ?_
        refine wp_iadd (v := ((nI 80) * x3) + ((nI 4) * ((m.A 64).getD (ix x2) 0))) (pc' := 136) rfl rfl rfl ?_
        obtain ⟨k139, k⟩ := k
        refine wl_laload (g := m.B 58) (pc' := 137) rfl (hq_58 _) k139 rfl ?_
        refine wl_st2 (pc' := 139) (k0 := 11) (v := .long ((m.B 58).getD (ix (((nI 80) * x3) + ((nI 4) * ((m.A 64).getD (ix x2) 0)))) 0)) (r := []) rfl rfl (fun lv140 e141 f142 => ?_)
        have e143 := f142 0 _ e131 (by decide) (by decide) rfl
        have e144 := f142 1 _ e132 (by decide) (by decide) rfl
        have e145 := f142 2 _ e133 (by decide) (by decide) rfl
        have e146 := f142 3 _ e134 (by decide) (by decide) rfl
        have e147 := f142 4 _ e135 (by decide) (by decide) rfl
        have e148 := f142 5 _ e136 (by decide) (by decide) rfl
        have e149 := f142 7 _ e137 (by decide) (by decide) rfl
        have e150 := f142 9 _ e129 (by decide) (by decide) rfl
        refine wl_lld (pc' := 141) rfl e150 rfl ?_
        refine wl_lld (pc' := 143) rfl e141 rfl ?_
        refine wp_lcmp (v := lg_cmp ((m.B 58).getD (ix (((nI 80) * x3) + ((nI 4) * ((m.A 64).getD (ix x1) 0)))) 0) ((m.B 58).getD (ix (((nI 80) * x3) + ((nI 4) * ((m.A 64).getD (ix x2) 0)))) 0)) (pc' := 144) rfl rfl rfl ?_
        refine wp_if_ne (pc' := 147) rfl rfl (fun c151 => ?_) (fun c151 => ?_)
        · replace k := it_f (c := (lg_cmp ((m.B 58).getD (ix (((nI 80) * x3) + ((nI 4) * ((m.A 64).getD (ix x1) 0)))) 0) ((m.B 58).getD (ix (((nI 80) * x3) + ((nI 4) * ((m.A 64).getD (ix x2) 0)))) 0)) = (nI 0)) c151 k
          exact k _ ⟨e150, e141, trivial⟩
        · replace k := it_t (c := (lg_cmp ((m.B 58).getD (ix (((nI 80) * x3) + ((nI 4) * ((m.A 64).getD (ix x1) 0)))) 0) ((m.B 58).getD (ix (((nI 80) * x3) + ((nI 4) * ((m.A 64).getD (ix x2) 0)))) 0)) = (nI 0)) c151 k
          refine wl_ild (pc' := 149) rfl e147 rfl ?_
          refine wp_if_ge (pc' := 152) rfl rfl (fun c152 => ?_) (fun c152 => ?_)
          · replace k := it_t (c := (nI 0) ≤ x4) c152 k
            refine wl_ald_n (pc' := 167) rfl e143 rfl ?_
            refine wp_get (v := .ref 58) (pc' := 170) rfl (hq_42 _) rfl rfl ?_
            refine wp_p (pc' := 172) (lv' := lv140) (st' := [.int (nI 80), .ref 58]) rfl rfl ?_
            refine wl_ild (pc' := 174) rfl e147 rfl ?_
            refine wp_imul (v := (nI 80) * x4) (pc' := 175) rfl rfl rfl ?_
            refine wp_p (pc' := 176) (lv' := lv140) (st' := [.int (nI 4), .int ((nI 80) * x4), .ref 58]) rfl rfl ?_
            refine wl_ald_n (pc' := 177) rfl e143 rfl ?_
            refine wp_get (v := .ref 65) (pc' := 180) rfl (hq_42 _) rfl rfl ?_
            refine wl_ild_n (pc' := 181) rfl e144 rfl ?_
            obtain ⟨k153, k⟩ := k
            refine wl_iaload (g := m.A 65) (pc' := 182) rfl (hq_65 _) k153 rfl ?_
            refine wp_imul (v := (nI 4) * ((m.A 65).getD (ix x1) 0)) (pc' := 183) rfl rfl rfl ?_
            refine wp_iadd (v := ((nI 80) * x4) + ((nI 4) * ((m.A 65).getD (ix x1) 0))) (pc' := 184) rfl rfl rfl ?_
            obtain ⟨k154, k⟩ := k
            refine wl_laload (g := m.B 58) (pc' := 185) rfl (hq_58 _) k154 rfl ?_
            refine wl_ald_n (pc' := 186) rfl e143 rfl ?_
            refine wp_get (v := .ref 58) (pc' := 189) rfl (hq_42 _) rfl rfl ?_
            refine wp_p (pc' := 191) (lv' := lv140) (st' := [.int (nI 80), .ref 58, .long ((m.B 58).getD (ix (((nI 80) * x4) + ((nI 4) * ((m.A 65).getD (ix x1) 0)))) 0)]) rfl rfl ?_
            refine wl_ild (pc' := 193) rfl e147 rfl ?_
            refine wp_imul (v := (nI 80) * x4) (pc' := 194) rfl rfl rfl ?_
            refine wp_p (pc' := 195) (lv' := lv140) (st' := [.int (nI 4), .int ((nI 80) * x4), .ref 58, .long ((m.B 58).getD (ix (((nI 80) * x4) + ((nI 4) * ((m.A 65).getD (ix x1) 0)))) 0)]) rfl rfl ?_
            refine wl_ald_n (pc' := 196) rfl e143 rfl ?_
            refine wp_get (v := .ref 65) (pc' := 199) rfl (hq_42 _) rfl rfl ?_
            refine wl_ild_n (pc' := 200) rfl e145 rfl ?_
            obtain ⟨k155, k⟩ := k
            refine wl_iaload (g := m.A 65) (pc' := 201) rfl (hq_65 _) k155 rfl ?_
            refine wp_imul (v := (nI 4) * ((m.A 65).getD (ix x2) 0)) (pc' := 202) rfl rfl rfl ?_
            refine wp_iadd (v := ((nI 80) * x4) + ((nI 4) * ((m.A 65).getD (ix x2) 0))) (pc' := 203) rfl rfl rfl ?_
            obtain ⟨k156, k⟩ := k
            refine wl_laload (g := m.B 58) (pc' := 204) rfl (hq_58 _) k156 rfl ?_
            refine wp_lcmp (v := lg_cmp ((m.B 58).getD (ix (((nI 80) * x4) + ((nI 4) * ((m.A 65).getD (ix x1) 0)))) 0) ((m.B 58).getD (ix (((nI 80) * x4) + ((nI 4) * ((m.A 65).getD (ix x2) 0)))) 0)) (pc' := 205) rfl rfl rfl ?_
            refine wp_if_ge (pc' := 208) rfl rfl (fun c157 => ?_) (fun c157 => ?_)
            · replace k := it_t (c := (nI 0) ≤ (lg_cmp ((m.B 58).getD (ix (((nI 80) * x4) + ((nI 4) * ((m.A 65).getD (ix x1) 0)))) 0) ((m.B 58).getD (ix (((nI 80) * x4) + ((nI 4) * ((m.A 65).getD (ix x2) 0)))) 0))) c157 k
              refine wp_p (pc' := 213) (lv' := lv140) (st' := [.int (nI 0)]) rfl rfl ?_
              exact wl_ret rfl rfl ⟨_, rfl, k⟩
            · replace k := it_f (c := (nI 0) ≤ (lg_cmp ((m.B 58).getD (ix (((nI 80) * x4) + ((nI 4) * ((m.A 65).getD (ix x1) 0)))) 0) ((m.B 58).getD (ix (((nI 80) * x4) + ((nI 4) * ((m.A 65).getD (ix x2) 0)))) 0))) c157 k
              refine wp_p (pc' := 209) (lv' := lv140) (st' := [.int (nI 1)]) rfl rfl ?_
              refine wp_p (pc' := 213) (lv' := lv140) (st' := [.int (nI 1)]) rfl rfl ?_
              exact wl_ret rfl rfl ⟨_, rfl, k⟩
          · replace k := it_f (c := (nI 0) ≤ x4) c152 k
            exact k _ ⟨e150, e141, trivial⟩
      · replace k := it_f (c := (lg_cmp (-1099511627776) ((m.B 66).getD (ix x2) 0)) = (nI 0)) c125 k
        refine wl_ald_n (pc' := 63) rfl e119 rfl ?_
        refine wp_get (v := .int (m.F 42 29)) (pc' := 66) rfl (hq_42 _) rfl rfl ?_
        refine wp_if_eq (pc' := 69) rfl rfl (fun c158 => ?_) (fun c158 => ?_)
        · replace k := it_t (c := (m.F 42 29) = (nI 0)) c158 k
          refine wl_lld (pc' := 87) rfl e124 rfl ?_
          refine wl_lld (pc' := 89) rfl e117 rfl ?_
          refine wp_lcmp (v := lg_cmp (-1099511627776) ((m.B 66).getD (ix x2) 0)) (pc' := 90) rfl rfl rfl ?_
          refine wp_if_ge (pc' := 93) rfl rfl (fun c159 => ?_) (fun c159 => ?_)
          · replace k := it_t (c := (nI 0) ≤ (lg_cmp (-1099511627776) ((m.B 66).getD (ix x2) 0))) c159 k
            refine wp_p (pc' := 98) (lv' := lv116) (st' := [.int (nI 0)]) rfl rfl ?_
            exact wl_ret rfl rfl ⟨_, rfl, k⟩
          · replace k := it_f (c := (nI 0) ≤ (lg_cmp (-1099511627776) ((m.B 66).getD (ix x2) 0))) c159 k
            refine wp_p (pc' := 94) (lv' := lv116) (st' := [.int (nI 1)]) rfl rfl ?_
            refine wp_p (pc' := 98) (lv' := lv116) (st' := [.int (nI 1)]) rfl rfl ?_
            exact wl_ret rfl rfl ⟨_, rfl, k⟩
        · replace k := it_f (c := (m.F 42 29) = (nI 0)) c158 k
          refine wl_lld (pc' := 71) rfl e124 rfl ?_
          refine wl_lld (pc' := 73) rfl e117 rfl ?_
          refine wp_lcmp (v := lg_cmp (-1099511627776) ((m.B 66).getD (ix x2) 0)) (pc' := 74) rfl rfl rfl ?_
          refine wp_if_le (pc' := 77) rfl rfl (fun c160 => ?_) (fun c160 => ?_)
          · replace k := it_t (c := (lg_cmp (-1099511627776) ((m.B 66).getD (ix x2) 0)) ≤ (nI 0)) c160 k
            refine wp_p (pc' := 82) (lv' := lv116) (st' := [.int (nI 0)]) rfl rfl ?_
            refine wp_p (pc' := 98) (lv' := lv116) (st' := [.int (nI 0)]) rfl rfl ?_
            exact wl_ret rfl rfl ⟨_, rfl, k⟩
          · replace k := it_f (c := (lg_cmp (-1099511627776) ((m.B 66).getD (ix x2) 0)) ≤ (nI 0)) c160 k
            refine wp_p (pc' := 78) (lv' := lv116) (st' := [.int (nI 1)]) rfl rfl ?_
            refine wp_p (pc' := 98) (lv' := lv116) (st' := [.int (nI 1)]) rfl rfl ?_
            exact wl_ret rfl rfl ⟨_, rfl, k⟩
    · replace k := it_t (c := (lg_cmp ((m.B 66).getD (ix x2) 0) 1099511627776) = (nI 0)) c114 k
      refine wp_p (pc' := 43) (lv' := lv105) (st' := [.long (-1099511627776)]) rfl rfl ?_
      refine wp_p (pc' := 52) (lv' := lv105) (st' := [.long (-1099511627776)]) rfl rfl ?_
      refine wl_st2 (pc' := 54) (k0 := 7) (v := .long (-1099511627776)) (r := []) rfl rfl (fun lv161 e162 f163 => ?_)
      have e164 := f163 0 _ e108 (by decide) (by decide) rfl
      have e165 := f163 1 _ e109 (by decide) (by decide) rfl
      have e166 := f163 2 _ e110 (by decide) (by decide) rfl
      have e167 := f163 3 _ e111 (by decide) (by decide) rfl
      have e168 := f163 4 _ e112 (by decide) (by decide) rfl
      have e169 := f163 5 _ e106 (by decide) (by decide) rfl
      refine wl_lld (pc' := 56) rfl e169 rfl ?_
      refine wl_lld (pc' := 58) rfl e162 rfl ?_
      refine wp_lcmp (v := lg_cmp (-1099511627776) (-1099511627776)) (pc' := 59) rfl rfl rfl ?_
      refine wp_if_eq (pc' := 62) rfl rfl (fun c170 => ?_) (fun c170 => ?_)
      · replace k := it_t (c := (lg_cmp (-1099511627776) (-1099511627776)) = (nI 0)) c170 k
        refine wl_ald_n (pc' := 100) rfl e164 rfl ?_
        refine wp_get (v := .ref 58) (pc' := 103) rfl (hq_42 _) rfl rfl ?_
        refine wp_p (pc' := 105) (lv' := lv161) (st' := [.int (nI 80), .ref 58]) rfl rfl ?_
        refine wl_ild_n (pc' := 106) rfl e167 rfl ?_
        refine wp_imul (v := (nI 80) * x3) (pc' := 107) rfl rfl rfl ?_
        refine wp_p (pc' := 108) (lv' := lv161) (st' := [.int (nI 4), .int ((nI 80) * x3), .ref 58]) rfl rfl ?_
        refine wl_ald_n (pc' := 109) rfl e164 rfl ?_
        refine wp_get (v := .ref 64) (pc' := 112) rfl (hq_42 _) rfl rfl ?_
        refine wl_ild_n (pc' := 113) rfl e165 rfl ?_
        obtain ⟨k171, k⟩ := k
        refine wl_iaload (g := m.A 64) (pc' := 114) rfl (hq_64 _) k171 rfl ?_
        refine wp_imul (v := (nI 4) * ((m.A 64).getD (ix x1) 0)) (pc' := 115) rfl rfl rfl ?_
        refine wp_iadd (v := ((nI 80) * x3) + ((nI 4) * ((m.A 64).getD (ix x1) 0))) (pc' := 116) rfl rfl rfl ?_
        obtain ⟨k172, k⟩ := k
        refine wl_laload (g := m.B 58) (pc' := 117) rfl (hq_58 _) k172 rfl ?_
        refine wl_st2 (pc' := 119) (k0 := 9) (v := .long ((m.B 58).getD (ix (((nI 80) * x3) + ((nI 4) * ((m.A 64).getD (ix x1) 0)))) 0)) (r := []) rfl rfl (fun lv173 e174 f175 => ?_)
        have e176 := f175 0 _ e164 (by decide) (by decide) rfl
        have e177 := f175 1 _ e165 (by decide) (by decide) rfl
        have e178 := f175 2 _ e166 (by decide) (by decide) rfl
        have e179 := f175 3 _ e167 (by decide) (by decide) rfl
        have e180 := f175 4 _ e168 (by decide) (by decide) rfl
        have e181 := f175 5 _ e169 (by decide) (by decide) rfl
        have e182 := f175 7 _ e162 (by decide) (by decide) rfl
        refine wl_ald_n (pc' := 120) rfl e176 rfl ?_
        refine wp_get (v := .ref 58) (pc' := 123) rfl (hq_42 _) rfl rfl ?_
        refine wp_p (pc' := 125) (lv' := lv173) (st' := [.int (nI 80), .ref 58]) rfl rfl ?_
        refine wl_ild_n (pc' := 126) rfl e179 rfl ?_
        refine wp_imul (v := (nI 80) * x3) (pc' := 127) rfl rfl rfl ?_
        refine wp_p (pc' := 128) (lv' := lv173) (st' := [.int (nI 4), .int ((nI 80) * x3), .ref 58]) rfl rfl ?_
        refine wl_ald_n (pc' := 129) rfl e176 rfl ?_
        refine wp_get (v := .ref 64) (pc' := 132) rfl (hq_42 _) rfl rfl ?_
        refine wl_ild_n (pc' := 133) rfl e178 rfl ?_
        obtain ⟨k183, k⟩ := k
        refine wl_iaload (g := m.A 64) (pc' := 134) rfl (hq_64 _) k183 rfl ?_
        refine wp_imul (v := (nI 4) * ((m.A 64).getD (ix x2) 0)) (pc' := 135) rfl rfl rfl ?_
        refine wp_iadd (v := ((nI 80) * x3) + ((nI 4) * ((m.A 64).getD (ix x2) 0))) (pc' := 136) rfl rfl rfl ?_
        obtain ⟨k184, k⟩ := k
        refine wl_laload (g := m.B 58) (pc' := 137) rfl (hq_58 _) k184 rfl ?_
        refine wl_st2 (pc' := 139) (k0 := 11) (v := .long ((m.B 58).getD (ix (((nI 80) * x3) + ((nI 4) * ((m.A 64).getD (ix x2) 0)))) 0)) (r := []) rfl rfl (fun lv185 e186 f187 => ?_)
        have e188 := f187 0 _ e176 (by decide) (by decide) rfl
        have e189 := f187 1 _ e177 (by decide) (by decide) rfl
        have e190 := f187 2 _ e178 (by decide) (by decide) rfl
        have e191 := f187 3 _ e179 (by decide) (by decide) rfl
        have e192 := f187 4 _ e180 (by decide) (by decide) rfl
        have e193 := f187 5 _ e181 (by decide) (by decide) rfl
        have e194 := f187 7 _ e182 (by decide) (by decide) rfl
        have e195 := f187 9 _ e174 (by decide) (by decide) rfl
        refine wl_lld (pc' := 141) rfl e195 rfl ?_
        refine wl_lld (pc' := 143) rfl e186 rfl ?_
        refine wp_lcmp (v := lg_cmp ((m.B 58).getD (ix (((nI 80) * x3) + ((nI 4) * ((m.A 64).getD (ix x1) 0)))) 0) ((m.B 58).getD (ix (((nI 80) * x3) + ((nI 4) * ((m.A 64).getD (ix x2) 0)))) 0)) (pc' := 144) rfl rfl rfl ?_
        refine wp_if_ne (pc' := 147) rfl rfl (fun c196 => ?_) (fun c196 => ?_)
        · replace k := it_f (c := (lg_cmp ((m.B 58).getD (ix (((nI 80) * x3) + ((nI 4) * ((m.A 64).getD (ix x1) 0)))) 0) ((m.B 58).getD (ix (((nI 80) * x3) + ((nI 4) * ((m.A 64).getD (ix x2) 0)))) 0)) = (nI 0)) c196 k
          exact k _ ⟨e195, e186, trivial⟩
        · replace k := it_t (c := (lg_cmp ((m.B 58).getD (ix (((nI 80) * x3) + ((nI 4) * ((m.A 64).getD (ix x1) 0)))) 0) ((m.B 58).getD (ix (((nI 80) * x3) + ((nI 4) * ((m.A 64).getD (ix x2) 0)))) 0)) = (nI 0)) c196 k
          refine wl_ild (pc' := 149) rfl e192 rfl ?_
          refine wp_if_ge (pc' := 152) rfl rfl (fun c197 => ?_) (fun c197 => ?_)
          · replace k := it_t (c := (nI 0) ≤ x4) c197 k
            refine wl_ald_n (pc' := 167) rfl e188 rfl ?_
            refine wp_get (v := .ref 58) (pc' := 170) rfl (hq_42 _) rfl rfl ?_
            refine wp_p (pc' := 172) (lv' := lv185) (st' := [.int (nI 80), .ref 58]) rfl rfl ?_
            refine wl_ild (pc' := 174) rfl e192 rfl ?_
            refine wp_imul (v := (nI 80) * x4) (pc' := 175) rfl rfl rfl ?_
            refine wp_p (pc' := 176) (lv' := lv185) (st' := [.int (nI 4), .int ((nI 80) * x4), .ref 58]) rfl rfl ?_
            refine wl_ald_n (pc' := 177) rfl e188 rfl ?_
            refine wp_get (v := .ref 65) (pc' := 180) rfl (hq_42 _) rfl rfl ?_
            refine wl_ild_n (pc' := 181) rfl e189 rfl ?_
            obtain ⟨k198, k⟩ := k
            refine wl_iaload (g := m.A 65) (pc' := 182) rfl (hq_65 _) k198 rfl ?_
            refine wp_imul (v := (nI 4) * ((m.A 65).getD (ix x1) 0)) (pc' := 183) rfl rfl rfl ?_
            refine wp_iadd (v := ((nI 80) * x4) + ((nI 4) * ((m.A 65).getD (ix x1) 0))) (pc' := 184) rfl rfl rfl ?_
            obtain ⟨k199, k⟩ := k
            refine wl_laload (g := m.B 58) (pc' := 185) rfl (hq_58 _) k199 rfl ?_
            refine wl_ald_n (pc' := 186) rfl e188 rfl ?_
            refine wp_get (v := .ref 58) (pc' := 189) rfl (hq_42 _) rfl rfl ?_
            refine wp_p (pc' := 191) (lv' := lv185) (st' := [.int (nI 80), .ref 58, .long ((m.B 58).getD (ix (((nI 80) * x4) + ((nI 4) * ((m.A 65).getD (ix x1) 0)))) 0)]) rfl rfl ?_
            refine wl_ild (pc' := 193) rfl e192 rfl ?_
            refine wp_imul (v := (nI 80) * x4) (pc' := 194) rfl rfl rfl ?_
            refine wp_p (pc' := 195) (lv' := lv185) (st' := [.int (nI 4), .int ((nI 80) * x4), .ref 58, .long ((m.B 58).getD (ix (((nI 80) * x4) + ((nI 4) * ((m.A 65).getD (ix x1) 0)))) 0)]) rfl rfl ?_
            refine wl_ald_n (pc' := 196) rfl e188 rfl ?_
            refine wp_get (v := .ref 65) (pc' := 199) rfl (hq_42 _) rfl rfl ?_
            refine wl_ild_n (pc' := 200) rfl e190 rfl ?_
            obtain ⟨k200, k⟩ := k
            refine wl_iaload (g := m.A 65) (pc' := 201) rfl (hq_65 _) k200 rfl ?_
            refine wp_imul (v := (nI 4) * ((m.A 65).getD (ix x2) 0)) (pc' := 202) rfl rfl rfl ?_
            refine wp_iadd (v := ((nI 80) * x4) + ((nI 4) * ((m.A 65).getD (ix x2) 0))) (pc' := 203) rfl rfl rfl ?_
            obtain ⟨k201, k⟩ := k
            refine wl_laload (g := m.B 58) (pc' := 204) rfl (hq_58 _) k201 rfl ?_
            refine wp_lcmp (v := lg_cmp ((m.B 58).getD (ix (((nI 80) * x4) + ((nI 4) * ((m.A 65).getD (ix x1) 0)))) 0) ((m.B 58).getD (ix (((nI 80) * x4) + ((nI 4) * ((m.A 65).getD (ix x2) 0)))) 0)) (pc' := 205) rfl rfl rfl ?_
            refine wp_if_ge (pc' := 208) rfl rfl (fun c202 => ?_) (fun c202 => ?_)
            · replace k := it_t (c := (nI 0) ≤ (lg_cmp ((m.B 58).getD (ix (((nI 80) * x4) + ((nI 4) * ((m.A 65).getD (ix x1) 0)))) 0) ((m.B 58).getD (ix (((nI 80) * x4) + ((nI 4) * ((m.A 65).getD (ix x2) 0)))) 0))) c202 k
              refine wp_p (pc' := 213) (lv' := lv185) (st' := [.int (nI 0)]) rfl rfl ?_
              exact wl_ret rfl rfl ⟨_, rfl, k⟩
            · replace k := it_f (c := (nI 0) ≤ (lg_cmp ((m.B 58).getD (ix (((nI 80) * x4) + ((nI 4) * ((m.A 65).getD (ix x1) 0)))) 0) ((m.B 58).getD (ix (((nI 80) * x4) + ((nI 4) * ((m.A 65).getD (ix x2) 0)))) 0))) c202 k
              refine wp_p (pc' := 209) (lv' := lv185) (st' := [.int (nI 1)]) rfl rfl ?_
              refine wp_p (pc' := 213) (lv' := lv185) (st' := [.int (nI 1)]) rfl rfl ?_
              exact wl_ret rfl rfl ⟨_, rfl, k⟩
          · replace k := it_f (c := (nI 0) ≤ x4) c197 k
            exact k _ ⟨e195, e186, trivial⟩
      · replace k := it_f (c := (lg_cmp (-1099511627776) (-1099511627776)) = (nI 0)) c170 k
        refine wl_ald_n (pc' := 63) rfl e164 rfl ?_
        refine wp_get (v := .int (m.F 42 29)) (pc' := 66) rfl (hq_42 _) rfl rfl ?_
        refine wp_if_eq (pc' := 69) rfl rfl (fun c203 => ?_) (fun c203 => ?_)
        · replace k := it_t (c := (m.F 42 29) = (nI 0)) c203 k
          refine wl_lld (pc' := 87) rfl e169 rfl ?_
          refine wl_lld (pc' := 89) rfl e162 rfl ?_
          refine wp_lcmp (v := lg_cmp (-1099511627776) (-1099511627776)) (pc' := 90) rfl rfl rfl ?_
          refine wp_if_ge (pc' := 93) rfl rfl (fun c204 => ?_) (fun c204 => ?_)
          · replace k := it_t (c := (nI 0) ≤ (lg_cmp (-1099511627776) (-1099511627776))) c204 k
            refine wp_p (pc' := 98) (lv' := lv161) (st' := [.int (nI 0)]) rfl rfl ?_
            exact wl_ret rfl rfl ⟨_, rfl, k⟩
          · replace k := it_f (c := (nI 0) ≤ (lg_cmp (-1099511627776) (-1099511627776))) c204 k
            refine wp_p (pc' := 94) (lv' := lv161) (st' := [.int (nI 1)]) rfl rfl ?_
            refine wp_p (pc' := 98) (lv' := lv161) (st' := [.int (nI 1)]) rfl rfl ?_
            exact wl_ret rfl rfl ⟨_, rfl, k⟩
        · replace k := it_f (c := (m.F 42 29) = (nI 0)) c203 k
          refine wl_lld (pc' := 71) rfl e169 rfl ?_
          refine wl_lld (pc' := 73) rfl e162 rfl ?_
          refine wp_lcmp (v := lg_cmp (-1099511627776) (-1099511627776)) (pc' := 74) rfl rfl rfl ?_
          refine wp_if_le (pc' := 77) rfl rfl (fun c205 => ?_) (fun c205 => ?_)
          · replace k := it_t (c := (lg_cmp (-1099511627776) (-1099511627776)) ≤ (nI 0)) c205 k
            refine wp_p (pc' := 82) (lv' := lv161) (st' := [.int (nI 0)]) rfl rfl ?_
            refine wp_p (pc' := 98) (lv' := lv161) (st' := [.int (nI 0)]) rfl rfl ?_
            exact wl_ret rfl rfl ⟨_, rfl, k⟩
          · replace k := it_f (c := (lg_cmp (-1099511627776) (-1099511627776)) ≤ (nI 0)) c205 k
            refine wp_p (pc' := 78) (lv' := lv161) (st' := [.int (nI 1)]) rfl rfl ?_
            refine wp_p (pc' := 98) (lv' := lv161) (st' := [.int (nI 1)]) rfl rfl ?_
            exact wl_ret rfl rfl ⟨_, rfl, k⟩
set_option maxRecDepth 20000 in
theorem sg_186_152 {d : Nat} {m : Mm} {K : Option Value → Mm → Prop} (y9 : Int64) (y11 : Int64) (k : (if (nI 0) ≤ (lg_cmp y9 y11) then K (some (.int (nI 0))) m else K (some (.int (nI 1))) m)) : WH d 186 152 [(9, .long y9), (11, .long y11)] [] m K := by
  intro lv0 el
  obtain ⟨e_9, e_11, _⟩ := el
  refine wl_lld (pc' := 154) rfl e_9 rfl ?_
  refine wl_lld (pc' := 156) rfl e_11 rfl ?_
  refine wp_lcmp (v := lg_cmp y9 y11) (pc' := 157) rfl rfl rfl ?_
  refine wp_if_ge (pc' := 160) rfl rfl (fun c1 => ?_) (fun c1 => ?_)
  · replace k := it_t (c := (nI 0) ≤ (lg_cmp y9 y11)) c1 k
    refine wp_p (pc' := 165) (lv' := lv0) (st' := [.int (nI 0)]) rfl rfl ?_
    exact wl_ret rfl rfl ⟨_, rfl, k⟩
  · replace k := it_f (c := (nI 0) ≤ (lg_cmp y9 y11)) c1 k
    refine wp_p (pc' := 161) (lv' := lv0) (st' := [.int (nI 1)]) rfl rfl ?_
    refine wp_p (pc' := 165) (lv' := lv0) (st' := [.int (nI 1)]) rfl rfl ?_
    exact wl_ret rfl rfl ⟨_, rfl, k⟩
/-! 187: QueryTablesModel.rows -/
set_option maxRecDepth 20000 in
theorem sp_187 {d : Nat} {m : Mm} {K : Option Value → Mm → Prop} (k : K (some (.int (m.F 42 53))) m) : WP d 187 [.ref 42] m K := by
  have e_0 : sm_lk (lv_args 0 [.ref 42]) 0 = some (.ref 42) := rfl
  show sm_wp d 187 0 (lv_args 0 [.ref 42]) [] (hp m) (WQ K)
  generalize lv_args 0 [.ref 42] = lv0 at *
  refine wl_ald_n (pc' := 1) rfl e_0 rfl ?_
  refine wp_get (v := .int (m.F 42 53)) (pc' := 4) rfl (hq_42 _) rfl rfl ?_
  exact wl_ret rfl rfl ⟨_, rfl, k⟩
/-! 188: QueryTablesModel.width -/
set_option maxRecDepth 20000 in
theorem sp_188 {d : Nat} {m : Mm} {K : Option Value → Mm → Prop} (k : K (some (.int (m.F 42 54))) m) : WP d 188 [.ref 42] m K := by
  have e_0 : sm_lk (lv_args 0 [.ref 42]) 0 = some (.ref 42) := rfl
  show sm_wp d 188 0 (lv_args 0 [.ref 42]) [] (hp m) (WQ K)
  generalize lv_args 0 [.ref 42] = lv0 at *
  refine wl_ald_n (pc' := 1) rfl e_0 rfl ?_
  refine wp_get (v := .int (m.F 42 54)) (pc' := 4) rfl (hq_42 _) rfl rfl ?_
  exact wl_ret rfl rfl ⟨_, rfl, k⟩
/-! 189: QueryTablesModel.value -/
set_option maxRecDepth 20000 in
theorem sp_189 {d : Nat} {m : Mm} {K : Option Value → Mm → Prop} (x1 : Int32) (x2 : Int32) (k : (if (m.F 42 54) ≤ (nI 0) then K (some (.long 2199023255552)) m else (if x1 < (nI 0) then K (some (.long 2199023255552)) m else (if (m.F 42 53) ≤ x1 then K (some (.long 2199023255552)) m else (if x2 < (nI 0) then K (some (.long 2199023255552)) m else (if (m.F 42 54) ≤ x2 then K (some (.long 2199023255552)) m else ok (m.B 68).length (((nI 3) * x1) + x2) ∧ K (some (.long ((m.B 68).getD (ix (((nI 3) * x1) + x2)) 0))) m)))))) : WP d 189 [.ref 42, .int x1, .int x2] m K := by
  have e_0 : sm_lk (lv_args 0 [.ref 42, .int x1, .int x2]) 0 = some (.ref 42) := rfl
  have e_1 : sm_lk (lv_args 0 [.ref 42, .int x1, .int x2]) 1 = some (.int x1) := rfl
  have e_2 : sm_lk (lv_args 0 [.ref 42, .int x1, .int x2]) 2 = some (.int x2) := rfl
  show sm_wp d 189 0 (lv_args 0 [.ref 42, .int x1, .int x2]) [] (hp m) (WQ K)
  generalize lv_args 0 [.ref 42, .int x1, .int x2] = lv0 at *
  refine wl_ald_n (pc' := 1) rfl e_0 rfl ?_
  refine wp_get (v := .int (m.F 42 54)) (pc' := 4) rfl (hq_42 _) rfl rfl ?_
  refine wp_if_le (pc' := 7) rfl rfl (fun c1 => ?_) (fun c1 => ?_)
  · replace k := it_t (c := (m.F 42 54) ≤ (nI 0)) c1 k
    refine wp_p (pc' := 47) (lv' := lv0) (st' := [.long 2199023255552]) rfl rfl ?_
    exact wp_r rfl rfl ⟨_, rfl, k⟩
  · replace k := it_f (c := (m.F 42 54) ≤ (nI 0)) c1 k
    refine wl_ild_n (pc' := 8) rfl e_1 rfl ?_
    refine wp_if_lt (pc' := 11) rfl rfl (fun c2 => ?_) (fun c2 => ?_)
    · replace k := it_t (c := x1 < (nI 0)) c2 k
      refine wp_p (pc' := 47) (lv' := lv0) (st' := [.long 2199023255552]) rfl rfl ?_
      exact wp_r rfl rfl ⟨_, rfl, k⟩
    · replace k := it_f (c := x1 < (nI 0)) c2 k
      refine wl_ild_n (pc' := 12) rfl e_1 rfl ?_
      refine wl_ald_n (pc' := 13) rfl e_0 rfl ?_
      refine wp_get (v := .int (m.F 42 53)) (pc' := 16) rfl (hq_42 _) rfl rfl ?_
      refine wp_ic_ge (pc' := 19) rfl rfl (fun c3 => ?_) (fun c3 => ?_)
      · replace k := it_t (c := (m.F 42 53) ≤ x1) c3 k
        refine wp_p (pc' := 47) (lv' := lv0) (st' := [.long 2199023255552]) rfl rfl ?_
        exact wp_r rfl rfl ⟨_, rfl, k⟩
      · replace k := it_f (c := (m.F 42 53) ≤ x1) c3 k
        refine wl_ild_n (pc' := 20) rfl e_2 rfl ?_
        refine wp_if_lt (pc' := 23) rfl rfl (fun c4 => ?_) (fun c4 => ?_)
        · replace k := it_t (c := x2 < (nI 0)) c4 k
          refine wp_p (pc' := 47) (lv' := lv0) (st' := [.long 2199023255552]) rfl rfl ?_
          exact wp_r rfl rfl ⟨_, rfl, k⟩
        · replace k := it_f (c := x2 < (nI 0)) c4 k
          refine wl_ild_n (pc' := 24) rfl e_2 rfl ?_
          refine wl_ald_n (pc' := 25) rfl e_0 rfl ?_
          refine wp_get (v := .int (m.F 42 54)) (pc' := 28) rfl (hq_42 _) rfl rfl ?_
          refine wp_ic_ge (pc' := 31) rfl rfl (fun c5 => ?_) (fun c5 => ?_)
          · replace k := it_t (c := (m.F 42 54) ≤ x2) c5 k
            refine wp_p (pc' := 47) (lv' := lv0) (st' := [.long 2199023255552]) rfl rfl ?_
            exact wp_r rfl rfl ⟨_, rfl, k⟩
          · replace k := it_f (c := (m.F 42 54) ≤ x2) c5 k
            refine wl_ald_n (pc' := 32) rfl e_0 rfl ?_
            refine wp_get (v := .ref 68) (pc' := 35) rfl (hq_42 _) rfl rfl ?_
            refine wp_p (pc' := 36) (lv' := lv0) (st' := [.int (nI 3), .ref 68]) rfl rfl ?_
            refine wl_ild_n (pc' := 37) rfl e_1 rfl ?_
            refine wp_imul (v := (nI 3) * x1) (pc' := 38) rfl rfl rfl ?_
            refine wl_ild_n (pc' := 39) rfl e_2 rfl ?_
            refine wp_iadd (v := ((nI 3) * x1) + x2) (pc' := 40) rfl rfl rfl ?_
            obtain ⟨k6, k⟩ := k
            refine wl_laload (g := m.B 68) (pc' := 41) rfl (hq_68 _) k6 rfl ?_
            refine wp_p (pc' := 47) (lv' := lv0) (st' := [.long ((m.B 68).getD (ix (((nI 3) * x1) + x2)) 0)]) rfl rfl ?_
            exact wp_r rfl rfl ⟨_, rfl, k⟩
/-! 190: QueryTablesModel.reads -/
set_option maxRecDepth 20000 in
theorem sp_190 {d : Nat} {m : Mm} {K : Option Value → Mm → Prop} (k : K (some (.int (m.F 42 56))) m) : WP d 190 [.ref 42] m K := by
  have e_0 : sm_lk (lv_args 0 [.ref 42]) 0 = some (.ref 42) := rfl
  show sm_wp d 190 0 (lv_args 0 [.ref 42]) [] (hp m) (WQ K)
  generalize lv_args 0 [.ref 42] = lv0 at *
  refine wl_ald_n (pc' := 1) rfl e_0 rfl ?_
  refine wp_get (v := .int (m.F 42 56)) (pc' := 4) rfl (hq_42 _) rfl rfl ?_
  exact wl_ret rfl rfl ⟨_, rfl, k⟩
/-! 191: QueryTablesModel.plan -/
set_option maxRecDepth 20000 in
theorem sp_191 {d : Nat} {m : Mm} {K : Option Value → Mm → Prop} (k : K (some (.int (m.F 42 57))) m) : WP d 191 [.ref 42] m K := by
  have e_0 : sm_lk (lv_args 0 [.ref 42]) 0 = some (.ref 42) := rfl
  show sm_wp d 191 0 (lv_args 0 [.ref 42]) [] (hp m) (WQ K)
  generalize lv_args 0 [.ref 42] = lv0 at *
  refine wl_ald_n (pc' := 1) rfl e_0 rfl ?_
  refine wp_get (v := .int (m.F 42 57)) (pc' := 4) rfl (hq_42 _) rfl rfl ?_
  exact wl_ret rfl rfl ⟨_, rfl, k⟩
/-! 192: QueryTablesModel.isTable -/
set_option maxRecDepth 20000 in
theorem sp_192 {d : Nat} {m : Mm} {K : Option Value → Mm → Prop} (x0 : Int32) (k : (if x0 < (nI 0) then K (some (.int (nI 0))) m else (if (nI 2) < x0 then K (some (.int (nI 0))) m else K (some (.int (nI 1))) m))) : WP d 192 [.int x0] m K := by
  have e_0 : sm_lk (lv_args 0 [.int x0]) 0 = some (.int x0) := rfl
  show sm_wp d 192 0 (lv_args 0 [.int x0]) [] (hp m) (WQ K)
  generalize lv_args 0 [.int x0] = lv0 at *
  refine wl_ild_n (pc' := 1) rfl e_0 rfl ?_
  refine wp_if_lt (pc' := 4) rfl rfl (fun c1 => ?_) (fun c1 => ?_)
  · replace k := it_t (c := x0 < (nI 0)) c1 k
    refine wp_p (pc' := 14) (lv' := lv0) (st' := [.int (nI 0)]) rfl rfl ?_
    exact wl_ret rfl rfl ⟨_, rfl, k⟩
  · replace k := it_f (c := x0 < (nI 0)) c1 k
    refine wl_ild_n (pc' := 5) rfl e_0 rfl ?_
    refine wp_p (pc' := 6) (lv' := lv0) (st' := [.int (nI 2), .int x0]) rfl rfl ?_
    refine wp_ic_gt (pc' := 9) rfl rfl (fun c2 => ?_) (fun c2 => ?_)
    · replace k := it_t (c := (nI 2) < x0) c2 k
      refine wp_p (pc' := 14) (lv' := lv0) (st' := [.int (nI 0)]) rfl rfl ?_
      exact wl_ret rfl rfl ⟨_, rfl, k⟩
    · replace k := it_f (c := (nI 2) < x0) c2 k
      refine wp_p (pc' := 10) (lv' := lv0) (st' := [.int (nI 1)]) rfl rfl ?_
      refine wp_p (pc' := 14) (lv' := lv0) (st' := [.int (nI 1)]) rfl rfl ?_
      exact wl_ret rfl rfl ⟨_, rfl, k⟩
/-! 193: QueryTablesModel.columns -/
set_option maxRecDepth 20000 in
theorem sp_193 {d : Nat} {m : Mm} {K : Option Value → Mm → Prop} (x1 : Int32) (k : WP d 192 [.int x1] m (fun v m1 => ∃ w2, v = some (.int w2) ∧ (if w2 = (nI 0) then K (some (.int (nI 0))) m1 else ok (m1.A 56).length x1 ∧ K (some (.int ((m1.A 56).getD (ix x1) 0))) m1))) : WP (d + 1) 193 [.ref 42, .int x1] m K := by
  have e_0 : sm_lk (lv_args 0 [.ref 42, .int x1]) 0 = some (.ref 42) := rfl
  have e_1 : sm_lk (lv_args 0 [.ref 42, .int x1]) 1 = some (.int x1) := rfl
  show sm_wp (d + 1) 193 0 (lv_args 0 [.ref 42, .int x1]) [] (hp m) (WQ K)
  generalize lv_args 0 [.ref 42, .int x1] = lv0 at *
  refine wl_ild_n (pc' := 1) rfl e_1 rfl ?_
  refine wl_cs (As := [.int x1]) (r := []) (pc' := 4) rfl rfl rfl rfl k ?_
  rintro _ m1 ⟨w2, rfl, k⟩
  show sm_wp (d + 1) 193 4 lv0 [.int w2] (hp m1) (WQ K)
  refine wp_if_eq (pc' := 7) rfl rfl (fun c3 => ?_) (fun c3 => ?_)
  · replace k := it_t (c := w2 = (nI 0)) c3 k
    refine wp_p (pc' := 17) (lv' := lv0) (st' := [.int (nI 0)]) rfl rfl ?_
    exact wl_ret rfl rfl ⟨_, rfl, k⟩
  · replace k := it_f (c := w2 = (nI 0)) c3 k
    refine wl_ald_n (pc' := 8) rfl e_0 rfl ?_
    refine wp_get (v := .ref 56) (pc' := 11) rfl (hq_42 _) rfl rfl ?_
    refine wl_ild_n (pc' := 12) rfl e_1 rfl ?_
    obtain ⟨k4, k⟩ := k
    refine wl_iaload (g := m1.A 56) (pc' := 13) rfl (hq_56 _) k4 rfl ?_
    refine wp_p (pc' := 17) (lv' := lv0) (st' := [.int ((m1.A 56).getD (ix x1) 0)]) rfl rfl ?_
    exact wl_ret rfl rfl ⟨_, rfl, k⟩
/-! 194: QueryTablesModel.size -/
set_option maxRecDepth 20000 in
theorem sp_194 {d : Nat} {m : Mm} {K : Option Value → Mm → Prop} (x1 : Int32) (k : WP d 192 [.int x1] m (fun v m1 => ∃ w2, v = some (.int w2) ∧ (if w2 = (nI 0) then K (some (.int (nI 0))) m1 else ok (m1.A 57).length x1 ∧ K (some (.int ((m1.A 57).getD (ix x1) 0))) m1))) : WP (d + 1) 194 [.ref 42, .int x1] m K := by
  have e_0 : sm_lk (lv_args 0 [.ref 42, .int x1]) 0 = some (.ref 42) := rfl
  have e_1 : sm_lk (lv_args 0 [.ref 42, .int x1]) 1 = some (.int x1) := rfl
  show sm_wp (d + 1) 194 0 (lv_args 0 [.ref 42, .int x1]) [] (hp m) (WQ K)
  generalize lv_args 0 [.ref 42, .int x1] = lv0 at *
  refine wl_ild_n (pc' := 1) rfl e_1 rfl ?_
  refine wl_cs (As := [.int x1]) (r := []) (pc' := 4) rfl rfl rfl rfl k ?_
  rintro _ m1 ⟨w2, rfl, k⟩
  show sm_wp (d + 1) 194 4 lv0 [.int w2] (hp m1) (WQ K)
  refine wp_if_eq (pc' := 7) rfl rfl (fun c3 => ?_) (fun c3 => ?_)
  · replace k := it_t (c := w2 = (nI 0)) c3 k
    refine wp_p (pc' := 17) (lv' := lv0) (st' := [.int (nI 0)]) rfl rfl ?_
    exact wl_ret rfl rfl ⟨_, rfl, k⟩
  · replace k := it_f (c := w2 = (nI 0)) c3 k
    refine wl_ald_n (pc' := 8) rfl e_0 rfl ?_
    refine wp_get (v := .ref 57) (pc' := 11) rfl (hq_42 _) rfl rfl ?_
    refine wl_ild_n (pc' := 12) rfl e_1 rfl ?_
    obtain ⟨k4, k⟩ := k
    refine wl_iaload (g := m1.A 57) (pc' := 13) rfl (hq_57 _) k4 rfl ?_
    refine wp_p (pc' := 17) (lv' := lv0) (st' := [.int ((m1.A 57).getD (ix x1) 0)]) rfl rfl ?_
    exact wl_ret rfl rfl ⟨_, rfl, k⟩
/-! 195: QueryTablesModel.indexed -/
set_option maxRecDepth 20000 in
theorem sp_195 {d : Nat} {m : Mm} {K : Option Value → Mm → Prop} (x1 : Int32) (x2 : Int32) (k : WP d 192 [.int x1] m (fun v m1 => ∃ w2, v = some (.int w2) ∧ (if w2 = (nI 0) then K (some (.int (nI 0))) m1 else (if x2 < (nI 0) then K (some (.int (nI 0))) m1 else (if (nI 3) < x2 then K (some (.int (nI 0))) m1 else ok (m1.A 59).length (((nI 4) * x1) + x2) ∧ (if ((m1.A 59).getD (ix (((nI 4) * x1) + x2)) 0) = (nI 0) then K (some (.int (nI 0))) m1 else K (some (.int (nI 1))) m1)))))) : WP (d + 1) 195 [.ref 42, .int x1, .int x2] m K := by
  have e_0 : sm_lk (lv_args 0 [.ref 42, .int x1, .int x2]) 0 = some (.ref 42) := rfl
  have e_1 : sm_lk (lv_args 0 [.ref 42, .int x1, .int x2]) 1 = some (.int x1) := rfl
  have e_2 : sm_lk (lv_args 0 [.ref 42, .int x1, .int x2]) 2 = some (.int x2) := rfl
  show sm_wp (d + 1) 195 0 (lv_args 0 [.ref 42, .int x1, .int x2]) [] (hp m) (WQ K)
  generalize lv_args 0 [.ref 42, .int x1, .int x2] = lv0 at *
  refine wl_ild_n (pc' := 1) rfl e_1 rfl ?_
  refine wl_cs (As := [.int x1]) (r := []) (pc' := 4) rfl rfl rfl rfl k ?_
  rintro _ m1 ⟨w2, rfl, k⟩
  show sm_wp (d + 1) 195 4 lv0 [.int w2] (hp m1) (WQ K)
  refine wp_if_eq (pc' := 7) rfl rfl (fun c3 => ?_) (fun c3 => ?_)
  · replace k := it_t (c := w2 = (nI 0)) c3 k
    refine wp_p (pc' := 34) (lv' := lv0) (st' := [.int (nI 0)]) rfl rfl ?_
    exact wl_ret rfl rfl ⟨_, rfl, k⟩
  · replace k := it_f (c := w2 = (nI 0)) c3 k
    refine wl_ild_n (pc' := 8) rfl e_2 rfl ?_
    refine wp_if_lt (pc' := 11) rfl rfl (fun c4 => ?_) (fun c4 => ?_)
    · replace k := it_t (c := x2 < (nI 0)) c4 k
      refine wp_p (pc' := 34) (lv' := lv0) (st' := [.int (nI 0)]) rfl rfl ?_
      exact wl_ret rfl rfl ⟨_, rfl, k⟩
    · replace k := it_f (c := x2 < (nI 0)) c4 k
      refine wl_ild_n (pc' := 12) rfl e_2 rfl ?_
      refine wp_p (pc' := 13) (lv' := lv0) (st' := [.int (nI 3), .int x2]) rfl rfl ?_
      refine wp_ic_gt (pc' := 16) rfl rfl (fun c5 => ?_) (fun c5 => ?_)
      · replace k := it_t (c := (nI 3) < x2) c5 k
        refine wp_p (pc' := 34) (lv' := lv0) (st' := [.int (nI 0)]) rfl rfl ?_
        exact wl_ret rfl rfl ⟨_, rfl, k⟩
      · replace k := it_f (c := (nI 3) < x2) c5 k
        refine wl_ald_n (pc' := 17) rfl e_0 rfl ?_
        refine wp_get (v := .ref 59) (pc' := 20) rfl (hq_42 _) rfl rfl ?_
        refine wp_p (pc' := 21) (lv' := lv0) (st' := [.int (nI 4), .ref 59]) rfl rfl ?_
        refine wl_ild_n (pc' := 22) rfl e_1 rfl ?_
        refine wp_imul (v := (nI 4) * x1) (pc' := 23) rfl rfl rfl ?_
        refine wl_ild_n (pc' := 24) rfl e_2 rfl ?_
        refine wp_iadd (v := ((nI 4) * x1) + x2) (pc' := 25) rfl rfl rfl ?_
        obtain ⟨k6, k⟩ := k
        refine wl_baload (g := m1.A 59) (pc' := 26) rfl (hq_59 _) k6 rfl ?_
        refine wp_if_eq (pc' := 29) rfl rfl (fun c7 => ?_) (fun c7 => ?_)
        · replace k := it_t (c := ((m1.A 59).getD (ix (((nI 4) * x1) + x2)) 0) = (nI 0)) c7 k
          refine wp_p (pc' := 34) (lv' := lv0) (st' := [.int (nI 0)]) rfl rfl ?_
          exact wl_ret rfl rfl ⟨_, rfl, k⟩
        · replace k := it_f (c := ((m1.A 59).getD (ix (((nI 4) * x1) + x2)) 0) = (nI 0)) c7 k
          refine wp_p (pc' := 30) (lv' := lv0) (st' := [.int (nI 1)]) rfl rfl ?_
          refine wp_p (pc' := 34) (lv' := lv0) (st' := [.int (nI 1)]) rfl rfl ?_
          exact wl_ret rfl rfl ⟨_, rfl, k⟩
/-! 196: QueryTablesModel.cell -/
set_option maxRecDepth 20000 in
theorem sp_196 {d : Nat} {m : Mm} {K : Option Value → Mm → Prop} (x1 : Int32) (x2 : Int32) (x3 : Int32) (k : WP d 192 [.int x1] m (fun v m1 => ∃ w2, v = some (.int w2) ∧ (if w2 = (nI 0) then K (some (.long 2199023255552)) m1 else (if x2 < (nI 0) then K (some (.long 2199023255552)) m1 else ok (m1.A 57).length x1 ∧ (if ((m1.A 57).getD (ix x1) 0) ≤ x2 then K (some (.long 2199023255552)) m1 else (if x3 < (nI 0) then K (some (.long 2199023255552)) m1 else ok (m1.A 56).length x1 ∧ (if x3 < ((m1.A 56).getD (ix x1) 0) then WH (d + 1) 196 42 [(0, .ref 42), (1, .int x1), (2, .int x2), (3, .int x3), (4, .int (nI 0))] [] m1 K else K (some (.long 2199023255552)) m1))))))) : WP (d + 1) 196 [.ref 42, .int x1, .int x2, .int x3] m K := by
  have e_0 : sm_lk (lv_args 0 [.ref 42, .int x1, .int x2, .int x3]) 0 = some (.ref 42) := rfl
  have e_1 : sm_lk (lv_args 0 [.ref 42, .int x1, .int x2, .int x3]) 1 = some (.int x1) := rfl
  have e_2 : sm_lk (lv_args 0 [.ref 42, .int x1, .int x2, .int x3]) 2 = some (.int x2) := rfl
  have e_3 : sm_lk (lv_args 0 [.ref 42, .int x1, .int x2, .int x3]) 3 = some (.int x3) := rfl
  show sm_wp (d + 1) 196 0 (lv_args 0 [.ref 42, .int x1, .int x2, .int x3]) [] (hp m) (WQ K)
  generalize lv_args 0 [.ref 42, .int x1, .int x2, .int x3] = lv0 at *
  refine wl_ild_n (pc' := 1) rfl e_1 rfl ?_
  refine wl_cs (As := [.int x1]) (r := []) (pc' := 4) rfl rfl rfl rfl k ?_
  rintro _ m1 ⟨w2, rfl, k⟩
  show sm_wp (d + 1) 196 4 lv0 [.int w2] (hp m1) (WQ K)
  refine wp_if_eq (pc' := 7) rfl rfl (fun c3 => ?_) (fun c3 => ?_)
  · replace k := it_t (c := w2 = (nI 0)) c3 k
    refine wp_p (pc' := 38) (lv' := lv0) (st' := [.long 2199023255552]) rfl rfl ?_
    exact wp_r rfl rfl ⟨_, rfl, k⟩
  · replace k := it_f (c := w2 = (nI 0)) c3 k
    refine wl_ild_n (pc' := 8) rfl e_2 rfl ?_
    refine wp_if_lt (pc' := 11) rfl rfl (fun c4 => ?_) (fun c4 => ?_)
    · replace k := it_t (c := x2 < (nI 0)) c4 k
      refine wp_p (pc' := 38) (lv' := lv0) (st' := [.long 2199023255552]) rfl rfl ?_
      exact wp_r rfl rfl ⟨_, rfl, k⟩
    · replace k := it_f (c := x2 < (nI 0)) c4 k
      refine wl_ild_n (pc' := 12) rfl e_2 rfl ?_
      refine wl_ald_n (pc' := 13) rfl e_0 rfl ?_
      refine wp_get (v := .ref 57) (pc' := 16) rfl (hq_42 _) rfl rfl ?_
      refine wl_ild_n (pc' := 17) rfl e_1 rfl ?_
      obtain ⟨k5, k⟩ := k
      refine wl_iaload (g := m1.A 57) (pc' := 18) rfl (hq_57 _) k5 rfl ?_
      refine wp_ic_ge (pc' := 21) rfl rfl (fun c6 => ?_) (fun c6 => ?_)
      · replace k := it_t (c := ((m1.A 57).getD (ix x1) 0) ≤ x2) c6 k
        refine wp_p (pc' := 38) (lv' := lv0) (st' := [.long 2199023255552]) rfl rfl ?_
        exact wp_r rfl rfl ⟨_, rfl, k⟩
      · replace k := it_f (c := ((m1.A 57).getD (ix x1) 0) ≤ x2) c6 k
        refine wl_ild_n (pc' := 22) rfl e_3 rfl ?_
        refine wp_if_lt (pc' := 25) rfl rfl (fun c7 => ?_) (fun c7 => ?_)
        · replace k := it_t (c := x3 < (nI 0)) c7 k
          refine wp_p (pc' := 38) (lv' := lv0) (st' := [.long 2199023255552]) rfl rfl ?_
          exact wp_r rfl rfl ⟨_, rfl, k⟩
        · replace k := it_f (c := x3 < (nI 0)) c7 k
          refine wl_ild_n (pc' := 26) rfl e_3 rfl ?_
          refine wl_ald_n (pc' := 27) rfl e_0 rfl ?_
          refine wp_get (v := .ref 56) (pc' := 30) rfl (hq_42 _) rfl rfl ?_
          refine wl_ild_n (pc' := 31) rfl e_1 rfl ?_
          obtain ⟨k8, k⟩ := k
          refine wl_iaload (g := m1.A 56) (pc' := 32) rfl (hq_56 _) k8 rfl ?_
          refine wp_ic_lt (pc' := 35) rfl rfl (fun c9 => ?_) (fun c9 => ?_)
          · replace k := it_t (c := x3 < ((m1.A 56).getD (ix x1) 0)) c9 k
            refine wp_p (pc' := 40) (lv' := lv0) (st' := [.int (nI 0)]) rfl rfl ?_
            refine wl_st1 (pc' := 42) (k0 := 4) (v := .int (nI 0)) (r := []) rfl rfl (fun lv10 e11 f12 => ?_)
            have e13 := f12 0 _ e_0 (by decide) rfl
            have e14 := f12 1 _ e_1 (by decide) rfl
            have e15 := f12 2 _ e_2 (by decide) rfl
            have e16 := f12 3 _ e_3 (by decide) rfl
            exact k _ ⟨e13, e14, e15, e16, e11, trivial⟩
          · replace k := it_f (c := x3 < ((m1.A 56).getD (ix x1) 0)) c9 k
            refine wp_p (pc' := 38) (lv' := lv0) (st' := [.long 2199023255552]) rfl rfl ?_
            exact wp_r rfl rfl ⟨_, rfl, k⟩
set_option maxRecDepth 20000 in
theorem sg_196_42 {d : Nat} {m : Mm} {K : Option Value → Mm → Prop} (x1 : Int32) (x2 : Int32) (x3 : Int32) (x4 : Int32) (k : ok (m.A 57).length x1 ∧ (if ((m.A 57).getD (ix x1) 0) ≤ x4 then K (some (.long 2199023255552)) m else WH d 196 59 [(0, .ref 42), (1, .int x1), (2, .int x2), (3, .int x3), (4, .int x4), (5, .int (nI 0)), (6, .int (nI 0))] [] m K)) : WH d 196 42 [(0, .ref 42), (1, .int x1), (2, .int x2), (3, .int x3), (4, .int x4)] [] m K := by
  intro lv0 el
  obtain ⟨e_0, e_1, e_2, e_3, e_4, _⟩ := el
  refine wl_ild (pc' := 44) rfl e_4 rfl ?_
  refine wl_ald_n (pc' := 45) rfl e_0 rfl ?_
  refine wp_get (v := .ref 57) (pc' := 48) rfl (hq_42 _) rfl rfl ?_
  refine wl_ild_n (pc' := 49) rfl e_1 rfl ?_
  obtain ⟨k1, k⟩ := k
  refine wl_iaload (g := m.A 57) (pc' := 50) rfl (hq_57 _) k1 rfl ?_
  refine wp_ic_ge (pc' := 53) rfl rfl (fun c2 => ?_) (fun c2 => ?_)
  · replace k := it_t (c := ((m.A 57).getD (ix x1) 0) ≤ x4) c2 k
    refine wp_p (pc' := 151) (lv' := lv0) (st' := [.long 2199023255552]) rfl rfl ?_
    exact wp_r rfl rfl ⟨_, rfl, k⟩
  · replace k := it_f (c := ((m.A 57).getD (ix x1) 0) ≤ x4) c2 k
    refine wp_p (pc' := 54) (lv' := lv0) (st' := [.int (nI 0)]) rfl rfl ?_
    refine wl_st1 (pc' := 56) (k0 := 5) (v := .int (nI 0)) (r := []) rfl rfl (fun lv3 e4 f5 => ?_)
    have e6 := f5 0 _ e_0 (by decide) rfl
    have e7 := f5 1 _ e_1 (by decide) rfl
    have e8 := f5 2 _ e_2 (by decide) rfl
    have e9 := f5 3 _ e_3 (by decide) rfl
    have e10 := f5 4 _ e_4 (by decide) rfl
    refine wp_p (pc' := 57) (lv' := lv3) (st' := [.int (nI 0)]) rfl rfl ?_
    refine wl_st1 (pc' := 59) (k0 := 6) (v := .int (nI 0)) (r := []) rfl rfl (fun lv11 e12 f13 => ?_)
    have e14 := f13 0 _ e6 (by decide) rfl
    have e15 := f13 1 _ e7 (by decide) rfl
    have e16 := f13 2 _ e8 (by decide) rfl
    have e17 := f13 3 _ e9 (by decide) rfl
    have e18 := f13 4 _ e10 (by decide) rfl
    have e19 := f13 5 _ e4 (by decide) rfl
    exact k _ ⟨e14, e15, e16, e17, e18, e19, e12, trivial⟩
set_option maxRecDepth 20000 in
theorem sg_196_59 {d : Nat} {m : Mm} {K : Option Value → Mm → Prop} (x1 : Int32) (x2 : Int32) (x3 : Int32) (x4 : Int32) (x5 : Int32) (x6 : Int32) (k : ok (m.A 57).length x1 ∧ (if ((m.A 57).getD (ix x1) 0) ≤ x6 then (if x5 = x2 then ok (m.B 58).length ((((nI 80) * x1) + ((nI 4) * x4)) + x3) ∧ K (some (.long ((m.B 58).getD (ix ((((nI 80) * x1) + ((nI 4) * x4)) + x3)) 0))) m else WH d 196 42 [(0, .ref 42), (1, .int x1), (2, .int x2), (3, .int x3), (4, .int (x4 + nI 1))] [] m K) else ok (m.B 58).length (((nI 80) * x1) + ((nI 4) * x6)) ∧ ok (m.B 58).length (((nI 80) * x1) + ((nI 4) * x4)) ∧ (if (nI 0) ≤ (lg_cmp ((m.B 58).getD (ix (((nI 80) * x1) + ((nI 4) * x6))) 0) ((m.B 58).getD (ix (((nI 80) * x1) + ((nI 4) * x4))) 0)) then WH d 196 59 [(0, .ref 42), (1, .int x1), (2, .int x2), (3, .int x3), (4, .int x4), (5, .int x5), (6, .int (x6 + nI 1))] [] m K else WH d 196 59 [(0, .ref 42), (1, .int x1), (2, .int x2), (3, .int x3), (4, .int x4), (5, .int (x5 + (nI 1))), (6, .int (x6 + nI 1))] [] m K))) : WH d 196 59 [(0, .ref 42), (1, .int x1), (2, .int x2), (3, .int x3), (4, .int x4), (5, .int x5), (6, .int x6)] [] m K := by
  intro lv0 el
  obtain ⟨e_0, e_1, e_2, e_3, e_4, e_5, e_6, _⟩ := el
  refine wl_ild (pc' := 61) rfl e_6 rfl ?_
  refine wl_ald_n (pc' := 62) rfl e_0 rfl ?_
  refine wp_get (v := .ref 57) (pc' := 65) rfl (hq_42 _) rfl rfl ?_
  refine wl_ild_n (pc' := 66) rfl e_1 rfl ?_
  obtain ⟨k1, k⟩ := k
  refine wl_iaload (g := m.A 57) (pc' := 67) rfl (hq_57 _) k1 rfl ?_
  refine wp_ic_ge (pc' := 70) rfl rfl (fun c2 => ?_) (fun c2 => ?_)
  · replace k := it_t (c := ((m.A 57).getD (ix x1) 0) ≤ x6) c2 k
    refine wl_ild (pc' := 121) rfl e_5 rfl ?_
    refine wl_ild_n (pc' := 122) rfl e_2 rfl ?_
    refine wp_ic_ne (pc' := 125) rfl rfl (fun c3 => ?_) (fun c3 => ?_)
    · replace k := it_f (c := x5 = x2) c3 k
      refine wl_iinc (pc' := 145) (v := x4 + nI 1) rfl e_4 rfl rfl rfl (fun lv4 e5 f6 => ?_)
      have e7 := f6 0 _ e_0 (by decide) rfl
      have e8 := f6 1 _ e_1 (by decide) rfl
      have e9 := f6 2 _ e_2 (by decide) rfl
      have e10 := f6 3 _ e_3 (by decide) rfl
      have e11 := f6 5 _ e_5 (by decide) rfl
      have e12 := f6 6 _ e_6 (by decide) rfl
      refine wp_p (pc' := 42) (lv' := lv4) (st' := []) rfl rfl ?_
      exact k _ ⟨e7, e8, e9, e10, e5, trivial⟩
    · replace k := it_t (c := x5 = x2) c3 k
      refine wl_ald_n (pc' := 126) rfl e_0 rfl ?_
      refine wp_get (v := .ref 58) (pc' := 129) rfl (hq_42 _) rfl rfl ?_
      refine wp_p (pc' := 131) (lv' := lv0) (st' := [.int (nI 80), .ref 58]) rfl rfl ?_
      refine wl_ild_n (pc' := 132) rfl e_1 rfl ?_
      refine wp_imul (v := (nI 80) * x1) (pc' := 133) rfl rfl rfl ?_
      refine wp_p (pc' := 134) (lv' := lv0) (st' := [.int (nI 4), .int ((nI 80) * x1), .ref 58]) rfl rfl ?_
      refine wl_ild (pc' := 136) rfl e_4 rfl ?_
      refine wp_imul (v := (nI 4) * x4) (pc' := 137) rfl rfl rfl ?_
      refine wp_iadd (v := ((nI 80) * x1) + ((nI 4) * x4)) (pc' := 138) rfl rfl rfl ?_
      refine wl_ild_n (pc' := 139) rfl e_3 rfl ?_
      refine wp_iadd (v := (((nI 80) * x1) + ((nI 4) * x4)) + x3) (pc' := 140) rfl rfl rfl ?_
      obtain ⟨k13, k⟩ := k
      refine wl_laload (g := m.B 58) (pc' := 141) rfl (hq_58 _) k13 rfl ?_
      exact wp_r rfl rfl ⟨_, rfl, k⟩
  · replace k := it_f (c := ((m.A 57).getD (ix x1) 0) ≤ x6) c2 k
    refine wl_ald_n (pc' := 71) rfl e_0 rfl ?_
    refine wp_get (v := .ref 58) (pc' := 74) rfl (hq_42 _) rfl rfl ?_
    refine wp_p (pc' := 76) (lv' := lv0) (st' := [.int (nI 80), .ref 58]) rfl rfl ?_
    refine wl_ild_n (pc' := 77) rfl e_1 rfl ?_
    refine wp_imul (v := (nI 80) * x1) (pc' := 78) rfl rfl rfl ?_
    refine wp_p (pc' := 79) (lv' := lv0) (st' := [.int (nI 4), .int ((nI 80) * x1), .ref 58]) rfl rfl ?_
    refine wl_ild (pc' := 81) rfl e_6 rfl ?_
    refine wp_imul (v := (nI 4) * x6) (pc' := 82) rfl rfl rfl ?_
    refine wp_iadd (v := ((nI 80) * x1) + ((nI 4) * x6)) (pc' := 83) rfl rfl rfl ?_
    obtain ⟨k14, k⟩ := k
    refine wl_laload (g := m.B 58) (pc' := 84) rfl (hq_58 _) k14 rfl ?_
    refine wl_ald_n (pc' := 85) rfl e_0 rfl ?_
    refine wp_get (v := .ref 58) (pc' := 88) rfl (hq_42 _) rfl rfl ?_
    refine wp_p (pc' := 90) (lv' := lv0) (st' := [.int (nI 80), .ref 58, .long ((m.B 58).getD (ix (((nI 80) * x1) + ((nI 4) * x6))) 0)]) rfl rfl ?_
    refine wl_ild_n (pc' := 91) rfl e_1 rfl ?_
    refine wp_imul (v := (nI 80) * x1) (pc' := 92) rfl rfl rfl ?_
    refine wp_p (pc' := 93) (lv' := lv0) (st' := [.int (nI 4), .int ((nI 80) * x1), .ref 58, .long ((m.B 58).getD (ix (((nI 80) * x1) + ((nI 4) * x6))) 0)]) rfl rfl ?_
    refine wl_ild (pc' := 95) rfl e_4 rfl ?_
    refine wp_imul (v := (nI 4) * x4) (pc' := 96) rfl rfl rfl ?_
    refine wp_iadd (v := ((nI 80) * x1) + ((nI 4) * x4)) (pc' := 97) rfl rfl rfl ?_
    obtain ⟨k15, k⟩ := k
    refine wl_laload (g := m.B 58) (pc' := 98) rfl (hq_58 _) k15 rfl ?_
    refine wp_lcmp (v := lg_cmp ((m.B 58).getD (ix (((nI 80) * x1) + ((nI 4) * x6))) 0) ((m.B 58).getD (ix (((nI 80) * x1) + ((nI 4) * x4))) 0)) (pc' := 99) rfl rfl rfl ?_
    refine wp_if_ge (pc' := 102) rfl rfl (fun c16 => ?_) (fun c16 => ?_)
    · replace k := it_t (c := (nI 0) ≤ (lg_cmp ((m.B 58).getD (ix (((nI 80) * x1) + ((nI 4) * x6))) 0) ((m.B 58).getD (ix (((nI 80) * x1) + ((nI 4) * x4))) 0))) c16 k
      refine wl_ild (pc' := 111) rfl e_5 rfl ?_
      refine wl_st1 (pc' := 113) (k0 := 5) (v := .int x5) (r := []) rfl rfl (fun lv17 e18 f19 => ?_)
      have e20 := f19 0 _ e_0 (by decide) rfl
      have e21 := f19 1 _ e_1 (by decide) rfl
      have e22 := f19 2 _ e_2 (by decide) rfl
      have e23 := f19 3 _ e_3 (by decide) rfl
      have e24 := f19 4 _ e_4 (by decide) rfl
      have e25 := f19 6 _ e_6 (by decide) rfl
      refine wl_iinc (pc' := 116) (v := x6 + nI 1) rfl e25 rfl rfl rfl (fun lv26 e27 f28 => ?_)
      have e29 := f28 0 _ e20 (by decide) rfl
      have e30 := f28 1 _ e21 (by decide) rfl
      have e31 := f28 2 _ e22 (by decide) rfl
      have e32 := f28 3 _ e23 (by decide) rfl
      have e33 := f28 4 _ e24 (by decide) rfl
      have e34 := f28 5 _ e18 (by decide) rfl
      refine wp_p (pc' := 59) (lv' := lv26) (st' := []) rfl rfl ?_
      exact k _ ⟨e29, e30, e31, e32, e33, e34, e27, trivial⟩
    · replace k := it_f (c := (nI 0) ≤ (lg_cmp ((m.B 58).getD (ix (((nI 80) * x1) + ((nI 4) * x6))) 0) ((m.B 58).getD (ix (((nI 80) * x1) + ((nI 4) * x4))) 0))) c16 k
      refine wl_ild (pc' := 104) rfl e_5 rfl ?_
      refine wp_p (pc' := 105) (lv' := lv0) (st' := [.int (nI 1), .int x5]) rfl rfl ?_
      refine wp_iadd (v := x5 + (nI 1)) (pc' := 106) rfl rfl rfl ?_
      refine wp_p (pc' := 111) (lv' := lv0) (st' := [.int (x5 + (nI 1))]) rfl rfl ?_
      refine wl_st1 (pc' := 113) (k0 := 5) (v := .int (x5 + (nI 1))) (r := []) rfl rfl (fun lv35 e36 f37 => ?_)
      have e38 := f37 0 _ e_0 (by decide) rfl
      have e39 := f37 1 _ e_1 (by decide) rfl
      have e40 := f37 2 _ e_2 (by decide) rfl
      have e41 := f37 3 _ e_3 (by decide) rfl
      have e42 := f37 4 _ e_4 (by decide) rfl
      have e43 := f37 6 _ e_6 (by decide) rfl
      refine wl_iinc (pc' := 116) (v := x6 + nI 1) rfl e43 rfl rfl rfl (fun lv44 e45 f46 => ?_)
      have e47 := f46 0 _ e38 (by decide) rfl
      have e48 := f46 1 _ e39 (by decide) rfl
      have e49 := f46 2 _ e40 (by decide) rfl
      have e50 := f46 3 _ e41 (by decide) rfl
      have e51 := f46 4 _ e42 (by decide) rfl
      have e52 := f46 5 _ e36 (by decide) rfl
      refine wp_p (pc' := 59) (lv' := lv44) (st' := []) rfl rfl ?_
      exact k _ ⟨e47, e48, e49, e50, e51, e52, e45, trivial⟩
/-! 197: QueryTablesModel.count -/
set_option maxRecDepth 20000 in
theorem sp_197 {d : Nat} {m : Mm} {K : Option Value → Mm → Prop} (x1 : Int32) (x2 : Int32) (y3 : Int64) (k : WH d 197 6 [(0, .ref 42), (1, .int x1), (2, .int x2), (3, .long y3), (5, .int (nI 0)), (6, .int (nI 0))] [] m K) : WP d 197 [.ref 42, .int x1, .int x2, .long y3] m K := by
  have e_0 : sm_lk (lv_args 0 [.ref 42, .int x1, .int x2, .long y3]) 0 = some (.ref 42) := rfl
  have e_1 : sm_lk (lv_args 0 [.ref 42, .int x1, .int x2, .long y3]) 1 = some (.int x1) := rfl
  have e_2 : sm_lk (lv_args 0 [.ref 42, .int x1, .int x2, .long y3]) 2 = some (.int x2) := rfl
  have e_3 : sm_lk (lv_args 0 [.ref 42, .int x1, .int x2, .long y3]) 3 = some (.long y3) := rfl
  show sm_wp d 197 0 (lv_args 0 [.ref 42, .int x1, .int x2, .long y3]) [] (hp m) (WQ K)
  generalize lv_args 0 [.ref 42, .int x1, .int x2, .long y3] = lv0 at *
  refine wp_p (pc' := 1) (lv' := lv0) (st' := [.int (nI 0)]) rfl rfl ?_
  refine wl_st1 (pc' := 3) (k0 := 5) (v := .int (nI 0)) (r := []) rfl rfl (fun lv1 e2 f3 => ?_)
  have e4 := f3 0 _ e_0 (by decide) rfl
  have e5 := f3 1 _ e_1 (by decide) rfl
  have e6 := f3 2 _ e_2 (by decide) rfl
  have e7 := f3 3 _ e_3 (by decide) rfl
  refine wp_p (pc' := 4) (lv' := lv1) (st' := [.int (nI 0)]) rfl rfl ?_
  refine wl_st1 (pc' := 6) (k0 := 6) (v := .int (nI 0)) (r := []) rfl rfl (fun lv8 e9 f10 => ?_)
  have e11 := f10 0 _ e4 (by decide) rfl
  have e12 := f10 1 _ e5 (by decide) rfl
  have e13 := f10 2 _ e6 (by decide) rfl
  have e14 := f10 3 _ e7 (by decide) rfl
  have e15 := f10 5 _ e2 (by decide) rfl
  exact k _ ⟨e11, e12, e13, e14, e15, e9, trivial⟩
set_option maxRecDepth 20000 in
theorem sg_197_6 {d : Nat} {m : Mm} {K : Option Value → Mm → Prop} (x1 : Int32) (x2 : Int32) (y3 : Int64) (x5 : Int32) (x6 : Int32) (k : WP d 192 [.int x1] m (fun v m1 => ∃ w2, v = some (.int w2) ∧ (if w2 = (nI 0) then K (some (.int x5)) m1 else (if x2 < (nI 0) then K (some (.int x5)) m1 else ok (m1.A 56).length x1 ∧ (if ((m1.A 56).getD (ix x1) 0) ≤ x2 then K (some (.int x5)) m1 else ok (m1.A 57).length x1 ∧ (if ((m1.A 57).getD (ix x1) 0) ≤ x6 then K (some (.int x5)) m1 else ok (m1.B 58).length ((((nI 80) * x1) + ((nI 4) * x6)) + x2) ∧ (if (lg_cmp ((m1.B 58).getD (ix ((((nI 80) * x1) + ((nI 4) * x6)) + x2)) 0) y3) = (nI 0) then WH (d + 1) 197 6 [(0, .ref 42), (1, .int x1), (2, .int x2), (3, .long y3), (5, .int (x5 + (nI 1))), (6, .int (x6 + nI 1))] [] m1 K else WH (d + 1) 197 6 [(0, .ref 42), (1, .int x1), (2, .int x2), (3, .long y3), (5, .int x5), (6, .int (x6 + nI 1))] [] m1 K))))))) : WH (d + 1) 197 6 [(0, .ref 42), (1, .int x1), (2, .int x2), (3, .long y3), (5, .int x5), (6, .int x6)] [] m K := by
  intro lv0 el
  obtain ⟨e_0, e_1, e_2, e_3, e_5, e_6, _⟩ := el
  refine wl_ild_n (pc' := 7) rfl e_1 rfl ?_
  refine wl_cs (As := [.int x1]) (r := []) (pc' := 10) rfl rfl rfl rfl k ?_
  rintro _ m1 ⟨w2, rfl, k⟩
  show sm_wp (d + 1) 197 10 lv0 [.int w2] (hp m1) (WQ K)
  refine wp_if_eq (pc' := 13) rfl rfl (fun c3 => ?_) (fun c3 => ?_)
  · replace k := it_t (c := w2 = (nI 0)) c3 k
    refine wl_ild (pc' := 78) rfl e_5 rfl ?_
    exact wl_ret rfl rfl ⟨_, rfl, k⟩
  · replace k := it_f (c := w2 = (nI 0)) c3 k
    refine wl_ild_n (pc' := 14) rfl e_2 rfl ?_
    refine wp_if_lt (pc' := 17) rfl rfl (fun c4 => ?_) (fun c4 => ?_)
    · replace k := it_t (c := x2 < (nI 0)) c4 k
      refine wl_ild (pc' := 78) rfl e_5 rfl ?_
      exact wl_ret rfl rfl ⟨_, rfl, k⟩
    · replace k := it_f (c := x2 < (nI 0)) c4 k
      refine wl_ild_n (pc' := 18) rfl e_2 rfl ?_
      refine wl_ald_n (pc' := 19) rfl e_0 rfl ?_
      refine wp_get (v := .ref 56) (pc' := 22) rfl (hq_42 _) rfl rfl ?_
      refine wl_ild_n (pc' := 23) rfl e_1 rfl ?_
      obtain ⟨k5, k⟩ := k
      refine wl_iaload (g := m1.A 56) (pc' := 24) rfl (hq_56 _) k5 rfl ?_
      refine wp_ic_ge (pc' := 27) rfl rfl (fun c6 => ?_) (fun c6 => ?_)
      · replace k := it_t (c := ((m1.A 56).getD (ix x1) 0) ≤ x2) c6 k
        refine wl_ild (pc' := 78) rfl e_5 rfl ?_
        exact wl_ret rfl rfl ⟨_, rfl, k⟩
      · replace k := it_f (c := ((m1.A 56).getD (ix x1) 0) ≤ x2) c6 k
        refine wl_ild (pc' := 29) rfl e_6 rfl ?_
        refine wl_ald_n (pc' := 30) rfl e_0 rfl ?_
        refine wp_get (v := .ref 57) (pc' := 33) rfl (hq_42 _) rfl rfl ?_
        refine wl_ild_n (pc' := 34) rfl e_1 rfl ?_
        obtain ⟨k7, k⟩ := k
        refine wl_iaload (g := m1.A 57) (pc' := 35) rfl (hq_57 _) k7 rfl ?_
        refine wp_ic_ge (pc' := 38) rfl rfl (fun c8 => ?_) (fun c8 => ?_)
        · replace k := it_t (c := ((m1.A 57).getD (ix x1) 0) ≤ x6) c8 k
          refine wl_ild (pc' := 78) rfl e_5 rfl ?_
          exact wl_ret rfl rfl ⟨_, rfl, k⟩
        · replace k := it_f (c := ((m1.A 57).getD (ix x1) 0) ≤ x6) c8 k
          refine wl_ald_n (pc' := 39) rfl e_0 rfl ?_
          refine wp_get (v := .ref 58) (pc' := 42) rfl (hq_42 _) rfl rfl ?_
          refine wp_p (pc' := 44) (lv' := lv0) (st' := [.int (nI 80), .ref 58]) rfl rfl ?_
          refine wl_ild_n (pc' := 45) rfl e_1 rfl ?_
          refine wp_imul (v := (nI 80) * x1) (pc' := 46) rfl rfl rfl ?_
          refine wp_p (pc' := 47) (lv' := lv0) (st' := [.int (nI 4), .int ((nI 80) * x1), .ref 58]) rfl rfl ?_
          refine wl_ild (pc' := 49) rfl e_6 rfl ?_
          refine wp_imul (v := (nI 4) * x6) (pc' := 50) rfl rfl rfl ?_
          refine wp_iadd (v := ((nI 80) * x1) + ((nI 4) * x6)) (pc' := 51) rfl rfl rfl ?_
          refine wl_ild_n (pc' := 52) rfl e_2 rfl ?_
          refine wp_iadd (v := (((nI 80) * x1) + ((nI 4) * x6)) + x2) (pc' := 53) rfl rfl rfl ?_
          obtain ⟨k9, k⟩ := k
          refine wl_laload (g := m1.B 58) (pc' := 54) rfl (hq_58 _) k9 rfl ?_
          refine wl_lld_n (pc' := 55) rfl e_3 rfl ?_
          refine wp_lcmp (v := lg_cmp ((m1.B 58).getD (ix ((((nI 80) * x1) + ((nI 4) * x6)) + x2)) 0) y3) (pc' := 56) rfl rfl rfl ?_
          refine wp_if_ne (pc' := 59) rfl rfl (fun c10 => ?_) (fun c10 => ?_)
          · replace k := it_f (c := (lg_cmp ((m1.B 58).getD (ix ((((nI 80) * x1) + ((nI 4) * x6)) + x2)) 0) y3) = (nI 0)) c10 k
            refine wl_ild (pc' := 68) rfl e_5 rfl ?_
            refine wl_st1 (pc' := 70) (k0 := 5) (v := .int x5) (r := []) rfl rfl (fun lv11 e12 f13 => ?_)
            have e14 := f13 0 _ e_0 (by decide) rfl
            have e15 := f13 1 _ e_1 (by decide) rfl
            have e16 := f13 2 _ e_2 (by decide) rfl
            have e17 := f13 3 _ e_3 (by decide) rfl
            have e18 := f13 6 _ e_6 (by decide) rfl
            refine wl_iinc (pc' := 73) (v := x6 + nI 1) rfl e18 rfl rfl rfl (fun lv19 e20 f21 => ?_)
            have e22 := f21 0 _ e14 (by decide) rfl
            have e23 := f21 1 _ e15 (by decide) rfl
            have e24 := f21 2 _ e16 (by decide) rfl
            have e25 := f21 3 _ e17 (by decide) rfl
            have e26 := f21 5 _ e12 (by decide) rfl
            refine wp_p (pc' := 6) (lv' := lv19) (st' := []) rfl rfl ?_
            exact k _ ⟨e22, e23, e24, e25, e26, e20, trivial⟩
          · replace k := it_t (c := (lg_cmp ((m1.B 58).getD (ix ((((nI 80) * x1) + ((nI 4) * x6)) + x2)) 0) y3) = (nI 0)) c10 k
            refine wl_ild (pc' := 61) rfl e_5 rfl ?_
            refine wp_p (pc' := 62) (lv' := lv0) (st' := [.int (nI 1), .int x5]) rfl rfl ?_
            refine wp_iadd (v := x5 + (nI 1)) (pc' := 63) rfl rfl rfl ?_
            refine wp_p (pc' := 68) (lv' := lv0) (st' := [.int (x5 + (nI 1))]) rfl rfl ?_
            refine wl_st1 (pc' := 70) (k0 := 5) (v := .int (x5 + (nI 1))) (r := []) rfl rfl (fun lv27 e28 f29 => ?_)
            have e30 := f29 0 _ e_0 (by decide) rfl
            have e31 := f29 1 _ e_1 (by decide) rfl
            have e32 := f29 2 _ e_2 (by decide) rfl
            have e33 := f29 3 _ e_3 (by decide) rfl
            have e34 := f29 6 _ e_6 (by decide) rfl
            refine wl_iinc (pc' := 73) (v := x6 + nI 1) rfl e34 rfl rfl rfl (fun lv35 e36 f37 => ?_)
            have e38 := f37 0 _ e30 (by decide) rfl
            have e39 := f37 1 _ e31 (by decide) rfl
            have e40 := f37 2 _ e32 (by decide) rfl
            have e41 := f37 3 _ e33 (by decide) rfl
            have e42 := f37 5 _ e28 (by decide) rfl
            refine wp_p (pc' := 6) (lv' := lv35) (st' := []) rfl rfl ?_
            exact k _ ⟨e38, e39, e40, e41, e42, e36, trivial⟩
