/-! SEGMENTS of the methods 176 to 179 (by program, wip/whole/gen25.py): what must hold of a way from one place to the next -/
/-! 176: QueryTablesModel.fetched -/
set_option maxRecDepth 20000 in
theorem sp_176 {d : Nat} {m : Mm} {K : Option Value → Mm → Prop} (x1 : Int32) (x2 : Int32) (x3 : Int32) (x4 : Int32) (x5 : Int32) (k : (if x4 = (nI 1) then K (some (.int (nI 1))) m else (if x4 = (nI 3) then WP d 173 [.ref 42, .int x3, .int x1, .int x5, .int (nI 1)] m (fun v m157 => ∃ w158, v = some (.int w158) ∧ ok (m157.A 53).length x3 ∧ ok (m157.A 55).length x3 ∧ ok (m157.A 54).length x3 ∧ (if w158 = (nI 0) then ok (m157.A 47).length ((m157.A 53).getD (ix x3) 0) ∧ (if w158 = (nI 0) then WP d 167 [.ref 42, .int ((m157.A 55).getD (ix x3) 0), .int (((m157.A 54).getD (ix x3) 0) - (nI 1))] m157 (fun v m292 => ∃ w293, v = some (.long w293) ∧ (if (lg_cmp w293 1099511627776) = (nI 0) then WH (d + 1) 176 144 [] [] m292 K else ok (m292.B 58).length ((((nI 80) * x1) + ((nI 4) * x2)) + (((m157.A 47).getD (ix ((m157.A 53).getD (ix x3) 0)) 0) - ((m157.A 47).getD (ix ((m157.A 53).getD (ix x3) 0)) 0) / (nI 4) * (nI 4))) ∧ (if (lg_cmp ((m292.B 58).getD (ix ((((nI 80) * x1) + ((nI 4) * x2)) + (((m157.A 47).getD (ix ((m157.A 53).getD (ix x3) 0)) 0) - ((m157.A 47).getD (ix ((m157.A 53).getD (ix x3) 0)) 0) / (nI 4) * (nI 4)))) 0) w293) = (nI 0) then K (some (.int (nI 1))) m292 else WH (d + 1) 176 144 [] [] m292 K))) else WP d 167 [.ref 42, .int ((m157.A 53).getD (ix x3) 0), .int ((m157.A 55).getD (ix x3) 0)] m157 (fun v m273 => ∃ w274, v = some (.long w274) ∧ (if (lg_cmp w274 1099511627776) = (nI 0) then WH (d + 1) 176 144 [] [] m273 K else ok (m273.B 58).length ((((nI 80) * x1) + ((nI 4) * x2)) + (((m157.A 47).getD (ix ((m157.A 53).getD (ix x3) 0)) 0) - ((m157.A 47).getD (ix ((m157.A 53).getD (ix x3) 0)) 0) / (nI 4) * (nI 4))) ∧ (if (lg_cmp ((m273.B 58).getD (ix ((((nI 80) * x1) + ((nI 4) * x2)) + (((m157.A 47).getD (ix ((m157.A 53).getD (ix x3) 0)) 0) - ((m157.A 47).getD (ix ((m157.A 53).getD (ix x3) 0)) 0) / (nI 4) * (nI 4)))) 0) w274) = (nI 0) then K (some (.int (nI 1))) m273 else WH (d + 1) 176 144 [] [] m273 K)))) else ok (m157.A 47).length ((m157.A 55).getD (ix x3) 0) ∧ (if w158 = (nI 0) then WP d 167 [.ref 42, .int ((m157.A 55).getD (ix x3) 0), .int (((m157.A 54).getD (ix x3) 0) - (nI 1))] m157 (fun v m239 => ∃ w240, v = some (.long w240) ∧ (if (lg_cmp w240 1099511627776) = (nI 0) then WH (d + 1) 176 144 [] [] m239 K else ok (m239.B 58).length ((((nI 80) * x1) + ((nI 4) * x2)) + (((m157.A 47).getD (ix ((m157.A 55).getD (ix x3) 0)) 0) - ((m157.A 47).getD (ix ((m157.A 55).getD (ix x3) 0)) 0) / (nI 4) * (nI 4))) ∧ (if (lg_cmp ((m239.B 58).getD (ix ((((nI 80) * x1) + ((nI 4) * x2)) + (((m157.A 47).getD (ix ((m157.A 55).getD (ix x3) 0)) 0) - ((m157.A 47).getD (ix ((m157.A 55).getD (ix x3) 0)) 0) / (nI 4) * (nI 4)))) 0) w240) = (nI 0) then K (some (.int (nI 1))) m239 else WH (d + 1) 176 144 [] [] m239 K))) else WP d 167 [.ref 42, .int ((m157.A 53).getD (ix x3) 0), .int ((m157.A 55).getD (ix x3) 0)] m157 (fun v m220 => ∃ w221, v = some (.long w221) ∧ (if (lg_cmp w221 1099511627776) = (nI 0) then WH (d + 1) 176 144 [] [] m220 K else ok (m220.B 58).length ((((nI 80) * x1) + ((nI 4) * x2)) + (((m157.A 47).getD (ix ((m157.A 55).getD (ix x3) 0)) 0) - ((m157.A 47).getD (ix ((m157.A 55).getD (ix x3) 0)) 0) / (nI 4) * (nI 4))) ∧ (if (lg_cmp ((m220.B 58).getD (ix ((((nI 80) * x1) + ((nI 4) * x2)) + (((m157.A 47).getD (ix ((m157.A 55).getD (ix x3) 0)) 0) - ((m157.A 47).getD (ix ((m157.A 55).getD (ix x3) 0)) 0) / (nI 4) * (nI 4)))) 0) w221) = (nI 0) then K (some (.int (nI 1))) m220 else WH (d + 1) 176 144 [] [] m220 K)))))) else WP d 173 [.ref 42, .int x3, .int x1, .int x5, .int (nI 0)] m (fun v m3 => ∃ w4, v = some (.int w4) ∧ ok (m3.A 53).length x3 ∧ ok (m3.A 55).length x3 ∧ ok (m3.A 54).length x3 ∧ (if w4 = (nI 0) then ok (m3.A 47).length ((m3.A 53).getD (ix x3) 0) ∧ (if w4 = (nI 0) then WP d 167 [.ref 42, .int ((m3.A 55).getD (ix x3) 0), .int (((m3.A 54).getD (ix x3) 0) - (nI 1))] m3 (fun v m138 => ∃ w139, v = some (.long w139) ∧ (if (lg_cmp w139 1099511627776) = (nI 0) then WH (d + 1) 176 144 [] [] m138 K else ok (m138.B 58).length ((((nI 80) * x1) + ((nI 4) * x2)) + (((m3.A 47).getD (ix ((m3.A 53).getD (ix x3) 0)) 0) - ((m3.A 47).getD (ix ((m3.A 53).getD (ix x3) 0)) 0) / (nI 4) * (nI 4))) ∧ (if (lg_cmp ((m138.B 58).getD (ix ((((nI 80) * x1) + ((nI 4) * x2)) + (((m3.A 47).getD (ix ((m3.A 53).getD (ix x3) 0)) 0) - ((m3.A 47).getD (ix ((m3.A 53).getD (ix x3) 0)) 0) / (nI 4) * (nI 4)))) 0) w139) = (nI 0) then K (some (.int (nI 1))) m138 else WH (d + 1) 176 144 [] [] m138 K))) else WP d 167 [.ref 42, .int ((m3.A 53).getD (ix x3) 0), .int ((m3.A 55).getD (ix x3) 0)] m3 (fun v m119 => ∃ w120, v = some (.long w120) ∧ (if (lg_cmp w120 1099511627776) = (nI 0) then WH (d + 1) 176 144 [] [] m119 K else ok (m119.B 58).length ((((nI 80) * x1) + ((nI 4) * x2)) + (((m3.A 47).getD (ix ((m3.A 53).getD (ix x3) 0)) 0) - ((m3.A 47).getD (ix ((m3.A 53).getD (ix x3) 0)) 0) / (nI 4) * (nI 4))) ∧ (if (lg_cmp ((m119.B 58).getD (ix ((((nI 80) * x1) + ((nI 4) * x2)) + (((m3.A 47).getD (ix ((m3.A 53).getD (ix x3) 0)) 0) - ((m3.A 47).getD (ix ((m3.A 53).getD (ix x3) 0)) 0) / (nI 4) * (nI 4)))) 0) w120) = (nI 0) then K (some (.int (nI 1))) m119 else WH (d + 1) 176 144 [] [] m119 K)))) else ok (m3.A 47).length ((m3.A 55).getD (ix x3) 0) ∧ (if w4 = (nI 0) then WP d 167 [.ref 42, .int ((m3.A 55).getD (ix x3) 0), .int (((m3.A 54).getD (ix x3) 0) - (nI 1))] m3 (fun v m85 => ∃ w86, v = some (.long w86) ∧ (if (lg_cmp w86 1099511627776) = (nI 0) then WH (d + 1) 176 144 [] [] m85 K else ok (m85.B 58).length ((((nI 80) * x1) + ((nI 4) * x2)) + (((m3.A 47).getD (ix ((m3.A 55).getD (ix x3) 0)) 0) - ((m3.A 47).getD (ix ((m3.A 55).getD (ix x3) 0)) 0) / (nI 4) * (nI 4))) ∧ (if (lg_cmp ((m85.B 58).getD (ix ((((nI 80) * x1) + ((nI 4) * x2)) + (((m3.A 47).getD (ix ((m3.A 55).getD (ix x3) 0)) 0) - ((m3.A 47).getD (ix ((m3.A 55).getD (ix x3) 0)) 0) / (nI 4) * (nI 4)))) 0) w86) = (nI 0) then K (some (.int (nI 1))) m85 else WH (d + 1) 176 144 [] [] m85 K))) else WP d 167 [.ref 42, .int ((m3.A 53).getD (ix x3) 0), .int ((m3.A 55).getD (ix x3) 0)] m3 (fun v m66 => ∃ w67, v = some (.long w67) ∧ (if (lg_cmp w67 1099511627776) = (nI 0) then WH (d + 1) 176 144 [] [] m66 K else ok (m66.B 58).length ((((nI 80) * x1) + ((nI 4) * x2)) + (((m3.A 47).getD (ix ((m3.A 55).getD (ix x3) 0)) 0) - ((m3.A 47).getD (ix ((m3.A 55).getD (ix x3) 0)) 0) / (nI 4) * (nI 4))) ∧ (if (lg_cmp ((m66.B 58).getD (ix ((((nI 80) * x1) + ((nI 4) * x2)) + (((m3.A 47).getD (ix ((m3.A 55).getD (ix x3) 0)) 0) - ((m3.A 47).getD (ix ((m3.A 55).getD (ix x3) 0)) 0) / (nI 4) * (nI 4)))) 0) w67) = (nI 0) then K (some (.int (nI 1))) m66 else WH (d + 1) 176 144 [] [] m66 K))))))))) : WP (d + 1) 176 [.ref 42, .int x1, .int x2, .int x3, .int x4, .int x5] m K := by
  have e_0 : sm_lk (lv_args 0 [.ref 42, .int x1, .int x2, .int x3, .int x4, .int x5]) 0 = some (.ref 42) := rfl
  have e_1 : sm_lk (lv_args 0 [.ref 42, .int x1, .int x2, .int x3, .int x4, .int x5]) 1 = some (.int x1) := rfl
  have e_2 : sm_lk (lv_args 0 [.ref 42, .int x1, .int x2, .int x3, .int x4, .int x5]) 2 = some (.int x2) := rfl
  have e_3 : sm_lk (lv_args 0 [.ref 42, .int x1, .int x2, .int x3, .int x4, .int x5]) 3 = some (.int x3) := rfl
  have e_4 : sm_lk (lv_args 0 [.ref 42, .int x1, .int x2, .int x3, .int x4, .int x5]) 4 = some (.int x4) := rfl
  have e_5 : sm_lk (lv_args 0 [.ref 42, .int x1, .int x2, .int x3, .int x4, .int x5]) 5 = some (.int x5) := rfl
  show sm_wp (d + 1) 176 0 (lv_args 0 [.ref 42, .int x1, .int x2, .int x3, .int x4, .int x5]) [] (hp m) (WQ K)
  generalize lv_args 0 [.ref 42, .int x1, .int x2, .int x3, .int x4, .int x5] = lv0 at *
  refine wl_ild (pc' := 2) rfl e_4 rfl ?_
  refine wp_p (pc' := 3) (lv' := lv0) (st' := [.int (nI 1), .int x4]) rfl rfl ?_
  refine wp_ic_ne (pc' := 6) rfl rfl (fun c1 => ?_) (fun c1 => ?_)
  · replace k := it_f (c := x4 = (nI 1)) c1 k
    refine wl_ald_n (pc' := 9) rfl e_0 rfl ?_
    refine wl_ild_n (pc' := 10) rfl e_3 rfl ?_
    refine wl_ild_n (pc' := 11) rfl e_1 rfl ?_
    refine wl_ild (pc' := 13) rfl e_5 rfl ?_
    refine wl_ild (pc' := 15) rfl e_4 rfl ?_
    refine wp_p (pc' := 16) (lv' := lv0) (st' := [.int (nI 3), .int x4, .int x5, .int x1, .int x3, .ref 42]) rfl rfl ?_
    refine wp_ic_ne (pc' := 19) rfl rfl (fun c2 => ?_) (fun c2 => ?_)
    · replace k := it_f (c := x4 = (nI 3)) c2 k
      refine wp_p (pc' := 24) (lv' := lv0) (st' := [.int (nI 0), .int x5, .int x1, .int x3, .ref 42]) rfl rfl ?_
      refine wl_cv (As := [.ref 42, .int x3, .int x1, .int x5, .int (nI 0)]) (r := []) (pc' := 27) rfl rfl rfl k ?_
      rintro _ m3 ⟨w4, rfl, k⟩
      show sm_wp (d + 1) 176 27 lv0 [.int w4] (hp m3) (WQ K)
      refine wl_st1 (pc' := 29) (k0 := 6) (v := .int w4) (r := []) rfl rfl (fun lv5 e6 f7 => ?_)
      have e8 := f7 0 _ e_0 (by decide) rfl
      have e9 := f7 1 _ e_1 (by decide) rfl
      have e10 := f7 2 _ e_2 (by decide) rfl
      have e11 := f7 3 _ e_3 (by decide) rfl
      have e12 := f7 4 _ e_4 (by decide) rfl
      have e13 := f7 5 _ e_5 (by decide) rfl
      refine wl_ald_n (pc' := 30) rfl e8 rfl ?_
      refine wp_get (v := .ref 53) (pc' := 33) rfl (hq_42 _) rfl rfl ?_
      refine wl_ild_n (pc' := 34) rfl e11 rfl ?_
      obtain ⟨k14, k⟩ := k
      refine wl_iaload (g := m3.A 53) (pc' := 35) rfl (hq_53 _) k14 rfl ?_
      refine wl_st1 (pc' := 37) (k0 := 7) (v := .int ((m3.A 53).getD (ix x3) 0)) (r := []) rfl rfl (fun lv15 e16 f17 => ?_)
      have e18 := f17 0 _ e8 (by decide) rfl
      have e19 := f17 1 _ e9 (by decide) rfl
      have e20 := f17 2 _ e10 (by decide) rfl
      have e21 := f17 3 _ e11 (by decide) rfl
      have e22 := f17 4 _ e12 (by decide) rfl
      have e23 := f17 5 _ e13 (by decide) rfl
      have e24 := f17 6 _ e6 (by decide) rfl
      refine wl_ald_n (pc' := 38) rfl e18 rfl ?_
      refine wp_get (v := .ref 55) (pc' := 41) rfl (hq_42 _) rfl rfl ?_
      refine wl_ild_n (pc' := 42) rfl e21 rfl ?_
      obtain ⟨k25, k⟩ := k
      refine wl_iaload (g := m3.A 55) (pc' := 43) rfl (hq_55 _) k25 rfl ?_
      refine wl_st1 (pc' := 45) (k0 := 8) (v := .int ((m3.A 55).getD (ix x3) 0)) (r := []) rfl rfl (fun lv26 e27 f28 => ?_)
      have e29 := f28 0 _ e18 (by decide) rfl
      have e30 := f28 1 _ e19 (by decide) rfl
      have e31 := f28 2 _ e20 (by decide) rfl
      have e32 := f28 3 _ e21 (by decide) rfl
      have e33 := f28 4 _ e22 (by decide) rfl
      have e34 := f28 5 _ e23 (by decide) rfl
      have e35 := f28 6 _ e24 (by decide) rfl
      have e36 := f28 7 _ e16 (by decide) rfl
      refine wl_ald_n (pc' := 46) rfl e29 rfl ?_
      refine wp_get (v := .ref 54) (pc' := 49) rfl (hq_42 _) rfl rfl ?_
      refine wl_ild_n (pc' := 50) rfl e32 rfl ?_
      obtain ⟨k37, k⟩ := k
      refine wl_iaload (g := m3.A 54) (pc' := 51) rfl (hq_54 _) k37 rfl ?_
      refine wp_p (pc' := 52) (lv' := lv26) (st' := [.int (nI 1), .int ((m3.A 54).getD (ix x3) 0)]) rfl rfl ?_
      refine wp_isub (v := ((m3.A 54).getD (ix x3) 0) - (nI 1)) (pc' := 53) rfl rfl rfl ?_
      refine wl_st1 (pc' := 55) (k0 := 9) (v := .int (((m3.A 54).getD (ix x3) 0) - (nI 1))) (r := []) rfl rfl (fun lv38 e39 f40 => ?_)
      have e41 := f40 0 _ e29 (by decide) rfl
      have e42 := f40 1 _ e30 (by decide) rfl
      have e43 := f40 2 _ e31 (by decide) rfl
      have e44 := f40 3 _ e32 (by decide) rfl
      have e45 := f40 4 _ e33 (by decide) rfl
      have e46 := f40 5 _ e34 (by decide) rfl
      have e47 := f40 6 _ e35 (by decide) rfl
      have e48 := f40 7 _ e36 (by decide) rfl
      have e49 := f40 8 _ e27 (by decide) rfl
      refine wl_ild (pc' := 57) rfl e47 rfl ?_
      refine wp_if_ne (pc' := 60) rfl rfl (fun c50 => ?_) (fun c50 => ?_)
      · replace k := it_f (c := w4 = (nI 0)) c50 k
        refine wl_ald_n (pc' := 73) rfl e41 rfl ?_
        refine wp_get (v := .ref 47) (pc' := 76) rfl (hq_42 _) rfl rfl ?_
        refine wl_ild (pc' := 78) rfl e49 rfl ?_
        obtain ⟨k51, k⟩ := k
        refine wl_iaload (g := m3.A 47) (pc' := 79) rfl (hq_47 _) k51 rfl ?_
        refine wp_p (pc' := 80) (lv' := lv38) (st' := [.int (nI 4), .int ((m3.A 47).getD (ix ((m3.A 55).getD (ix x3) 0)) 0)]) rfl rfl ?_
        refine wp_irem (v := ((m3.A 47).getD (ix ((m3.A 55).getD (ix x3) 0)) 0) - ((m3.A 47).getD (ix ((m3.A 55).getD (ix x3) 0)) 0) / (nI 4) * (nI 4)) (pc' := 81) rfl (by decide) rfl rfl ?_
        refine wl_st1 (pc' := 83) (k0 := 10) (v := .int (((m3.A 47).getD (ix ((m3.A 55).getD (ix x3) 0)) 0) - ((m3.A 47).getD (ix ((m3.A 55).getD (ix x3) 0)) 0) / (nI 4) * (nI 4))) (r := []) rfl rfl (fun lv52 e53 f54 => ?_)
        have e55 := f54 0 _ e41 (by decide) rfl
        have e56 := f54 1 _ e42 (by decide) rfl
        have e57 := f54 2 _ e43 (by decide) rfl
        have e58 := f54 3 _ e44 (by decide) rfl
        have e59 := f54 4 _ e45 (by decide) rfl
        have e60 := f54 5 _ e46 (by decide) rfl
        have e61 := f54 6 _ e47 (by decide) rfl
        have e62 := f54 7 _ e48 (by decide) rfl
        have e63 := f54 8 _ e49 (by decide) rfl
        have e64 := f54 9 _ e39 (by decide) rfl
        refine wl_ild (pc' := 85) rfl e61 rfl ?_
        refine wp_if_ne (pc' := 88) rfl rfl (fun c65 => ?_) (fun c65 => ?_)
        · replace k := it_f (c := w4 = (nI 0)) c65 k
          refine wl_ald_n (pc' := 100) rfl e55 rfl ?_
          refine wl_ild (pc' := 102) rfl e62 rfl ?_
          refine wl_ild (pc' := 104) rfl e63 rfl ?_
          refine wl_cv (As := [.ref 42, .int ((m3.A 53).getD (ix x3) 0), .int ((m3.A 55).getD (ix x3) 0)]) (r := []) (pc' := 107) rfl rfl rfl k ?_
          rintro _ m66 ⟨w67, rfl, k⟩
          show sm_wp (d + 1) 176 107 lv52 [.long w67] (hp m66) (WQ K)
          refine wl_st2 (pc' := 109) (k0 := 11) (v := .long w67) (r := []) rfl rfl (fun lv68 e69 f70 => ?_)
          have e71 := f70 0 _ e55 (by decide) (by decide) rfl
          have e72 := f70 1 _ e56 (by decide) (by decide) rfl
          have e73 := f70 2 _ e57 (by decide) (by decide) rfl
          have e74 := f70 3 _ e58 (by decide) (by decide) rfl
          have e75 := f70 4 _ e59 (by decide) (by decide) rfl
          have e76 := f70 5 _ e60 (by decide) (by decide) rfl
          have e77 := f70 6 _ e61 (by decide) (by decide) rfl
          have e78 := f70 7 _ e62 (by decide) (by decide) rfl
          have e79 := f70 8 _ e63 (by decide) (by decide) rfl
          have e80 := f70 9 _ e64 (by decide) (by decide) rfl
          have e81 := f70 10 _ e53 (by decide) (by decide) rfl
          refine wl_lld (pc' := 111) rfl e69 rfl ?_
          refine wp_p (pc' := 114) (lv' := lv68) (st' := [.long 1099511627776, .long w67]) rfl rfl ?_
          refine wp_lcmp (v := lg_cmp w67 1099511627776) (pc' := 115) rfl rfl rfl ?_
          refine wp_if_eq (pc' := 118) rfl rfl (fun c82 => ?_) (fun c82 => ?_)
          · replace k := it_t (c := (lg_cmp w67 1099511627776) = (nI 0)) c82 k
            exact k _ trivial
          · replace k := it_f (c := (lg_cmp w67 1099511627776) = (nI 0)) c82 k
            refine wl_ald_n (pc' := 119) rfl e71 rfl ?_
            refine wp_get (v := .ref 58) (pc' := 122) rfl (hq_42 _) rfl rfl ?_
            refine wp_p (pc' := 124) (lv' := lv68) (st' := [.int (nI 80), .ref 58]) rfl rfl ?_
            refine wl_ild_n (pc' := 125) rfl e72 rfl ?_
            refine wp_imul (v := (nI 80) * x1) (pc' := 126) rfl rfl rfl ?_
            refine wp_p (pc' := 127) (lv' := lv68) (st' := [.int (nI 4), .int ((nI 80) * x1), .ref 58]) rfl rfl ?_
            refine wl_ild_n (pc' := 128) rfl e73 rfl ?_
            refine wp_imul (v := (nI 4) * x2) (pc' := 129) rfl rfl rfl ?_
            refine wp_iadd (v := ((nI 80) * x1) + ((nI 4) * x2)) (pc' := 130) rfl rfl rfl ?_
            refine wl_ild (pc' := 132) rfl e81 rfl ?_
            refine wp_iadd (v := (((nI 80) * x1) + ((nI 4) * x2)) + (((m3.A 47).getD (ix ((m3.A 55).getD (ix x3) 0)) 0) - ((m3.A 47).getD (ix ((m3.A 55).getD (ix x3) 0)) 0) / (nI 4) * (nI 4))) (pc' := 133) rfl rfl rfl ?_
            obtain ⟨k83, k⟩ := k
            refine wl_laload (g := m66.B 58) (pc' := 134) rfl (hq_58 _) k83 rfl ?_
            refine wl_lld (pc' := 136) rfl e69 rfl ?_
            refine wp_lcmp (v := lg_cmp ((m66.B 58).getD (ix ((((nI 80) * x1) + ((nI 4) * x2)) + (((m3.A 47).getD (ix ((m3.A 55).getD (ix x3) 0)) 0) - ((m3.A 47).getD (ix ((m3.A 55).getD (ix x3) 0)) 0) / (nI 4) * (nI 4)))) 0) w67) (pc' := 137) rfl rfl rfl ?_
            refine wp_if_ne (pc' := 140) rfl rfl (fun c84 => ?_) (fun c84 => ?_)
            · replace k := it_f (c := (lg_cmp ((m66.B 58).getD (ix ((((nI 80) * x1) + ((nI 4) * x2)) + (((m3.A 47).getD (ix ((m3.A 55).getD (ix x3) 0)) 0) - ((m3.A 47).getD (ix ((m3.A 55).getD (ix x3) 0)) 0) / (nI 4) * (nI 4)))) 0) w67) = (nI 0)) c84 k
              exact k _ trivial
            · replace k := it_t (c := (lg_cmp ((m66.B 58).getD (ix ((((nI 80) * x1) + ((nI 4) * x2)) + (((m3.A 47).getD (ix ((m3.A 55).getD (ix x3) 0)) 0) - ((m3.A 47).getD (ix ((m3.A 55).getD (ix x3) 0)) 0) / (nI 4) * (nI 4)))) 0) w67) = (nI 0)) c84 k
              refine wp_p (pc' := 141) (lv' := lv68) (st' := [.int (nI 1)]) rfl rfl ?_
              refine wp_p (pc' := 145) (lv' := lv68) (st' := [.int (nI 1)]) rfl rfl ?_
              exact wl_ret rfl rfl ⟨_, rfl, k⟩
        · replace k := it_t (c := w4 = (nI 0)) c65 k
          refine wl_ald_n (pc' := 89) rfl e55 rfl ?_
          refine wl_ild (pc' := 91) rfl e63 rfl ?_
          refine wl_ild (pc' := 93) rfl e64 rfl ?_
          refine wl_cv (As := [.ref 42, .int ((m3.A 55).getD (ix x3) 0), .int (((m3.A 54).getD (ix x3) 0) - (nI 1))]) (r := []) (pc' := 96) rfl rfl rfl k ?_
          rintro _ m85 ⟨w86, rfl, k⟩
          show sm_wp (d + 1) 176 96 lv52 [.long w86] (hp m85) (WQ K)
          refine wp_p (pc' := 107) (lv' := lv52) (st' := [.long w86]) rfl rfl ?_
          refine wl_st2 (pc' := 109) (k0 := 11) (v := .long w86) (r := []) rfl rfl (fun lv87 e88 f89 => ?_)
          have e90 := f89 0 _ e55 (by decide) (by decide) rfl
          have e91 := f89 1 _ e56 (by decide) (by decide) rfl
          have e92 := f89 2 _ e57 (by decide) (by decide) rfl
          have e93 := f89 3 _ e58 (by decide) (by decide) rfl
          have e94 := f89 4 _ e59 (by decide) (by decide) rfl
          have e95 := f89 5 _ e60 (by decide) (by decide) rfl
          have e96 := f89 6 _ e61 (by decide) (by decide) rfl
          have e97 := f89 7 _ e62 (by decide) (by decide) rfl
          have e98 := f89 8 _ e63 (by decide) (by decide) rfl
          have e99 := f89 9 _ e64 (by decide) (by decide) rfl
          have e100 := f89 10 _ e53 (by decide) (by decide) rfl
          refine wl_lld (pc' := 111) rfl e88 rfl ?_
          refine wp_p (pc' := 114) (lv' := lv87) (st' := [.long 1099511627776, .long w86]) rfl rfl ?_
          refine wp_lcmp (v := lg_cmp w86 1099511627776) (pc' := 115) rfl rfl rfl ?_
          refine wp_if_eq (pc' := 118) rfl rfl (fun c101 => ?_) (fun c101 => ?_)
          · replace k := it_t (c := (lg_cmp w86 1099511627776) = (nI 0)) c101 k
            exact k _ trivial
          · replace k := it_f (c := (lg_cmp w86 1099511627776) = (nI 0)) c101 k
            refine wl_ald_n (pc' := 119) rfl e90 rfl ?_
            refine wp_get (v := .ref 58) (pc' := 122) rfl (hq_42 _) rfl rfl ?_
            refine wp_p (pc' := 124) (lv' := lv87) (st' := [.int (nI 80), .ref 58]) rfl rfl ?_
            refine wl_ild_n (pc' := 125) rfl e91 rfl ?_
            refine wp_imul (v := (nI 80) * x1) (pc' := 126) rfl rfl rfl ?_
            refine wp_p (pc' := 127) (lv' := lv87) (st' := [.int (nI 4), .int ((nI 80) * x1), .ref 58]) rfl rfl ?_
            refine wl_ild_n (pc' := 128) rfl e92 rfl ?_
            refine wp_imul (v := (nI 4) * x2) (pc' := 129) rfl rfl rfl ?_
            refine wp_iadd (v := ((nI 80) * x1) + ((nI 4) * x2)) (pc' := 130) rfl rfl rfl ?_
            refine wl_ild (pc' := 132) rfl e100 rfl ?_
            refine wp_iadd (v := (((nI 80) * x1) + ((nI 4) * x2)) + (((m3.A 47).getD (ix ((m3.A 55).getD (ix x3) 0)) 0) - ((m3.A 47).getD (ix ((m3.A 55).getD (ix x3) 0)) 0) / (nI 4) * (nI 4))) (pc' := 133) rfl rfl rfl ?_
            obtain ⟨k102, k⟩ := k
            refine wl_laload (g := m85.B 58) (pc' := 134) rfl (hq_58 _) k102 rfl ?_
            refine wl_lld (pc' := 136) rfl e88 rfl ?_
            refine wp_lcmp (v := lg_cmp ((m85.B 58).getD (ix ((((nI 80) * x1) + ((nI 4) * x2)) + (((m3.A 47).getD (ix ((m3.A 55).getD (ix x3) 0)) 0) - ((m3.A 47).getD (ix ((m3.A 55).getD (ix x3) 0)) 0) / (nI 4) * (nI 4)))) 0) w86) (pc' := 137) rfl rfl rfl ?_
            refine wp_if_ne (pc' := 140) rfl rfl (fun c103 => ?_) (fun c103 => ?_)
            · replace k := it_f (c := (lg_cmp ((m85.B 58).getD (ix ((((nI 80) * x1) + ((nI 4) * x2)) + (((m3.A 47).getD (ix ((m3.A 55).getD (ix x3) 0)) 0) - ((m3.A 47).getD (ix ((m3.A 55).getD (ix x3) 0)) 0) / (nI 4) * (nI 4)))) 0) w86) = (nI 0)) c103 k
              exact k _ trivial
            · replace k := it_t (c := (lg_cmp ((m85.B 58).getD (ix ((((nI 80) * x1) + ((nI 4) * x2)) + (((m3.A 47).getD (ix ((m3.A 55).getD (ix x3) 0)) 0) - ((m3.A 47).getD (ix ((m3.A 55).getD (ix x3) 0)) 0) / (nI 4) * (nI 4)))) 0) w86) = (nI 0)) c103 k
              refine wp_p (pc' := 141) (lv' := lv87) (st' := [.int (nI 1)]) rfl rfl ?_
              refine wp_p (pc' := 145) (lv' := lv87) (st' := [.int (nI 1)]) rfl rfl ?_
              exact wl_ret rfl rfl ⟨_, rfl, k⟩
      · replace k := it_t (c := w4 = (nI 0)) c50 k
        refine wl_ald_n (pc' := 61) rfl e41 rfl ?_
        refine wp_get (v := .ref 47) (pc' := 64) rfl (hq_42 _) rfl rfl ?_
        refine wl_ild (pc' := 66) rfl e48 rfl ?_
        obtain ⟨k104, k⟩ := k
        refine wl_iaload (g := m3.A 47) (pc' := 67) rfl (hq_47 _) k104 rfl ?_
        refine wp_p (pc' := 68) (lv' := lv38) (st' := [.int (nI 4), .int ((m3.A 47).getD (ix ((m3.A 53).getD (ix x3) 0)) 0)]) rfl rfl ?_
        refine wp_irem (v := ((m3.A 47).getD (ix ((m3.A 53).getD (ix x3) 0)) 0) - ((m3.A 47).getD (ix ((m3.A 53).getD (ix x3) 0)) 0) / (nI 4) * (nI 4)) (pc' := 69) rfl (by decide) rfl rfl ?_
        refine wp_p (pc' := 81) (lv' := lv38) (st' := [.int (((m3.A 47).getD (ix ((m3.A 53).getD (ix x3) 0)) 0) - ((m3.A 47).getD (ix ((m3.A 53).getD (ix x3) 0)) 0) / (nI 4) * (nI 4))]) rfl rfl ?_
        refine wl_st1 (pc' := 83) (k0 := 10) (v := .int (((m3.A 47).getD (ix ((m3.A 53).getD (ix x3) 0)) 0) - ((m3.A 47).getD (ix ((m3.A 53).getD (ix x3) 0)) 0) / (nI 4) * (nI 4))) (r := []) rfl rfl (fun lv105 e106 f107 => ?_)
        have e108 := f107 0 _ e41 (by decide) rfl
        have e109 := f107 1 _ e42 (by decide) rfl
        have e110 := f107 2 _ e43 (by decide) rfl
        have e111 := f107 3 _ e44 (by decide) rfl
        have e112 := f107 4 _ e45 (by decide) rfl
        have e113 := f107 5 _ e46 (by decide) rfl
        have e114 := f107 6 _ e47 (by decide) rfl
        have e115 := f107 7 _ e48 (by decide) rfl
        have e116 := f107 8 _ e49 (by decide) rfl
        have e117 := f107 9 _ e39 (by decide) rfl
        refine wl_ild (pc' := 85) rfl e114 rfl ?_
        refine wp_if_ne (pc' := 88) rfl rfl (fun c118 => ?_) (fun c118 => ?_)
        · replace k := it_f (c := w4 = (nI 0)) c118 k
          refine wl_ald_n (pc' := 100) rfl e108 rfl ?_
          refine wl_ild (pc' := 102) rfl e115 rfl ?_
          refine wl_ild (pc' := 104) rfl e116 rfl ?_
          refine wl_cv (As := [.ref 42, .int ((m3.A 53).getD (ix x3) 0), .int ((m3.A 55).getD (ix x3) 0)]) (r := []) (pc' := 107) rfl rfl rfl k ?_
          rintro _ m119 ⟨w120, rfl, k⟩
          show sm_wp (d + 1) 176 107 lv105 [.long w120] (hp m119) (WQ K)
          refine wl_st2 (pc' := 109) (k0 := 11) (v := .long w120) (r := []) rfl rfl (fun lv121 e122 f123 => ?_)
          have e124 := f123 0 _ e108 (by decide) (by decide) rfl
          have e125 := f123 1 _ e109 (by decide) (by decide) rfl
          have e126 := f123 2 _ e110 (by decide) (by decide) rfl
          have e127 := f123 3 _ e111 (by decide) (by decide) rfl
          have e128 := f123 4 _ e112 (by decide) (by decide) rfl
          have e129 := f123 5 _ e113 (by decide) (by decide) rfl
          have e130 := f123 6 _ e114 (by decide) (by decide) rfl
          have e131 := f123 7 _ e115 (by decide) (by decide) rfl
          have e132 := f123 8 _ e116 (by decide) (by decide) rfl
          have e133 := f123 9 _ e117 (by decide) (by decide) rfl
          have e134 := f123 10 _ e106 (by decide) (by decide) rfl
          refine wl_lld (pc' := 111) rfl e122 rfl ?_
          refine wp_p (pc' := 114) (lv' := lv121) (st' := [.long 1099511627776, .long w120]) rfl rfl ?_
          refine wp_lcmp (v := lg_cmp w120 1099511627776) (pc' := 115) rfl rfl rfl ?_
          refine wp_if_eq (pc' := 118) rfl rfl (fun c135 => ?_) (fun c135 => ?_)
          · replace k := it_t (c := (lg_cmp w120 1099511627776) = (nI 0)) c135 k
            exact k _ trivial
          · replace k := it_f (c := (lg_cmp w120 1099511627776) = (nI 0)) c135 k
            refine wl_ald_n (pc' := 119) rfl e124 rfl ?_
            refine wp_get (v := .ref 58) (pc' := 122) rfl (hq_42 _) rfl rfl ?_
            refine wp_p (pc' := 124) (lv' := lv121) (st' := [.int (nI 80), .ref 58]) rfl rfl ?_
            refine wl_ild_n (pc' := 125) rfl e125 rfl ?_
            refine wp_imul (v := (nI 80) * x1) (pc' := 126) rfl rfl rfl ?_
            refine wp_p (pc' := 127) (lv' := lv121) (st' := [.int (nI 4), .int ((nI 80) * x1), .ref 58]) rfl rfl ?_
            refine wl_ild_n (pc' := 128) rfl e126 rfl ?_
            refine wp_imul (v := (nI 4) * x2) (pc' := 129) rfl rfl rfl ?_
            refine wp_iadd (v := ((nI 80) * x1) + ((nI 4) * x2)) (pc' := 130) rfl rfl rfl ?_
            refine wl_ild (pc' := 132) rfl e134 rfl ?_
            refine wp_iadd (v := (((nI 80) * x1) + ((nI 4) * x2)) + (((m3.A 47).getD (ix ((m3.A 53).getD (ix x3) 0)) 0) - ((m3.A 47).getD (ix ((m3.A 53).getD (ix x3) 0)) 0) / (nI 4) * (nI 4))) (pc' := 133) rfl rfl rfl ?_
            obtain ⟨k136, k⟩ := k
            refine wl_laload (g := m119.B 58) (pc' := 134) rfl (hq_58 _) k136 rfl ?_
            refine wl_lld (pc' := 136) rfl e122 rfl ?_
            refine wp_lcmp (v := lg_cmp ((m119.B 58).getD (ix ((((nI 80) * x1) + ((nI 4) * x2)) + (((m3.A 47).getD (ix ((m3.A 53).getD (ix x3) 0)) 0) - ((m3.A 47).getD (ix ((m3.A 53).getD (ix x3) 0)) 0) / (nI 4) * (nI 4)))) 0) w120) (pc' := 137) rfl rfl rfl ?_
            refine wp_if_ne (pc' := 140) rfl rfl (fun c137 => ?_) (fun c137 => ?_)
            · replace k := it_f (c := (lg_cmp ((m119.B 58).getD (ix ((((nI 80) * x1) + ((nI 4) * x2)) + (((m3.A 47).getD (ix ((m3.A 53).getD (ix x3) 0)) 0) - ((m3.A 47).getD (ix ((m3.A 53).getD (ix x3) 0)) 0) / (nI 4) * (nI 4)))) 0) w120) = (nI 0)) c137 k
              exact k _ trivial
            · replace k := it_t (c := (lg_cmp ((m119.B 58).getD (ix ((((nI 80) * x1) + ((nI 4) * x2)) + (((m3.A 47).getD (ix ((m3.A 53).getD (ix x3) 0)) 0) - ((m3.A 47).getD (ix ((m3.A 53).getD (ix x3) 0)) 0) / (nI 4) * (nI 4)))) 0) w120) = (nI 0)) c137 k
              refine wp_p (pc' := 141) (lv' := lv121) (st' := [.int (nI 1)]) rfl rfl ?_
              refine wp_p (pc' := 145) (lv' := lv121) (st' := [.int (nI 1)]) rfl rfl ?_
              exact wl_ret rfl rfl ⟨_, rfl, k⟩
        · replace k := it_t (c := w4 = (nI 0)) c118 k
          refine wl_ald_n (pc' := 89) rfl e108 rfl ?_
          refine wl_ild (pc' := 91) rfl e116 rfl ?_
          refine wl_ild (pc' := 93) rfl e117 rfl ?_
          refine wl_cv (As := [.ref 42, .int ((m3.A 55).getD (ix x3) 0), .int (((m3.A 54).getD (ix x3) 0) - (nI 1))]) (r := []) (pc' := 96) rfl rfl rfl k ?_
          rintro _ m138 ⟨w139, rfl, k⟩
          show sm_wp (d + 1) 176 96 lv105 [.long w139] (hp m138) (WQ K)
          refine wp_p (pc' := 107) (lv' := lv105) (st' := [.long w139]) rfl rfl ?_
          refine wl_st2 (pc' := 109) (k0 := 11) (v := .long w139) (r := []) rfl rfl (fun lv140 e141 f142 => ?_)
          have e143 := f142 0 _ e108 (by decide) (by decide) rfl
          have e144 := f142 1 _ e109 (by decide) (by decide) rfl
          have e145 := f142 2 _ e110 (by decide) (by decide) rfl
          have e146 := f142 3 _ e111 (by decide) (by decide) rfl
          have e147 := f142 4 _ e112 (by decide) (by decide) rfl
          have e148 := f142 5 _ e113 (by decide) (by decide) rfl
          have e149 := f142 6 _ e114 (by decide) (by decide) rfl
          have e150 := f142 7 _ e115 (by decide) (by decide) rfl
          have e151 := f142 8 _ e116 (by decide) (by decide) rfl
          have e152 := f142 9 _ e117 (by decide) (by decide) rfl
          have e153 := f142 10 _ e106 (by decide) (by decide) rfl
          refine wl_lld (pc' := 111) rfl e141 rfl ?_
          refine wp_p (pc' := 114) (lv' := lv140) (st' := [.long 1099511627776, .long w139]) rfl rfl ?_
          refine wp_lcmp (v := lg_cmp w139 1099511627776) (pc' := 115) rfl rfl rfl ?_
          refine wp_if_eq (pc' := 118) rfl rfl (fun c154 => ?_) (fun c154 => ?_)
          · replace k := it_t (c := (lg_cmp w139 1099511627776) = (nI 0)) c154 k
            exact k _ trivial
          · replace k := it_f (c := (lg_cmp w139 1099511627776) = (nI 0)) c154 k
            refine wl_ald_n (pc' := 119) rfl e143 rfl ?_
            refine wp_get (v := .ref 58) (pc' := 122) rfl (hq_42 _) rfl rfl ?_
            refine wp_p (pc' := 124) (lv' := lv140) (st' := [.int (nI 80), .ref 58]) rfl rfl ?_
            refine wl_ild_n (pc' := 125) rfl e144 rfl ?_
            refine wp_imul (v := (nI 80) * x1) (pc' := 126) rfl rfl rfl ?_
            refine wp_p (pc' := 127) (lv' := lv140) (st' := [.int (nI 4), .int ((nI 80) * x1), .ref 58]) rfl rfl ?_
            refine wl_ild_n (pc' := 128) rfl e145 rfl ?_
            refine wp_imul (v := (nI 4) * x2) (pc' := 129) rfl rfl rfl ?_
            refine wp_iadd (v := ((nI 80) * x1) + ((nI 4) * x2)) (pc' := 130) rfl rfl rfl ?_
            refine wl_ild (pc' := 132) rfl e153 rfl ?_
            refine wp_iadd (v := (((nI 80) * x1) + ((nI 4) * x2)) + (((m3.A 47).getD (ix ((m3.A 53).getD (ix x3) 0)) 0) - ((m3.A 47).getD (ix ((m3.A 53).getD (ix x3) 0)) 0) / (nI 4) * (nI 4))) (pc' := 133) rfl rfl rfl ?_
            obtain ⟨k155, k⟩ := k
            refine wl_laload (g := m138.B 58) (pc' := 134) rfl (hq_58 _) k155 rfl ?_
            refine wl_lld (pc' := 136) rfl e141 rfl ?_
            refine wp_lcmp (v := lg_cmp ((m138.B 58).getD (ix ((((nI 80) * x1) + ((nI 4) * x2)) + (((m3.A 47).getD (ix ((m3.A 53).getD (ix x3) 0)) 0) - ((m3.A 47).getD (ix ((m3.A 53).getD (ix x3) 0)) 0) / (nI 4) * (nI 4)))) 0) w139) (pc' := 137) rfl rfl rfl ?_
            refine wp_if_ne (pc' := 140) rfl rfl (fun c156 => ?_) (fun c156 => ?_)
            · replace k := it_f (c := (lg_cmp ((m138.B 58).getD (ix ((((nI 80) * x1) + ((nI 4) * x2)) + (((m3.A 47).getD (ix ((m3.A 53).getD (ix x3) 0)) 0) - ((m3.A 47).getD (ix ((m3.A 53).getD (ix x3) 0)) 0) / (nI 4) * (nI 4)))) 0) w139) = (nI 0)) c156 k
              exact k _ trivial
            · replace k := it_t (c := (lg_cmp ((m138.B 58).getD (ix ((((nI 80) * x1) + ((nI 4) * x2)) + (((m3.A 47).getD (ix ((m3.A 53).getD (ix x3) 0)) 0) - ((m3.A 47).getD (ix ((m3.A 53).getD (ix x3) 0)) 0) / (nI 4) * (nI 4)))) 0) w139) = (nI 0)) c156 k
              refine wp_p (pc' := 141) (lv' := lv140) (st' := [.int (nI 1)]) rfl rfl ?_
              refine wp_p (pc' := 145) (lv' := lv140) (st' := [.int (nI 1)]) rfl rfl ?_
              exact wl_ret rfl rfl ⟨_, rfl, k⟩
    · replace k := it_t (c := x4 = (nI 3)) c2 k
      refine wp_p (pc' := 20) (lv' := lv0) (st' := [.int (nI 1), .int x5, .int x1, .int x3, .ref 42]) rfl rfl ?_
      refine wp_p (pc' := 24) (lv' := lv0) (st' := [.int (nI 1), .int x5, .int x1, .int x3, .ref 42]) rfl rfl ?_
      refine wl_cv (As := [.ref 42, .int x3, .int x1, .int x5, .int (nI 1)]) (r := []) (pc' := 27) rfl rfl rfl k ?_
      rintro _ m157 ⟨w158, rfl, k⟩
      show sm_wp (d + 1) 176 27 lv0 [.int w158] (hp m157) (WQ K)
      refine wl_st1 (pc' := 29) (k0 := 6) (v := .int w158) (r := []) rfl rfl (fun lv159 e160 f161 => ?_)
      have e162 := f161 0 _ e_0 (by decide) rfl
      have e163 := f161 1 _ e_1 (by decide) rfl
      have e164 := f161 2 _ e_2 (by decide) rfl
      have e165 := f161 3 _ e_3 (by decide) rfl
      have e166 := f161 4 _ e_4 (by decide) rfl
      have e167 := f161 5 _ e_5 (by decide) rfl
      refine wl_ald_n (pc' := 30) rfl e162 rfl ?_
      refine wp_get (v := .ref 53) (pc' := 33) rfl (hq_42 _) rfl rfl ?_
      refine wl_ild_n (pc' := 34) rfl e165 rfl ?_
      obtain ⟨k168, k⟩ := k
      refine wl_iaload (g := m157.A 53) (pc' := 35) rfl (hq_53 _) k168 rfl ?_
      refine wl_st1 (pc' := 37) (k0 := 7) (v := .int ((m157.A 53).getD (ix x3) 0)) (r := []) rfl rfl (fun lv169 e170 f171 => ?_)
      have e172 := f171 0 _ e162 (by decide) rfl
      have e173 := f171 1 _ e163 (by decide) rfl
      have e174 := f171 2 _ e164 (by decide) rfl
      have e175 := f171 3 _ e165 (by decide) rfl
      have e176 := f171 4 _ e166 (by decide) rfl
      have e177 := f171 5 _ e167 (by decide) rfl
      have e178 := f171 6 _ e160 (by decide) rfl
      refine wl_ald_n (pc' := 38) rfl e172 rfl ?_
      refine wp_get (v := .ref 55) (pc' := 41) rfl (hq_42 _) rfl rfl ?_
      refine wl_ild_n (pc' := 42) rfl e175 rfl ?_
      obtain ⟨k179, k⟩ := k
      refine wl_iaload (g := m157.A 55) (pc' := 43) rfl (hq_55 _) k179 rfl ?_
      refine wl_st1 (pc' := 45) (k0 := 8) (v := .int ((m157.A 55).getD (ix x3) 0)) (r := []) rfl rfl (fun lv180 e181 f182 => ?_)
      have e183 := f182 0 _ e172 (by decide) rfl
      have e184 := f182 1 _ e173 (by decide) rfl
      have e185 := f182 2 _ e174 (by decide) rfl
      have e186 := f182 3 _ e175 (by decide) rfl
      have e187 := f182 4 _ e176 (by decide) rfl
      have e188 := f182 5 _ e177 (by decide) rfl
      have e189 := f182 6 _ e178 (by decide) rfl
      have e190 := f182 7 _ e170 (by decide) rfl
      refine wl_ald_n (pc' := 46) rfl e183 rfl ?_
      refine wp_get (v := .ref 54) (pc' := 49) rfl (hq_42 _) rfl rfl ?_
      refine wl_ild_n (pc' := 50) rfl e186 rfl ?_
      obtain ⟨k191, k⟩ := k
      refine wl_iaload (g := m157.A 54) (pc' := 51) rfl (hq_54 _) k191 rfl ?_
      refine wp_p (pc' := 52) (lv' := lv180) (st' := [.int (nI 1), .int ((m157.A 54).getD (ix x3) 0)]) rfl rfl ?_
      refine wp_isub (v := ((m157.A 54).getD (ix x3) 0) - (nI 1)) (pc' := 53) rfl rfl rfl ?_
      refine wl_st1 (pc' := 55) (k0 := 9) (v := .int (((m157.A 54).getD (ix x3) 0) - (nI 1))) (r := []) rfl rfl (fun lv192 e193 f194 => ?_)
      have e195 := f194 0 _ e183 (by decide) rfl
      have e196 := f194 1 _ e184 (by decide) rfl
      have e197 := f194 2 _ e185 (by decide) rfl
      have e198 := f194 3 _ e186 (by decide) rfl
      have e199 := f194 4 _ e187 (by decide) rfl
      have e200 := f194 5 _ e188 (by decide) rfl
      have e201 := f194 6 _ e189 (by decide) rfl
      have e202 := f194 7 _ e190 (by decide) rfl
      have e203 := f194 8 _ e181 (by decide) rfl
      refine wl_ild (pc' := 57) rfl e201 rfl ?_
      refine wp_if_ne (pc' := 60) rfl rfl (fun c204 => ?_) (fun c204 => ?_)
      · replace k := it_f (c := w158 = (nI 0)) c204 k
        refine wl_ald_n (pc' := 73) rfl e195 rfl ?_
        refine wp_get (v := .ref 47) (pc' := 76) rfl (hq_42 _) rfl rfl ?_
        refine wl_ild (pc' := 78) rfl e203 rfl ?_
        obtain ⟨k205, k⟩ := k
        refine wl_iaload (g := m157.A 47) (pc' := 79) rfl (hq_47 _) k205 rfl ?_
        refine wp_p (pc' := 80) (lv' := lv192) (st' := [.int (nI 4), .int ((m157.A 47).getD (ix ((m157.A 55).getD (ix x3) 0)) 0)]) rfl rfl ?_
        refine wp_irem (v := ((m157.A 47).getD (ix ((m157.A 55).getD (ix x3) 0)) 0) - ((m157.A 47).getD (ix ((m157.A 55).getD (ix x3) 0)) 0) / (nI 4) * (nI 4)) (pc' := 81) rfl (by decide) rfl rfl ?_
        refine wl_st1 (pc' := 83) (k0 := 10) (v := .int (((m157.A 47).getD (ix ((m157.A 55).getD (ix x3) 0)) 0) - ((m157.A 47).getD (ix ((m157.A 55).getD (ix x3) 0)) 0) / (nI 4) * (nI 4))) (r := []) rfl rfl (fun lv206 e207 f208 => ?_)
        have e209 := f208 0 _ e195 (by decide) rfl
        have e210 := f208 1 _ e196 (by decide) rfl
        have e211 := f208 2 _ e197 (by decide) rfl
        have e212 := f208 3 _ e198 (by decide) rfl
        have e213 := f208 4 _ e199 (by decide) rfl
        have e214 := f208 5 _ e200 (by decide) rfl
        have e215 := f208 6 _ e201 (by decide) rfl
        have e216 := f208 7 _ e202 (by decide) rfl
        have e217 := f208 8 _ e203 (by decide) rfl
        have e218 := f208 9 _ e193 (by decide) rfl
        refine wl_ild (pc' := 85) rfl e215 rfl ?_
        refine wp_if_ne (pc' := 88) rfl rfl (fun c219 => ?_) (fun c219 => ?_)
        · replace k := it_f (c := w158 = (nI 0)) c219 k
          refine wl_ald_n (pc' := 100) rfl e209 rfl ?_
          refine wl_ild (pc' := 102) rfl e216 rfl ?_
          refine wl_ild (pc' := 104) rfl e217 rfl ?_
          refine wl_cv (As := [.ref 42, .int ((m157.A 53).getD (ix x3) 0), .int ((m157.A 55).getD (ix x3) 0)]) (r := []) (pc' := 107) rfl rfl rfl k ?_
          rintro _ m220 ⟨w221, rfl, k⟩
          show sm_wp (d + 1) 176 107 lv206 [.long w221] (hp m220) (WQ K)
          refine wl_st2 (pc' := 109) (k0 := 11) (v := .long w221) (r := []) rfl rfl (fun lv222 e223 f224 => ?_)
          have e225 := f224 0 _ e209 (by decide) (by decide) rfl
          have e226 := f224 1 _ e210 (by decide) (by decide) rfl
          have e227 := f224 2 _ e211 (by decide) (by decide) rfl
          have e228 := f224 3 _ e212 (by decide) (by decide) rfl
          have e229 := f224 4 _ e213 (by decide) (by decide) rfl
          have e230 := f224 5 _ e214 (by decide) (by decide) rfl
          have e231 := f224 6 _ e215 (by decide) (by decide) rfl
          have e232 := f224 7 _ e216 (by decide) (by decide) rfl
          have e233 := f224 8 _ e217 (by decide) (by decide) rfl
          have e234 := f224 9 _ e218 (by decide) (by decide) rfl
          have e235 := f224 10 _ e207 (by decide) (by decide) rfl
          refine wl_lld (pc' := 111) rfl e223 rfl ?_
          refine wp_p (pc' := 114) (lv' := lv222) (st' := [.long 1099511627776, .long w221]) rfl rfl ?_
          refine wp_lcmp (v := lg_cmp w221 1099511627776) (pc' := 115) rfl rfl rfl ?_
          refine wp_if_eq (pc' := 118) rfl rfl (fun c236 => ?_) (fun c236 => ?_)
          · replace k := it_t (c := (lg_cmp w221 1099511627776) = (nI 0)) c236 k
            exact k _ trivial
          · replace k := it_f (c := (lg_cmp w221 1099511627776) = (nI 0)) c236 k
            refine wl_ald_n (pc' := 119) rfl e225 rfl ?_
            refine wp_get (v := .ref 58) (pc' := 122) rfl (hq_42 _) rfl rfl ?_
            refine wp_p (pc' := 124) (lv' := lv222) (st' := [.int (nI 80), .ref 58]) rfl rfl ?_
            refine wl_ild_n (pc' := 125) rfl e226 rfl ?_
            refine wp_imul (v := (nI 80) * x1) (pc' := 126) rfl rfl rfl ?_
            refine wp_p (pc' := 127) (lv' := lv222) (st' := [.int (nI 4), .int ((nI 80) * x1), .ref 58]) rfl rfl ?_
            refine wl_ild_n (pc' := 128) rfl e227 rfl ?_
            refine wp_imul (v := (nI 4) * x2) (pc' := 129) rfl rfl rfl ?_
            refine wp_iadd (v := ((nI 80) * x1) + ((nI 4) * x2)) (pc' := 130) rfl rfl rfl ?_
            refine wl_ild (pc' := 132) rfl e235 rfl ?_
            refine wp_iadd (v := (((nI 80) * x1) + ((nI 4) * x2)) + (((m157.A 47).getD (ix ((m157.A 55).getD (ix x3) 0)) 0) - ((m157.A 47).getD (ix ((m157.A 55).getD (ix x3) 0)) 0) / (nI 4) * (nI 4))) (pc' := 133) rfl rfl rfl ?_
            obtain ⟨k237, k⟩ := k
            refine wl_laload (g := m220.B 58) (pc' := 134) rfl (hq_58 _) k237 rfl ?_
            refine wl_lld (pc' := 136) rfl e223 rfl ?_
            refine wp_lcmp (v := lg_cmp ((m220.B 58).getD (ix ((((nI 80) * x1) + ((nI 4) * x2)) + (((m157.A 47).getD (ix ((m157.A 55).getD (ix x3) 0)) 0) - ((m157.A 47).getD (ix ((m157.A 55).getD (ix x3) 0)) 0) / (nI 4) * (nI 4)))) 0) w221) (pc' := 137) rfl rfl rfl ?_
            refine wp_if_ne (pc' := 140) rfl rfl (fun c238 => ?_) (fun c238 => ?_)
            · replace k := it_f (c := (lg_cmp ((m220.B 58).getD (ix ((((nI 80) * x1) + ((nI 4) * x2)) + (((m157.A 47).getD (ix ((m157.A 55).getD (ix x3) 0)) 0) - ((m157.A 47).getD (ix ((m157.A 55).getD (ix x3) 0)) 0) / (nI 4) * (nI 4)))) 0) w221) = (nI 0)) c238 k
              exact k _ trivial
            · replace k := it_t (c := (lg_cmp ((m220.B 58).getD (ix ((((nI 80) * x1) + ((nI 4) * x2)) + (((m157.A 47).getD (ix ((m157.A 55).getD (ix x3) 0)) 0) - ((m157.A 47).getD (ix ((m157.A 55).getD (ix x3) 0)) 0) / (nI 4) * (nI 4)))) 0) w221) = (nI 0)) c238 k
              refine wp_p (pc' := 141) (lv' := lv222) (st' := [.int (nI 1)]) rfl rfl ?_
              refine wp_p (pc' := 145) (lv' := lv222) (st' := [.int (nI 1)]) rfl rfl ?_
              exact wl_ret rfl rfl ⟨_, rfl, k⟩
        · replace k := it_t (c := w158 = (nI 0)) c219 k
          refine wl_ald_n (pc' := 89) rfl e209 rfl ?_
          refine wl_ild (pc' := 91) rfl e217 rfl ?_
          refine wl_ild (pc' := 93) rfl e218 rfl ?_
          refine wl_cv (As := [.ref 42, .int ((m157.A 55).getD (ix x3) 0), .int (((m157.A 54).getD (ix x3) 0) - (nI 1))]) (r := []) (pc' := 96) rfl rfl rfl k ?_
          rintro _ m239 ⟨w240, rfl, k⟩
          show sm_wp (d + 1) 176 96 lv206 [.long w240] (hp m239) (WQ K)
          refine wp_p (pc' := 107) (lv' := lv206) (st' := [.long w240]) rfl rfl ?_
          refine wl_st2 (pc' := 109) (k0 := 11) (v := .long w240) (r := []) rfl rfl (fun lv241 e242 f243 => ?_)
          have e244 := f243 0 _ e209 (by decide) (by decide) rfl
          have e245 := f243 1 _ e210 (by decide) (by decide) rfl
          have e246 := f243 2 _ e211 (by decide) (by decide) rfl
          have e247 := f243 3 _ e212 (by decide) (by decide) rfl
          have e248 := f243 4 _ e213 (by decide) (by decide) rfl
          have e249 := f243 5 _ e214 (by decide) (by decide) rfl
          have e250 := f243 6 _ e215 (by decide) (by decide) rfl
          have e251 := f243 7 _ e216 (by decide) (by decide) rfl
          have e252 := f243 8 _ e217 (by decide) (by decide) rfl
          have e253 := f243 9 _ e218 (by decide) (by decide) rfl
          have e254 := f243 10 _ e207 (by decide) (by decide) rfl
          refine wl_lld (pc' := 111) rfl e242 rfl ?_
          refine wp_p (pc' := 114) (lv' := lv241) (st' := [.long 1099511627776, .long w240]) rfl rfl ?_
          refine wp_lcmp (v := lg_cmp w240 1099511627776) (pc' := 115) rfl rfl rfl ?_
          refine wp_if_eq (pc' := 118) rfl rfl (fun c255 => ?_) (fun c255 => ?_)
          · replace k := it_t (c := (lg_cmp w240 1099511627776) = (nI 0)) c255 k
            exact k _ trivial
          · replace k := it_f (c := (lg_cmp w240 1099511627776) = (nI 0)) c255 k
            refine wl_ald_n (pc' := 119) rfl e244 rfl ?_
            refine wp_get (v := .ref 58) (pc' := 122) rfl (hq_42 _) rfl rfl ?_
            refine wp_p (pc' := 124) (lv' := lv241) (st' := [.int (nI 80), .ref 58]) rfl rfl ?_
            refine wl_ild_n (pc' := 125) rfl e245 rfl ?_
            refine wp_imul (v := (nI 80) * x1) (pc' := 126) rfl rfl rfl ?_
            refine wp_p (pc' := 127) (lv' := lv241) (st' := [.int (nI 4), .int ((nI 80) * x1), .ref 58]) rfl rfl ?_
            refine wl_ild_n (pc' := 128) rfl e246 rfl ?_
            refine wp_imul (v := (nI 4) * x2) (pc' := 129) rfl rfl rfl ?_
            refine wp_iadd (v := ((nI 80) * x1) + ((nI 4) * x2)) (pc' := 130) rfl rfl rfl ?_
            refine wl_ild (pc' := 132) rfl e254 rfl ?_
            refine wp_iadd (v := (((nI 80) * x1) + ((nI 4) * x2)) + (((m157.A 47).getD (ix ((m157.A 55).getD (ix x3) 0)) 0) - ((m157.A 47).getD (ix ((m157.A 55).getD (ix x3) 0)) 0) / (nI 4) * (nI 4))) (pc' := 133) rfl rfl rfl ?_
            obtain ⟨k256, k⟩ := k
            refine wl_laload (g := m239.B 58) (pc' := 134) rfl (hq_58 _) k256 rfl ?_
            refine wl_lld (pc' := 136) rfl e242 rfl ?_
            refine wp_lcmp (v := lg_cmp ((m239.B 58).getD (ix ((((nI 80) * x1) + ((nI 4) * x2)) + (((m157.A 47).getD (ix ((m157.A 55).getD (ix x3) 0)) 0) - ((m157.A 47).getD (ix ((m157.A 55).getD (ix x3) 0)) 0) / (nI 4) * (nI 4)))) 0) w240) (pc' := 137) rfl rfl rfl ?_
            refine wp_if_ne (pc' := 140) rfl rfl (fun c257 => ?_) (fun c257 => ?_)
            · replace k := it_f (c := (lg_cmp ((m239.B 58).getD (ix ((((nI 80) * x1) + ((nI 4) * x2)) + (((m157.A 47).getD (ix ((m157.A 55).getD (ix x3) 0)) 0) - ((m157.A 47).getD (ix ((m157.A 55).getD (ix x3) 0)) 0) / (nI 4) * (nI 4)))) 0) w240) = (nI 0)) c257 k
              exact k _ trivial
            · replace k := it_t (c := (lg_cmp ((m239.B 58).getD (ix ((((nI 80) * x1) + ((nI 4) * x2)) + (((m157.A 47).getD (ix ((m157.A 55).getD (ix x3) 0)) 0) - ((m157.A 47).getD (ix ((m157.A 55).getD (ix x3) 0)) 0) / (nI 4) * (nI 4)))) 0) w240) = (nI 0)) c257 k
              refine wp_p (pc' := 141) (lv' := lv241) (st' := [.int (nI 1)]) rfl rfl ?_
              refine wp_p (pc' := 145) (lv' := lv241) (st' := [.int (nI 1)]) rfl rfl ?_
              exact wl_ret rfl rfl ⟨_, rfl, k⟩
      · replace k := it_t (c := w158 = (nI 0)) c204 k
        refine wl_ald_n (pc' := 61) rfl e195 rfl ?_
        refine wp_get (v := .ref 47) (pc' := 64) rfl (hq_42 _) rfl rfl ?_
        refine wl_ild (pc' := 66) rfl e202 rfl ?_
        obtain ⟨k258, k⟩ := k
        refine wl_iaload (g := m157.A 47) (pc' := 67) rfl (hq_47 _) k258 rfl ?_
        refine wp_p (pc' := 68) (lv' := lv192) (st' := [.int (nI 4), .int ((m157.A 47).getD (ix ((m157.A 53).getD (ix x3) 0)) 0)]) rfl rfl ?_
        refine wp_irem (v := ((m157.A 47).getD (ix ((m157.A 53).getD (ix x3) 0)) 0) - ((m157.A 47).getD (ix ((m157.A 53).getD (ix x3) 0)) 0) / (nI 4) * (nI 4)) (pc' := 69) rfl (by decide) rfl rfl ?_
        refine wp_p (pc' := 81) (lv' := lv192) (st' := [.int (((m157.A 47).getD (ix ((m157.A 53).getD (ix x3) 0)) 0) - ((m157.A 47).getD (ix ((m157.A 53).getD (ix x3) 0)) 0) / (nI 4) * (nI 4))]) rfl rfl ?_
        refine wl_st1 (pc' := 83) (k0 := 10) (v := .int (((m157.A 47).getD (ix ((m157.A 53).getD (ix x3) 0)) 0) - ((m157.A 47).getD (ix ((m157.A 53).getD (ix x3) 0)) 0) / (nI 4) * (nI 4))) (r := []) rfl rfl (fun lv259 e260 f261 => ?_)
        have e262 := f261 0 _ e195 (by decide) rfl
        have e263 := f261 1 _ e196 (by decide) rfl
        have e264 := f261 2 _ e197 (by decide) rfl
        have e265 := f261 3 _ e198 (by decide) rfl
        have e266 := f261 4 _ e199 (by decide) rfl
        have e267 := f261 5 _ e200 (by decide) rfl
        have e268 := f261 6 _ e201 (by decide) rfl
        have e269 := f261 7 _ e202 (by decide) rfl
        have e270 := f261 8 _ e203 (by decide) rfl
        have e271 := f261 9 _ e193 (by decide) rfl
        refine wl_ild (pc' := 85) rfl e268 rfl ?_
        refine wp_if_ne (pc' := 88) rfl rfl (fun c272 => ?_) (fun c272 => ?_)
        · replace k := it_f (c := w158 = (nI 0)) c272 k
          refine wl_ald_n (pc' := 100) rfl e262 rfl ?_
          refine wl_ild (pc' := 102) rfl e269 rfl ?_
          refine wl_ild (pc' := 104) rfl e270 rfl ?_
          refine wl_cv (As := [.ref 42, .int ((m157.A 53).getD (ix x3) 0), .int ((m157.A 55).getD (ix x3) 0)]) (r := []) (pc' := 107) rfl rfl rfl k ?_
          rintro _ m273 ⟨w274, rfl, k⟩
          show sm_wp (d + 1) 176 107 lv259 [.long w274] (hp m273) (WQ K)
          refine wl_st2 (pc' := 109) (k0 := 11) (v := .long w274) (r := []) rfl rfl (fun lv275 e276 f277 => ?_)
          have e278 := f277 0 _ e262 (by decide) (by decide) rfl
          have e279 := f277 1 _ e263 (by decide) (by decide) rfl
          have e280 := f277 2 _ e264 (by decide) (by decide) rfl
          have e281 := f277 3 _ e265 (by decide) (by decide) rfl
          have e282 := f277 4 _ e266 (by decide) (by decide) rfl
          have e283 := f277 5 _ e267 (by decide) (by decide) rfl
          have e284 := f277 6 _ e268 (by decide) (by decide) rfl
          have e285 := f277 7 _ e269 (by decide) (by decide) rfl
          have e286 := f277 8 _ e270 (by decide) (by decide) rfl
          have e287 := f277 9 _ e271 (by decide) (by decide) rfl
          have e288 := f277 10 _ e260 (by decide) (by decide) rfl
          refine wl_lld (pc' := 111) rfl e276 rfl ?_
          refine wp_p (pc' := 114) (lv' := lv275) (st' := [.long 1099511627776, .long w274]) rfl rfl ?_
          refine wp_lcmp (v := lg_cmp w274 1099511627776) (pc' := 115) rfl rfl rfl ?_
          refine wp_if_eq (pc' := 118) rfl rfl (fun c289 => ?_) (fun c289 => ?_)
          · replace k := it_t (c := (lg_cmp w274 1099511627776) = (nI 0)) c289 k
            exact k _ trivial
          · replace k := it_f (c := (lg_cmp w274 1099511627776) = (nI 0)) c289 k
            refine wl_ald_n (pc' := 119) rfl e278 rfl ?_
            refine wp_get (v := .ref 58) (pc' := 122) rfl (hq_42 _) rfl rfl ?_
            refine wp_p (pc' := 124) (lv' := lv275) (st' := [.int (nI 80), .ref 58]) rfl rfl ?_
            refine wl_ild_n (pc' := 125) rfl e279 rfl ?_
            refine wp_imul (v := (nI 80) * x1) (pc' := 126) rfl rfl rfl ?_
            refine wp_p (pc' := 127) (lv' := lv275) (st' := [.int (nI 4), .int ((nI 80) * x1), .ref 58]) rfl rfl ?_
            refine wl_ild_n (pc' := 128) rfl e280 rfl ?_
            refine wp_imul (v := (nI 4) * x2) (pc' := 129) rfl rfl rfl ?_
            refine wp_iadd (v := ((nI 80) * x1) + ((nI 4) * x2)) (pc' := 130) rfl rfl rfl ?_
            refine wl_ild (pc' := 132) rfl e288 rfl ?_
            refine wp_iadd (v := (((nI 80) * x1) + ((nI 4) * x2)) + (((m157.A 47).getD (ix ((m157.A 53).getD (ix x3) 0)) 0) - ((m157.A 47).getD (ix ((m157.A 53).getD (ix x3) 0)) 0) / (nI 4) * (nI 4))) (pc' := 133) rfl rfl rfl ?_
            obtain ⟨k290, k⟩ := k
            refine wl_laload (g := m273.B 58) (pc' := 134) rfl (hq_58 _) k290 rfl ?_
            refine wl_lld (pc' := 136) rfl e276 rfl ?_
            refine wp_lcmp (v := lg_cmp ((m273.B 58).getD (ix ((((nI 80) * x1) + ((nI 4) * x2)) + (((m157.A 47).getD (ix ((m157.A 53).getD (ix x3) 0)) 0) - ((m157.A 47).getD (ix ((m157.A 53).getD (ix x3) 0)) 0) / (nI 4) * (nI 4)))) 0) w274) (pc' := 137) rfl rfl rfl ?_
            refine wp_if_ne (pc' := 140) rfl rfl (fun c291 => ?_) (fun c291 => ?_)
            · replace k := it_f (c := (lg_cmp ((m273.B 58).getD (ix ((((nI 80) * x1) + ((nI 4) * x2)) + (((m157.A 47).getD (ix ((m157.A 53).getD (ix x3) 0)) 0) - ((m157.A 47).getD (ix ((m157.A 53).getD (ix x3) 0)) 0) / (nI 4) * (nI 4)))) 0) w274) = (nI 0)) c291 k
              exact k _ trivial
            · replace k := it_t (c := (lg_cmp ((m273.B 58).getD (ix ((((nI 80) * x1) + ((nI 4) * x2)) + (((m157.A 47).getD (ix ((m157.A 53).getD (ix x3) 0)) 0) - ((m157.A 47).getD (ix ((m157.A 53).getD (ix x3) 0)) 0) / (nI 4) * (nI 4)))) 0) w274) = (nI 0)) c291 k
              refine wp_p (pc' := 141) (lv' := lv275) (st' := [.int (nI 1)]) rfl rfl ?_
              refine wp_p (pc' := 145) (lv' := lv275) (st' := [.int (nI 1)]) rfl rfl ?_
              exact wl_ret rfl rfl ⟨_, rfl, k⟩
        · replace k := it_t (c := w158 = (nI 0)) c272 k
          refine wl_ald_n (pc' := 89) rfl e262 rfl ?_
          refine wl_ild (pc' := 91) rfl e270 rfl ?_
          refine wl_ild (pc' := 93) rfl e271 rfl ?_
          refine wl_cv (As := [.ref 42, .int ((m157.A 55).getD (ix x3) 0), .int (((m157.A 54).getD (ix x3) 0) - (nI 1))]) (r := []) (pc' := 96) rfl rfl rfl k ?_
          rintro _ m292 ⟨w293, rfl, k⟩
          show sm_wp (d + 1) 176 96 lv259 [.long w293] (hp m292) (WQ K)
          refine wp_p (pc' := 107) (lv' := lv259) (st' := [.long w293]) rfl rfl ?_
          refine wl_st2 (pc' := 109) (k0 := 11) (v := .long w293) (r := []) rfl rfl (fun lv294 e295 f296 => ?_)
          have e297 := f296 0 _ e262 (by decide) (by decide) rfl
          have e298 := f296 1 _ e263 (by decide) (by decide) rfl
          have e299 := f296 2 _ e264 (by decide) (by decide) rfl
          have e300 := f296 3 _ e265 (by decide) (by decide) rfl
          have e301 := f296 4 _ e266 (by decide) (by decide) rfl
          have e302 := f296 5 _ e267 (by decide) (by decide) rfl
          have e303 := f296 6 _ e268 (by decide) (by decide) rfl
          have e304 := f296 7 _ e269 (by decide) (by decide) rfl
          have e305 := f296 8 _ e270 (by decide) (by decide) rfl
          have e306 := f296 9 _ e271 (by decide) (by decide) rfl
          have e307 := f296 10 _ e260 (by decide) (by decide) rfl
          refine wl_lld (pc' := 111) rfl e295 rfl ?_
          refine wp_p (pc' := 114) (lv' := lv294) (st' := [.long 1099511627776, .long w293]) rfl rfl ?_
          refine wp_lcmp (v := lg_cmp w293 1099511627776) (pc' := 115) rfl rfl rfl ?_
          refine wp_if_eq (pc' := 118) rfl rfl (fun c308 => ?_) (fun c308 => ?_)
          · replace k := it_t (c := (lg_cmp w293 1099511627776) = (nI 0)) c308 k
            exact k _ trivial
          · replace k := it_f (c := (lg_cmp w293 1099511627776) = (nI 0)) c308 k
            refine wl_ald_n (pc' := 119) rfl e297 rfl ?_
            refine wp_get (v := .ref 58) (pc' := 122) rfl (hq_42 _) rfl rfl ?_
            refine wp_p (pc' := 124) (lv' := lv294) (st' := [.int (nI 80), .ref 58]) rfl rfl ?_
            refine wl_ild_n (pc' := 125) rfl e298 rfl ?_
            refine wp_imul (v := (nI 80) * x1) (pc' := 126) rfl rfl rfl ?_
            refine wp_p (pc' := 127) (lv' := lv294) (st' := [.int (nI 4), .int ((nI 80) * x1), .ref 58]) rfl rfl ?_
            refine wl_ild_n (pc' := 128) rfl e299 rfl ?_
            refine wp_imul (v := (nI 4) * x2) (pc' := 129) rfl rfl rfl ?_
            refine wp_iadd (v := ((nI 80) * x1) + ((nI 4) * x2)) (pc' := 130) rfl rfl rfl ?_
            refine wl_ild (pc' := 132) rfl e307 rfl ?_
            refine wp_iadd (v := (((nI 80) * x1) + ((nI 4) * x2)) + (((m157.A 47).getD (ix ((m157.A 53).getD (ix x3) 0)) 0) - ((m157.A 47).getD (ix ((m157.A 53).getD (ix x3) 0)) 0) / (nI 4) * (nI 4))) (pc' := 133) rfl rfl rfl ?_
            obtain ⟨k309, k⟩ := k
            refine wl_laload (g := m292.B 58) (pc' := 134) rfl (hq_58 _) k309 rfl ?_
            refine wl_lld (pc' := 136) rfl e295 rfl ?_
            refine wp_lcmp (v := lg_cmp ((m292.B 58).getD (ix ((((nI 80) * x1) + ((nI 4) * x2)) + (((m157.A 47).getD (ix ((m157.A 53).getD (ix x3) 0)) 0) - ((m157.A 47).getD (ix ((m157.A 53).getD (ix x3) 0)) 0) / (nI 4) * (nI 4)))) 0) w293) (pc' := 137) rfl rfl rfl ?_
            refine wp_if_ne (pc' := 140) rfl rfl (fun c310 => ?_) (fun c310 => ?_)
            · replace k := it_f (c := (lg_cmp ((m292.B 58).getD (ix ((((nI 80) * x1) + ((nI 4) * x2)) + (((m157.A 47).getD (ix ((m157.A 53).getD (ix x3) 0)) 0) - ((m157.A 47).getD (ix ((m157.A 53).getD (ix x3) 0)) 0) / (nI 4) * (nI 4)))) 0) w293) = (nI 0)) c310 k
              exact k _ trivial
            · replace k := it_t (c := (lg_cmp ((m292.B 58).getD (ix ((((nI 80) * x1) + ((nI 4) * x2)) + (((m157.A 47).getD (ix ((m157.A 53).getD (ix x3) 0)) 0) - ((m157.A 47).getD (ix ((m157.A 53).getD (ix x3) 0)) 0) / (nI 4) * (nI 4)))) 0) w293) = (nI 0)) c310 k
              refine wp_p (pc' := 141) (lv' := lv294) (st' := [.int (nI 1)]) rfl rfl ?_
              refine wp_p (pc' := 145) (lv' := lv294) (st' := [.int (nI 1)]) rfl rfl ?_
              exact wl_ret rfl rfl ⟨_, rfl, k⟩
  · replace k := it_t (c := x4 = (nI 1)) c1 k
    refine wp_p (pc' := 7) (lv' := lv0) (st' := [.int (nI 1)]) rfl rfl ?_
    exact wl_ret rfl rfl ⟨_, rfl, k⟩
set_option maxRecDepth 20000 in
theorem sg_176_144 {d : Nat} {m : Mm} {K : Option Value → Mm → Prop} (k : K (some (.int (nI 0))) m) : WH d 176 144 [] [] m K := by
  intro lv0 el
  refine wp_p (pc' := 145) (lv' := lv0) (st' := [.int (nI 0)]) rfl rfl ?_
  exact wl_ret rfl rfl ⟨_, rfl, k⟩
/-! 177: QueryTablesModel.fetchOne -/
set_option maxRecDepth 20000 in
theorem sp_177 {d : Nat} {m : Mm} {K : Option Value → Mm → Prop} (x1 : Int32) (k : WP d 174 [.ref 42, .int x1, .int (nI 0)] m (fun v m1 => ∃ w2, v = some (.int w2) ∧ WH (d + 1) 177 22 [(0, .ref 42), (1, .int x1), (2, .int (m1.F 42 58)), (3, .int (nI 0))] [] ((m1.uF 42 57 w2).uF 42 56 (nI 0)) K)) : WP (d + 1) 177 [.ref 42, .int x1] m K := by
  have e_0 : sm_lk (lv_args 0 [.ref 42, .int x1]) 0 = some (.ref 42) := rfl
  have e_1 : sm_lk (lv_args 0 [.ref 42, .int x1]) 1 = some (.int x1) := rfl
  show sm_wp (d + 1) 177 0 (lv_args 0 [.ref 42, .int x1]) [] (hp m) (WQ K)
  generalize lv_args 0 [.ref 42, .int x1] = lv0 at *
  refine wl_ald_n (pc' := 1) rfl e_0 rfl ?_
  refine wl_ald_n (pc' := 2) rfl e_0 rfl ?_
  refine wl_ild_n (pc' := 3) rfl e_1 rfl ?_
  refine wp_p (pc' := 4) (lv' := lv0) (st' := [.int (nI 0), .int x1, .ref 42, .ref 42]) rfl rfl ?_
  refine wl_cv (As := [.ref 42, .int x1, .int (nI 0)]) (r := [.ref 42]) (pc' := 7) rfl rfl rfl k ?_
  rintro _ m1 ⟨w2, rfl, k⟩
  show sm_wp (d + 1) 177 7 lv0 [.int w2, .ref 42] (hp m1) (WQ K)
  refine wl_put (pc' := 10) (h2 := hp (m1.uF 42 57 w2)) rfl (hq_42 _) rfl rfl rfl (pf_42_57 _ _) ?_
  refine wl_ald_n (pc' := 11) rfl e_0 rfl ?_
  refine wp_get (v := .int (m1.F 42 58)) (pc' := 14) rfl (hq_42 _) rfl rfl ?_
  refine wl_st1 (pc' := 15) (k0 := 2) (v := .int (m1.F 42 58)) (r := []) rfl rfl (fun lv3 e4 f5 => ?_)
  have e6 := f5 0 _ e_0 (by decide) rfl
  have e7 := f5 1 _ e_1 (by decide) rfl
  refine wl_ald_n (pc' := 16) rfl e6 rfl ?_
  refine wp_p (pc' := 17) (lv' := lv3) (st' := [.int (nI 0), .ref 42]) rfl rfl ?_
  refine wl_put (pc' := 20) (h2 := hp ((m1.uF 42 57 w2).uF 42 56 (nI 0))) rfl (hq_42 _) rfl rfl rfl (pf_42_56 _ _) ?_
  refine wp_p (pc' := 21) (lv' := lv3) (st' := [.int (nI 0)]) rfl rfl ?_
  refine wl_st1 (pc' := 22) (k0 := 3) (v := .int (nI 0)) (r := []) rfl rfl (fun lv8 e9 f10 => ?_)
  have e11 := f10 0 _ e6 (by decide) rfl
  have e12 := f10 1 _ e7 (by decide) rfl
  have e13 := f10 2 _ e4 (by decide) rfl
  exact k _ ⟨e11, e12, e13, e9, trivial⟩
set_option maxRecDepth 20000 in
theorem sg_177_22 {d : Nat} {m : Mm} {K : Option Value → Mm → Prop} (x1 : Int32) (x2 : Int32) (x3 : Int32) (k : ok (m.A 57).length x1 ∧ (if ((m.A 57).getD (ix x1) 0) ≤ x3 then K none m else WP d 176 [.ref 42, .int x1, .int x3, .int x2, .int (m.F 42 57), .int (nI 0)] m (fun v m3 => ∃ w4, v = some (.int w4) ∧ (if w4 = (nI 0) then WH (d + 1) 177 22 [(0, .ref 42), (1, .int x1), (2, .int x2), (3, .int (x3 + nI 1))] [] (m3.uF 42 56 (m3.F 42 56)) K else WH (d + 1) 177 22 [(0, .ref 42), (1, .int x1), (2, .int x2), (3, .int (x3 + nI 1))] [] (m3.uF 42 56 ((m3.F 42 56) + (nI 1))) K)))) : WH (d + 1) 177 22 [(0, .ref 42), (1, .int x1), (2, .int x2), (3, .int x3)] [] m K := by
  intro lv0 el
  obtain ⟨e_0, e_1, e_2, e_3, _⟩ := el
  refine wl_ild_n (pc' := 23) rfl e_3 rfl ?_
  refine wl_ald_n (pc' := 24) rfl e_0 rfl ?_
  refine wp_get (v := .ref 57) (pc' := 27) rfl (hq_42 _) rfl rfl ?_
  refine wl_ild_n (pc' := 28) rfl e_1 rfl ?_
  obtain ⟨k1, k⟩ := k
  refine wl_iaload (g := m.A 57) (pc' := 29) rfl (hq_57 _) k1 rfl ?_
  refine wp_ic_ge (pc' := 32) rfl rfl (fun c2 => ?_) (fun c2 => ?_)
  · replace k := it_t (c := ((m.A 57).getD (ix x1) 0) ≤ x3) c2 k
    exact wp_r rfl rfl ⟨_, rfl, k⟩
  · replace k := it_f (c := ((m.A 57).getD (ix x1) 0) ≤ x3) c2 k
    refine wl_ald_n (pc' := 33) rfl e_0 rfl ?_
    refine wl_ald_n (pc' := 34) rfl e_0 rfl ?_
    refine wl_ild_n (pc' := 35) rfl e_1 rfl ?_
    refine wl_ild_n (pc' := 36) rfl e_3 rfl ?_
    refine wl_ild_n (pc' := 37) rfl e_2 rfl ?_
    refine wl_ald_n (pc' := 38) rfl e_0 rfl ?_
    refine wp_get (v := .int (m.F 42 57)) (pc' := 41) rfl (hq_42 _) rfl rfl ?_
    refine wp_p (pc' := 42) (lv' := lv0) (st' := [.int (nI 0), .int (m.F 42 57), .int x2, .int x3, .int x1, .ref 42, .ref 42]) rfl rfl ?_
    refine wl_cv (As := [.ref 42, .int x1, .int x3, .int x2, .int (m.F 42 57), .int (nI 0)]) (r := [.ref 42]) (pc' := 45) rfl rfl rfl k ?_
    rintro _ m3 ⟨w4, rfl, k⟩
    show sm_wp (d + 1) 177 45 lv0 [.int w4, .ref 42] (hp m3) (WQ K)
    refine wp_if_eq (pc' := 48) rfl rfl (fun c5 => ?_) (fun c5 => ?_)
    · replace k := it_t (c := w4 = (nI 0)) c5 k
      refine wl_ald_n (pc' := 58) rfl e_0 rfl ?_
      refine wp_get (v := .int (m3.F 42 56)) (pc' := 61) rfl (hq_42 _) rfl rfl ?_
      refine wl_put (pc' := 64) (h2 := hp (m3.uF 42 56 (m3.F 42 56))) rfl (hq_42 _) rfl rfl rfl (pf_42_56 _ _) ?_
      refine wl_iinc (pc' := 67) (v := x3 + nI 1) rfl e_3 rfl rfl rfl (fun lv6 e7 f8 => ?_)
      have e9 := f8 0 _ e_0 (by decide) rfl
      have e10 := f8 1 _ e_1 (by decide) rfl
      have e11 := f8 2 _ e_2 (by decide) rfl
      refine wp_p (pc' := 22) (lv' := lv6) (st' := []) rfl rfl ?_
      exact k _ ⟨e9, e10, e11, e7, trivial⟩
    · replace k := it_f (c := w4 = (nI 0)) c5 k
      refine wl_ald_n (pc' := 49) rfl e_0 rfl ?_
      refine wp_get (v := .int (m3.F 42 56)) (pc' := 52) rfl (hq_42 _) rfl rfl ?_
      refine wp_p (pc' := 53) (lv' := lv0) (st' := [.int (nI 1), .int (m3.F 42 56), .ref 42]) rfl rfl ?_
      refine wp_iadd (v := (m3.F 42 56) + (nI 1)) (pc' := 54) rfl rfl rfl ?_
      refine wp_p (pc' := 61) (lv' := lv0) (st' := [.int ((m3.F 42 56) + (nI 1)), .ref 42]) rfl rfl ?_
      refine wl_put (pc' := 64) (h2 := hp (m3.uF 42 56 ((m3.F 42 56) + (nI 1)))) rfl (hq_42 _) rfl rfl rfl (pf_42_56 _ _) ?_
      refine wl_iinc (pc' := 67) (v := x3 + nI 1) rfl e_3 rfl rfl rfl (fun lv12 e13 f14 => ?_)
      have e15 := f14 0 _ e_0 (by decide) rfl
      have e16 := f14 1 _ e_1 (by decide) rfl
      have e17 := f14 2 _ e_2 (by decide) rfl
      refine wp_p (pc' := 22) (lv' := lv12) (st' := []) rfl rfl ?_
      exact k _ ⟨e15, e16, e17, e13, trivial⟩
/-! 178: QueryTablesModel.fetchTwo -/
set_option maxRecDepth 20000 in
theorem sp_178 {d : Nat} {m : Mm} {K : Option Value → Mm → Prop} (k : ok (m.A 50).length (nI 0) ∧ ok (m.A 50).length (nI 1) ∧ WP d 174 [.ref 42, .int ((m.A 50).getD (ix (nI 0)) 0), .int (nI 0)] m (fun v m12 => ∃ w13, v = some (.int w13) ∧ WP d 174 [.ref 42, .int ((m.A 50).getD (ix (nI 1)) 0), .int ((nI 1) <<< (((m.A 50).getD (ix (nI 0)) 0) &&& 31))] m12 (fun v m20 => ∃ w21, v = some (.int w21) ∧ WP d 174 [.ref 42, .int ((m.A 50).getD (ix (nI 1)) 0), .int (nI 0)] m20 (fun v m29 => ∃ w30, v = some (.int w30) ∧ WP d 174 [.ref 42, .int ((m.A 50).getD (ix (nI 0)) 0), .int ((nI 1) <<< (((m.A 50).getD (ix (nI 1)) 0) &&& 31))] m29 (fun v m39 => ∃ w40, v = some (.int w40) ∧ WP d 175 [.ref 42, .int ((m.A 50).getD (ix (nI 0)) 0), .int w13] m39 (fun v m50 => ∃ w51, v = some (.int w51) ∧ WP d 175 [.ref 42, .int ((m.A 50).getD (ix (nI 0)) 0), .int w13] m50 (fun v m52 => ∃ w53, v = some (.int w53) ∧ WP d 175 [.ref 42, .int ((m.A 50).getD (ix (nI 1)) 0), .int w21] m52 (fun v m54 => ∃ w55, v = some (.int w55) ∧ WP d 175 [.ref 42, .int ((m.A 50).getD (ix (nI 1)) 0), .int w30] m54 (fun v m66 => ∃ w67, v = some (.int w67) ∧ WP d 175 [.ref 42, .int ((m.A 50).getD (ix (nI 1)) 0), .int w30] m66 (fun v m68 => ∃ w69, v = some (.int w69) ∧ WP d 175 [.ref 42, .int ((m.A 50).getD (ix (nI 0)) 0), .int w40] m68 (fun v m70 => ∃ w71, v = some (.int w71) ∧ (if (w51 + (w53 * w55)) ≤ (w67 + (w69 * w71)) then WP d 179 [.ref 42, .int ((m.A 50).getD (ix (nI 0)) 0), .int ((m.A 50).getD (ix (nI 1)) 0)] (m70.uF 42 57 (w13 + ((nI 4) * w21))) (fun v m96 => v = none ∧ K none m96) else WP d 179 [.ref 42, .int ((m.A 50).getD (ix (nI 1)) 0), .int ((m.A 50).getD (ix (nI 0)) 0)] (m70.uF 42 57 ((w30 + ((nI 4) * w40)) + (nI 16))) (fun v m109 => v = none ∧ K none m109))))))))))))) : WP (d + 1) 178 [.ref 42] m K := by
  have e_0 : sm_lk (lv_args 0 [.ref 42]) 0 = some (.ref 42) := rfl
  show sm_wp (d + 1) 178 0 (lv_args 0 [.ref 42]) [] (hp m) (WQ K)
  generalize lv_args 0 [.ref 42] = lv0 at *
  refine wl_ald_n (pc' := 1) rfl e_0 rfl ?_
  refine wp_get (v := .ref 50) (pc' := 4) rfl (hq_42 _) rfl rfl ?_
  refine wp_p (pc' := 5) (lv' := lv0) (st' := [.int (nI 0), .ref 50]) rfl rfl ?_
  obtain ⟨k1, k⟩ := k
  refine wl_iaload (g := m.A 50) (pc' := 6) rfl (hq_50 _) k1 rfl ?_
  refine wl_st1 (pc' := 7) (k0 := 1) (v := .int ((m.A 50).getD (ix (nI 0)) 0)) (r := []) rfl rfl (fun lv2 e3 f4 => ?_)
  have e5 := f4 0 _ e_0 (by decide) rfl
  refine wl_ald_n (pc' := 8) rfl e5 rfl ?_
  refine wp_get (v := .ref 50) (pc' := 11) rfl (hq_42 _) rfl rfl ?_
  refine wp_p (pc' := 12) (lv' := lv2) (st' := [.int (nI 1), .ref 50]) rfl rfl ?_
  obtain ⟨k6, k⟩ := k
  refine wl_iaload (g := m.A 50) (pc' := 13) rfl (hq_50 _) k6 rfl ?_
  refine wl_st1 (pc' := 14) (k0 := 2) (v := .int ((m.A 50).getD (ix (nI 1)) 0)) (r := []) rfl rfl (fun lv7 e8 f9 => ?_)
  have e10 := f9 0 _ e5 (by decide) rfl
  have e11 := f9 1 _ e3 (by decide) rfl
  refine wl_ald_n (pc' := 15) rfl e10 rfl ?_
  refine wl_ild_n (pc' := 16) rfl e11 rfl ?_
  refine wp_p (pc' := 17) (lv' := lv7) (st' := [.int (nI 0), .int ((m.A 50).getD (ix (nI 0)) 0), .ref 42]) rfl rfl ?_
  refine wl_cv (As := [.ref 42, .int ((m.A 50).getD (ix (nI 0)) 0), .int (nI 0)]) (r := []) (pc' := 20) rfl rfl rfl k ?_
  rintro _ m12 ⟨w13, rfl, k⟩
  show sm_wp (d + 1) 178 20 lv7 [.int w13] (hp m12) (WQ K)
  refine wl_st1 (pc' := 21) (k0 := 3) (v := .int w13) (r := []) rfl rfl (fun lv14 e15 f16 => ?_)
  have e17 := f16 0 _ e10 (by decide) rfl
  have e18 := f16 1 _ e11 (by decide) rfl
  have e19 := f16 2 _ e8 (by decide) rfl
  refine wl_ald_n (pc' := 22) rfl e17 rfl ?_
  refine wl_ild_n (pc' := 23) rfl e19 rfl ?_
  refine wp_p (pc' := 24) (lv' := lv14) (st' := [.int (nI 1), .int ((m.A 50).getD (ix (nI 1)) 0), .ref 42]) rfl rfl ?_
  refine wl_ild_n (pc' := 25) rfl e18 rfl ?_
  refine wp_ishl (v := (nI 1) <<< (((m.A 50).getD (ix (nI 0)) 0) &&& 31)) (pc' := 26) rfl rfl rfl ?_
  refine wl_cv (As := [.ref 42, .int ((m.A 50).getD (ix (nI 1)) 0), .int ((nI 1) <<< (((m.A 50).getD (ix (nI 0)) 0) &&& 31))]) (r := []) (pc' := 29) rfl rfl rfl k ?_
  rintro _ m20 ⟨w21, rfl, k⟩
  show sm_wp (d + 1) 178 29 lv14 [.int w21] (hp m20) (WQ K)
  refine wl_st1 (pc' := 31) (k0 := 4) (v := .int w21) (r := []) rfl rfl (fun lv22 e23 f24 => ?_)
  have e25 := f24 0 _ e17 (by decide) rfl
  have e26 := f24 1 _ e18 (by decide) rfl
  have e27 := f24 2 _ e19 (by decide) rfl
  have e28 := f24 3 _ e15 (by decide) rfl
  refine wl_ald_n (pc' := 32) rfl e25 rfl ?_
  refine wl_ild_n (pc' := 33) rfl e27 rfl ?_
  refine wp_p (pc' := 34) (lv' := lv22) (st' := [.int (nI 0), .int ((m.A 50).getD (ix (nI 1)) 0), .ref 42]) rfl rfl ?_
  refine wl_cv (As := [.ref 42, .int ((m.A 50).getD (ix (nI 1)) 0), .int (nI 0)]) (r := []) (pc' := 37) rfl rfl rfl k ?_
  rintro _ m29 ⟨w30, rfl, k⟩
  show sm_wp (d + 1) 178 37 lv22 [.int w30] (hp m29) (WQ K)
  refine wl_st1 (pc' := 39) (k0 := 5) (v := .int w30) (r := []) rfl rfl (fun lv31 e32 f33 => ?_)
  have e34 := f33 0 _ e25 (by decide) rfl
  have e35 := f33 1 _ e26 (by decide) rfl
  have e36 := f33 2 _ e27 (by decide) rfl
  have e37 := f33 3 _ e28 (by decide) rfl
  have e38 := f33 4 _ e23 (by decide) rfl
  refine wl_ald_n (pc' := 40) rfl e34 rfl ?_
  refine wl_ild_n (pc' := 41) rfl e35 rfl ?_
  refine wp_p (pc' := 42) (lv' := lv31) (st' := [.int (nI 1), .int ((m.A 50).getD (ix (nI 0)) 0), .ref 42]) rfl rfl ?_
  refine wl_ild_n (pc' := 43) rfl e36 rfl ?_
  refine wp_ishl (v := (nI 1) <<< (((m.A 50).getD (ix (nI 1)) 0) &&& 31)) (pc' := 44) rfl rfl rfl ?_
  refine wl_cv (As := [.ref 42, .int ((m.A 50).getD (ix (nI 0)) 0), .int ((nI 1) <<< (((m.A 50).getD (ix (nI 1)) 0) &&& 31))]) (r := []) (pc' := 47) rfl rfl rfl k ?_
  rintro _ m39 ⟨w40, rfl, k⟩
  show sm_wp (d + 1) 178 47 lv31 [.int w40] (hp m39) (WQ K)
  refine wl_st1 (pc' := 49) (k0 := 6) (v := .int w40) (r := []) rfl rfl (fun lv41 e42 f43 => ?_)
  have e44 := f43 0 _ e34 (by decide) rfl
  have e45 := f43 1 _ e35 (by decide) rfl
  have e46 := f43 2 _ e36 (by decide) rfl
  have e47 := f43 3 _ e37 (by decide) rfl
  have e48 := f43 4 _ e38 (by decide) rfl
  have e49 := f43 5 _ e32 (by decide) rfl
  refine wl_ald_n (pc' := 50) rfl e44 rfl ?_
  refine wl_ild_n (pc' := 51) rfl e45 rfl ?_
  refine wl_ild_n (pc' := 52) rfl e47 rfl ?_
  refine wl_cv (As := [.ref 42, .int ((m.A 50).getD (ix (nI 0)) 0), .int w13]) (r := []) (pc' := 55) rfl rfl rfl k ?_
  rintro _ m50 ⟨w51, rfl, k⟩
  show sm_wp (d + 1) 178 55 lv41 [.int w51] (hp m50) (WQ K)
  refine wl_ald_n (pc' := 56) rfl e44 rfl ?_
  refine wl_ild_n (pc' := 57) rfl e45 rfl ?_
  refine wl_ild_n (pc' := 58) rfl e47 rfl ?_
  refine wl_cv (As := [.ref 42, .int ((m.A 50).getD (ix (nI 0)) 0), .int w13]) (r := [.int w51]) (pc' := 61) rfl rfl rfl k ?_
  rintro _ m52 ⟨w53, rfl, k⟩
  show sm_wp (d + 1) 178 61 lv41 [.int w53, .int w51] (hp m52) (WQ K)
  refine wl_ald_n (pc' := 62) rfl e44 rfl ?_
  refine wl_ild_n (pc' := 63) rfl e46 rfl ?_
  refine wl_ild (pc' := 65) rfl e48 rfl ?_
  refine wl_cv (As := [.ref 42, .int ((m.A 50).getD (ix (nI 1)) 0), .int w21]) (r := [.int w53, .int w51]) (pc' := 68) rfl rfl rfl k ?_
  rintro _ m54 ⟨w55, rfl, k⟩
  show sm_wp (d + 1) 178 68 lv41 [.int w55, .int w53, .int w51] (hp m54) (WQ K)
  refine wp_imul (v := w53 * w55) (pc' := 69) rfl rfl rfl ?_
  refine wp_iadd (v := w51 + (w53 * w55)) (pc' := 70) rfl rfl rfl ?_
  refine wl_st1 (pc' := 72) (k0 := 7) (v := .int (w51 + (w53 * w55))) (r := []) rfl rfl (fun lv56 e57 f58 => ?_)
  have e59 := f58 0 _ e44 (by decide) rfl
  have e60 := f58 1 _ e45 (by decide) rfl
  have e61 := f58 2 _ e46 (by decide) rfl
  have e62 := f58 3 _ e47 (by decide) rfl
  have e63 := f58 4 _ e48 (by decide) rfl
  have e64 := f58 5 _ e49 (by decide) rfl
  have e65 := f58 6 _ e42 (by decide) rfl
  refine wl_ald_n (pc' := 73) rfl e59 rfl ?_
  refine wl_ild_n (pc' := 74) rfl e61 rfl ?_
  refine wl_ild (pc' := 76) rfl e64 rfl ?_
  refine wl_cv (As := [.ref 42, .int ((m.A 50).getD (ix (nI 1)) 0), .int w30]) (r := []) (pc' := 79) rfl rfl rfl k ?_
  rintro _ m66 ⟨w67, rfl, k⟩
  show sm_wp (d + 1) 178 79 lv56 [.int w67] (hp m66) (WQ K)
  refine wl_ald_n (pc' := 80) rfl e59 rfl ?_
  refine wl_ild_n (pc' := 81) rfl e61 rfl ?_
  refine wl_ild (pc' := 83) rfl e64 rfl ?_
  refine wl_cv (As := [.ref 42, .int ((m.A 50).getD (ix (nI 1)) 0), .int w30]) (r := [.int w67]) (pc' := 86) rfl rfl rfl k ?_
  rintro _ m68 ⟨w69, rfl, k⟩
  show sm_wp (d + 1) 178 86 lv56 [.int w69, .int w67] (hp m68) (WQ K)
  refine wl_ald_n (pc' := 87) rfl e59 rfl ?_
  refine wl_ild_n (pc' := 88) rfl e60 rfl ?_
  refine wl_ild (pc' := 90) rfl e65 rfl ?_
  refine wl_cv (As := [.ref 42, .int ((m.A 50).getD (ix (nI 0)) 0), .int w40]) (r := [.int w69, .int w67]) (pc' := 93) rfl rfl rfl k ?_
  rintro _ m70 ⟨w71, rfl, k⟩
  show sm_wp (d + 1) 178 93 lv56 [.int w71, .int w69, .int w67] (hp m70) (WQ K)
  refine wp_imul (v := w69 * w71) (pc' := 94) rfl rfl rfl ?_
  refine wp_iadd (v := w67 + (w69 * w71)) (pc' := 95) rfl rfl rfl ?_
  refine wl_st1 (pc' := 97) (k0 := 8) (v := .int (w67 + (w69 * w71))) (r := []) rfl rfl (fun lv72 e73 f74 => ?_)
  have e75 := f74 0 _ e59 (by decide) rfl
  have e76 := f74 1 _ e60 (by decide) rfl
  have e77 := f74 2 _ e61 (by decide) rfl
  have e78 := f74 3 _ e62 (by decide) rfl
  have e79 := f74 4 _ e63 (by decide) rfl
  have e80 := f74 5 _ e64 (by decide) rfl
  have e81 := f74 6 _ e65 (by decide) rfl
  have e82 := f74 7 _ e57 (by decide) rfl
  refine wl_ild (pc' := 99) rfl e73 rfl ?_
  refine wl_ild (pc' := 101) rfl e82 rfl ?_
  refine wp_ic_ge (pc' := 104) rfl rfl (fun c83 => ?_) (fun c83 => ?_)
  · replace k := it_t (c := (w51 + (w53 * w55)) ≤ (w67 + (w69 * w71))) c83 k
    refine wp_p (pc' := 109) (lv' := lv72) (st' := [.int (nI 0)]) rfl rfl ?_
    refine wl_st1 (pc' := 111) (k0 := 9) (v := .int (nI 0)) (r := []) rfl rfl (fun lv84 e85 f86 => ?_)
    have e87 := f86 0 _ e75 (by decide) rfl
    have e88 := f86 1 _ e76 (by decide) rfl
    have e89 := f86 2 _ e77 (by decide) rfl
    have e90 := f86 3 _ e78 (by decide) rfl
    have e91 := f86 4 _ e79 (by decide) rfl
    have e92 := f86 5 _ e80 (by decide) rfl
    have e93 := f86 6 _ e81 (by decide) rfl
    have e94 := f86 7 _ e82 (by decide) rfl
    have e95 := f86 8 _ e73 (by decide) rfl
    refine wl_ald_n (pc' := 112) rfl e87 rfl ?_
    refine wl_ild (pc' := 114) rfl e85 rfl ?_
    refine wp_p (pc' := 130) (lv' := lv84) (st' := [.ref 42]) rfl rfl ?_
    refine wl_ild_n (pc' := 131) rfl e90 rfl ?_
    refine wp_p (pc' := 132) (lv' := lv84) (st' := [.int (nI 4), .int w13, .ref 42]) rfl rfl ?_
    refine wl_ild (pc' := 134) rfl e91 rfl ?_
    refine wp_imul (v := (nI 4) * w21) (pc' := 135) rfl rfl rfl ?_
    refine wp_iadd (v := w13 + ((nI 4) * w21)) (pc' := 136) rfl rfl rfl ?_
    refine wl_put (pc' := 139) (h2 := hp (m70.uF 42 57 (w13 + ((nI 4) * w21)))) rfl (hq_42 _) rfl rfl rfl (pf_42_57 _ _) ?_
    refine wl_ild (pc' := 141) rfl e85 rfl ?_
    refine wp_p (pc' := 153) (lv' := lv84) (st' := []) rfl rfl ?_
    refine wl_ald_n (pc' := 154) rfl e87 rfl ?_
    refine wl_ild_n (pc' := 155) rfl e88 rfl ?_
    refine wl_ild_n (pc' := 156) rfl e89 rfl ?_
    refine wl_cv (As := [.ref 42, .int ((m.A 50).getD (ix (nI 0)) 0), .int ((m.A 50).getD (ix (nI 1)) 0)]) (r := []) (pc' := 159) rfl rfl rfl k ?_
    rintro _ m96 ⟨rfl, k⟩
    show sm_wp (d + 1) 178 159 lv84 [] (hp m96) (WQ K)
    exact wp_r rfl rfl ⟨_, rfl, k⟩
  · replace k := it_f (c := (w51 + (w53 * w55)) ≤ (w67 + (w69 * w71))) c83 k
    refine wp_p (pc' := 105) (lv' := lv72) (st' := [.int (nI 1)]) rfl rfl ?_
    refine wp_p (pc' := 109) (lv' := lv72) (st' := [.int (nI 1)]) rfl rfl ?_
    refine wl_st1 (pc' := 111) (k0 := 9) (v := .int (nI 1)) (r := []) rfl rfl (fun lv97 e98 f99 => ?_)
    have e100 := f99 0 _ e75 (by decide) rfl
    have e101 := f99 1 _ e76 (by decide) rfl
    have e102 := f99 2 _ e77 (by decide) rfl
    have e103 := f99 3 _ e78 (by decide) rfl
    have e104 := f99 4 _ e79 (by decide) rfl
    have e105 := f99 5 _ e80 (by decide) rfl
    have e106 := f99 6 _ e81 (by decide) rfl
    have e107 := f99 7 _ e82 (by decide) rfl
    have e108 := f99 8 _ e73 (by decide) rfl
    refine wl_ald_n (pc' := 112) rfl e100 rfl ?_
    refine wl_ild (pc' := 114) rfl e98 rfl ?_
    refine wp_p (pc' := 117) (lv' := lv97) (st' := [.ref 42]) rfl rfl ?_
    refine wl_ild (pc' := 119) rfl e105 rfl ?_
    refine wp_p (pc' := 120) (lv' := lv97) (st' := [.int (nI 4), .int w30, .ref 42]) rfl rfl ?_
    refine wl_ild (pc' := 122) rfl e106 rfl ?_
    refine wp_imul (v := (nI 4) * w40) (pc' := 123) rfl rfl rfl ?_
    refine wp_iadd (v := w30 + ((nI 4) * w40)) (pc' := 124) rfl rfl rfl ?_
    refine wp_p (pc' := 126) (lv' := lv97) (st' := [.int (nI 16), .int (w30 + ((nI 4) * w40)), .ref 42]) rfl rfl ?_
    refine wp_iadd (v := (w30 + ((nI 4) * w40)) + (nI 16)) (pc' := 127) rfl rfl rfl ?_
    refine wp_p (pc' := 136) (lv' := lv97) (st' := [.int ((w30 + ((nI 4) * w40)) + (nI 16)), .ref 42]) rfl rfl ?_
    refine wl_put (pc' := 139) (h2 := hp (m70.uF 42 57 ((w30 + ((nI 4) * w40)) + (nI 16)))) rfl (hq_42 _) rfl rfl rfl (pf_42_57 _ _) ?_
    refine wl_ild (pc' := 141) rfl e98 rfl ?_
    refine wp_p (pc' := 144) (lv' := lv97) (st' := []) rfl rfl ?_
    refine wl_ald_n (pc' := 145) rfl e100 rfl ?_
    refine wl_ild_n (pc' := 146) rfl e102 rfl ?_
    refine wl_ild_n (pc' := 147) rfl e101 rfl ?_
    refine wl_cv (As := [.ref 42, .int ((m.A 50).getD (ix (nI 1)) 0), .int ((m.A 50).getD (ix (nI 0)) 0)]) (r := []) (pc' := 150) rfl rfl rfl k ?_
    rintro _ m109 ⟨rfl, k⟩
    show sm_wp (d + 1) 178 150 lv97 [] (hp m109) (WQ K)
    refine wp_p (pc' := 159) (lv' := lv97) (st' := []) rfl rfl ?_
    exact wp_r rfl rfl ⟨_, rfl, k⟩
/-! 179: QueryTablesModel.fetchBoth -/
set_option maxRecDepth 20000 in
theorem sp_179 {d : Nat} {m : Mm} {K : Option Value → Mm → Prop} (x1 : Int32) (x2 : Int32) (k : WP d 174 [.ref 42, .int x1, .int (nI 0)] m (fun v m1 => ∃ w2, v = some (.int w2) ∧ WP d 174 [.ref 42, .int x2, .int ((nI 1) <<< (x1 &&& 31))] m1 (fun v m16 => ∃ w17, v = some (.int w17) ∧ WH (d + 1) 179 37 [(0, .ref 42), (1, .int x1), (2, .int x2), (3, .int w2), (4, .int (m1.F 42 58)), (5, .int w17), (6, .int (m16.F 42 58)), (7, .int (nI 0))] [] (m16.uF 42 56 (nI 0)) K))) : WP (d + 1) 179 [.ref 42, .int x1, .int x2] m K := by
  have e_0 : sm_lk (lv_args 0 [.ref 42, .int x1, .int x2]) 0 = some (.ref 42) := rfl
  have e_1 : sm_lk (lv_args 0 [.ref 42, .int x1, .int x2]) 1 = some (.int x1) := rfl
  have e_2 : sm_lk (lv_args 0 [.ref 42, .int x1, .int x2]) 2 = some (.int x2) := rfl
  show sm_wp (d + 1) 179 0 (lv_args 0 [.ref 42, .int x1, .int x2]) [] (hp m) (WQ K)
  generalize lv_args 0 [.ref 42, .int x1, .int x2] = lv0 at *
  refine wl_ald_n (pc' := 1) rfl e_0 rfl ?_
  refine wl_ild_n (pc' := 2) rfl e_1 rfl ?_
  refine wp_p (pc' := 3) (lv' := lv0) (st' := [.int (nI 0), .int x1, .ref 42]) rfl rfl ?_
  refine wl_cv (As := [.ref 42, .int x1, .int (nI 0)]) (r := []) (pc' := 6) rfl rfl rfl k ?_
  rintro _ m1 ⟨w2, rfl, k⟩
  show sm_wp (d + 1) 179 6 lv0 [.int w2] (hp m1) (WQ K)
  refine wl_st1 (pc' := 7) (k0 := 3) (v := .int w2) (r := []) rfl rfl (fun lv3 e4 f5 => ?_)
  have e6 := f5 0 _ e_0 (by decide) rfl
  have e7 := f5 1 _ e_1 (by decide) rfl
  have e8 := f5 2 _ e_2 (by decide) rfl
  refine wl_ald_n (pc' := 8) rfl e6 rfl ?_
  refine wp_get (v := .int (m1.F 42 58)) (pc' := 11) rfl (hq_42 _) rfl rfl ?_
  refine wl_st1 (pc' := 13) (k0 := 4) (v := .int (m1.F 42 58)) (r := []) rfl rfl (fun lv9 e10 f11 => ?_)
  have e12 := f11 0 _ e6 (by decide) rfl
  have e13 := f11 1 _ e7 (by decide) rfl
  have e14 := f11 2 _ e8 (by decide) rfl
  have e15 := f11 3 _ e4 (by decide) rfl
  refine wl_ald_n (pc' := 14) rfl e12 rfl ?_
  refine wl_ild_n (pc' := 15) rfl e14 rfl ?_
  refine wp_p (pc' := 16) (lv' := lv9) (st' := [.int (nI 1), .int x2, .ref 42]) rfl rfl ?_
  refine wl_ild_n (pc' := 17) rfl e13 rfl ?_
  refine wp_ishl (v := (nI 1) <<< (x1 &&& 31)) (pc' := 18) rfl rfl rfl ?_
  refine wl_cv (As := [.ref 42, .int x2, .int ((nI 1) <<< (x1 &&& 31))]) (r := []) (pc' := 21) rfl rfl rfl k ?_
  rintro _ m16 ⟨w17, rfl, k⟩
  show sm_wp (d + 1) 179 21 lv9 [.int w17] (hp m16) (WQ K)
  refine wl_st1 (pc' := 23) (k0 := 5) (v := .int w17) (r := []) rfl rfl (fun lv18 e19 f20 => ?_)
  have e21 := f20 0 _ e12 (by decide) rfl
  have e22 := f20 1 _ e13 (by decide) rfl
  have e23 := f20 2 _ e14 (by decide) rfl
  have e24 := f20 3 _ e15 (by decide) rfl
  have e25 := f20 4 _ e10 (by decide) rfl
  refine wl_ald_n (pc' := 24) rfl e21 rfl ?_
  refine wp_get (v := .int (m16.F 42 58)) (pc' := 27) rfl (hq_42 _) rfl rfl ?_
  refine wl_st1 (pc' := 29) (k0 := 6) (v := .int (m16.F 42 58)) (r := []) rfl rfl (fun lv26 e27 f28 => ?_)
  have e29 := f28 0 _ e21 (by decide) rfl
  have e30 := f28 1 _ e22 (by decide) rfl
  have e31 := f28 2 _ e23 (by decide) rfl
  have e32 := f28 3 _ e24 (by decide) rfl
  have e33 := f28 4 _ e25 (by decide) rfl
  have e34 := f28 5 _ e19 (by decide) rfl
  refine wl_ald_n (pc' := 30) rfl e29 rfl ?_
  refine wp_p (pc' := 31) (lv' := lv26) (st' := [.int (nI 0), .ref 42]) rfl rfl ?_
  refine wl_put (pc' := 34) (h2 := hp (m16.uF 42 56 (nI 0))) rfl (hq_42 _) rfl rfl rfl (pf_42_56 _ _) ?_
  refine wp_p (pc' := 35) (lv' := lv26) (st' := [.int (nI 0)]) rfl rfl ?_
  refine wl_st1 (pc' := 37) (k0 := 7) (v := .int (nI 0)) (r := []) rfl rfl (fun lv35 e36 f37 => ?_)
  have e38 := f37 0 _ e29 (by decide) rfl
  have e39 := f37 1 _ e30 (by decide) rfl
  have e40 := f37 2 _ e31 (by decide) rfl
  have e41 := f37 3 _ e32 (by decide) rfl
  have e42 := f37 4 _ e33 (by decide) rfl
  have e43 := f37 5 _ e34 (by decide) rfl
  have e44 := f37 6 _ e27 (by decide) rfl
  exact k _ ⟨e38, e39, e40, e41, e42, e43, e44, e36, trivial⟩
set_option maxRecDepth 20000 in
theorem sg_179_37 {d : Nat} {m : Mm} {K : Option Value → Mm → Prop} (x1 : Int32) (x2 : Int32) (x3 : Int32) (x4 : Int32) (x5 : Int32) (x6 : Int32) (x7 : Int32) (k : ok (m.A 57).length x1 ∧ (if ((m.A 57).getD (ix x1) 0) ≤ x7 then K none m else WP d 176 [.ref 42, .int x1, .int x7, .int x4, .int x3, .int (nI 0)] m (fun v m3 => ∃ w4, v = some (.int w4) ∧ (if w4 = (nI 0) then WH (d + 1) 179 37 [(0, .ref 42), (1, .int x1), (2, .int x2), (3, .int x3), (4, .int x4), (5, .int x5), (6, .int x6), (7, .int (x7 + nI 1))] [] m3 K else ok (m3.A 60).length x1 ∧ WH (d + 1) 179 86 [(0, .ref 42), (1, .int x1), (2, .int x2), (3, .int x3), (4, .int x4), (5, .int x5), (6, .int x6), (7, .int x7), (8, .int (nI 1)), (9, .int (nI 0))] [] ((m3.uF 42 56 ((m3.F 42 56) + (nI 1))).uA 60 ((m3.A 60).set (ix x1) x7)) K)))) : WH (d + 1) 179 37 [(0, .ref 42), (1, .int x1), (2, .int x2), (3, .int x3), (4, .int x4), (5, .int x5), (6, .int x6), (7, .int x7)] [] m K := by
  intro lv0 el
  obtain ⟨e_0, e_1, e_2, e_3, e_4, e_5, e_6, e_7, _⟩ := el
  refine wl_ild (pc' := 39) rfl e_7 rfl ?_
  refine wl_ald_n (pc' := 40) rfl e_0 rfl ?_
  refine wp_get (v := .ref 57) (pc' := 43) rfl (hq_42 _) rfl rfl ?_
  refine wl_ild_n (pc' := 44) rfl e_1 rfl ?_
  obtain ⟨k1, k⟩ := k
  refine wl_iaload (g := m.A 57) (pc' := 45) rfl (hq_57 _) k1 rfl ?_
  refine wp_ic_ge (pc' := 48) rfl rfl (fun c2 => ?_) (fun c2 => ?_)
  · replace k := it_t (c := ((m.A 57).getD (ix x1) 0) ≤ x7) c2 k
    exact wp_r rfl rfl ⟨_, rfl, k⟩
  · replace k := it_f (c := ((m.A 57).getD (ix x1) 0) ≤ x7) c2 k
    refine wl_ald_n (pc' := 49) rfl e_0 rfl ?_
    refine wl_ild_n (pc' := 50) rfl e_1 rfl ?_
    refine wl_ild (pc' := 52) rfl e_7 rfl ?_
    refine wl_ild (pc' := 54) rfl e_4 rfl ?_
    refine wl_ild_n (pc' := 55) rfl e_3 rfl ?_
    refine wp_p (pc' := 56) (lv' := lv0) (st' := [.int (nI 0), .int x3, .int x4, .int x7, .int x1, .ref 42]) rfl rfl ?_
    refine wl_cv (As := [.ref 42, .int x1, .int x7, .int x4, .int x3, .int (nI 0)]) (r := []) (pc' := 59) rfl rfl rfl k ?_
    rintro _ m3 ⟨w4, rfl, k⟩
    show sm_wp (d + 1) 179 59 lv0 [.int w4] (hp m3) (WQ K)
    refine wp_if_eq (pc' := 62) rfl rfl (fun c5 => ?_) (fun c5 => ?_)
    · replace k := it_t (c := w4 = (nI 0)) c5 k
      refine wl_iinc (pc' := 224) (v := x7 + nI 1) rfl e_7 rfl rfl rfl (fun lv6 e7 f8 => ?_)
      have e9 := f8 0 _ e_0 (by decide) rfl
      have e10 := f8 1 _ e_1 (by decide) rfl
      have e11 := f8 2 _ e_2 (by decide) rfl
      have e12 := f8 3 _ e_3 (by decide) rfl
      have e13 := f8 4 _ e_4 (by decide) rfl
      have e14 := f8 5 _ e_5 (by decide) rfl
      have e15 := f8 6 _ e_6 (by decide) rfl
      refine wp_p (pc' := 37) (lv' := lv6) (st' := []) rfl rfl ?_
      exact k _ ⟨e9, e10, e11, e12, e13, e14, e15, e7, trivial⟩
    · replace k := it_f (c := w4 = (nI 0)) c5 k
      refine wl_ald_n (pc' := 63) rfl e_0 rfl ?_
      refine wp_p (pc' := 64) (lv' := lv0) (st' := [.ref 42, .ref 42]) rfl rfl ?_
      refine wp_get (v := .int (m3.F 42 56)) (pc' := 67) rfl (hq_42 _) rfl rfl ?_
      refine wp_p (pc' := 68) (lv' := lv0) (st' := [.int (nI 1), .int (m3.F 42 56), .ref 42]) rfl rfl ?_
      refine wp_iadd (v := (m3.F 42 56) + (nI 1)) (pc' := 69) rfl rfl rfl ?_
      refine wl_put (pc' := 72) (h2 := hp (m3.uF 42 56 ((m3.F 42 56) + (nI 1)))) rfl (hq_42 _) rfl rfl rfl (pf_42_56 _ _) ?_
      refine wl_ald_n (pc' := 73) rfl e_0 rfl ?_
      refine wp_get (v := .ref 60) (pc' := 76) rfl (hq_42 _) rfl rfl ?_
      refine wl_ild_n (pc' := 77) rfl e_1 rfl ?_
      refine wl_ild (pc' := 79) rfl e_7 rfl ?_
      obtain ⟨k16, k⟩ := k
      refine wl_iastore (g := m3.A 60) (pc' := 80) (h2 := hp ((m3.uF 42 56 ((m3.F 42 56) + (nI 1))).uA 60 ((m3.A 60).set (ix x1) x7))) rfl (hq_60 _) k16 rfl (pa_60 _ _) ?_
      refine wp_p (pc' := 81) (lv' := lv0) (st' := [.int (nI 1)]) rfl rfl ?_
      refine wl_st1 (pc' := 83) (k0 := 8) (v := .int (nI 1)) (r := []) rfl rfl (fun lv17 e18 f19 => ?_)
      have e20 := f19 0 _ e_0 (by decide) rfl
      have e21 := f19 1 _ e_1 (by decide) rfl
      have e22 := f19 2 _ e_2 (by decide) rfl
      have e23 := f19 3 _ e_3 (by decide) rfl
      have e24 := f19 4 _ e_4 (by decide) rfl
      have e25 := f19 5 _ e_5 (by decide) rfl
      have e26 := f19 6 _ e_6 (by decide) rfl
      have e27 := f19 7 _ e_7 (by decide) rfl
      refine wp_p (pc' := 84) (lv' := lv17) (st' := [.int (nI 0)]) rfl rfl ?_
      refine wl_st1 (pc' := 86) (k0 := 9) (v := .int (nI 0)) (r := []) rfl rfl (fun lv28 e29 f30 => ?_)
      have e31 := f30 0 _ e20 (by decide) rfl
      have e32 := f30 1 _ e21 (by decide) rfl
      have e33 := f30 2 _ e22 (by decide) rfl
      have e34 := f30 3 _ e23 (by decide) rfl
      have e35 := f30 4 _ e24 (by decide) rfl
      have e36 := f30 5 _ e25 (by decide) rfl
      have e37 := f30 6 _ e26 (by decide) rfl
      have e38 := f30 7 _ e27 (by decide) rfl
      have e39 := f30 8 _ e18 (by decide) rfl
      exact k _ ⟨e31, e32, e33, e34, e35, e36, e37, e38, e39, e29, trivial⟩
set_option maxRecDepth 20000 in
theorem sg_179_86 {d : Nat} {m : Mm} {K : Option Value → Mm → Prop} (x1 : Int32) (x2 : Int32) (x3 : Int32) (x4 : Int32) (x5 : Int32) (x6 : Int32) (x7 : Int32) (x8 : Int32) (x9 : Int32) (k : (if (m.F 42 33) ≤ x9 then WH (d + 1) 179 165 [(0, .ref 42), (1, .int x1), (2, .int x2), (3, .int x3), (4, .int x4), (5, .int x5), (6, .int x6), (7, .int x7), (8, .int x8), (9, .int (nI 0))] [] m K else (if x8 = (nI 0) then WH (d + 1) 179 86 [(0, .ref 42), (1, .int x1), (2, .int x2), (3, .int x3), (4, .int x4), (5, .int x5), (6, .int x6), (7, .int x7), (8, .int (nI 0)), (9, .int (x9 + nI 1))] [] m K else ok (m.A 53).length x9 ∧ ok (m.A 54).length x9 ∧ WP d 170 [.ref 42, .int ((m.A 53).getD (ix x9) 0), .int ((m.A 54).getD (ix x9) 0)] m (fun v m41 => ∃ w42, v = some (.int w42) ∧ (if ((w42 >>> (x2 &&& 31)) &&& (nI 1)) = (nI 1) then WH (d + 1) 179 86 [(0, .ref 42), (1, .int x1), (2, .int x2), (3, .int x3), (4, .int x4), (5, .int x5), (6, .int x6), (7, .int x7), (8, .int (nI 1)), (9, .int (x9 + nI 1))] [] m41 K else ok (m41.A 53).length x9 ∧ ok (m41.A 54).length x9 ∧ WP d 167 [.ref 42, .int ((m41.A 53).getD (ix x9) 0), .int ((m41.A 54).getD (ix x9) 0)] m41 (fun v m70 => ∃ w71, v = some (.long w71) ∧ (if (lg_cmp w71 1) = (nI 0) then WH (d + 1) 179 86 [(0, .ref 42), (1, .int x1), (2, .int x2), (3, .int x3), (4, .int x4), (5, .int x5), (6, .int x6), (7, .int x7), (8, .int (nI 1)), (9, .int (x9 + nI 1))] [] m70 K else WH (d + 1) 179 86 [(0, .ref 42), (1, .int x1), (2, .int x2), (3, .int x3), (4, .int x4), (5, .int x5), (6, .int x6), (7, .int x7), (8, .int (nI 0)), (9, .int (x9 + nI 1))] [] m70 K))))))) : WH (d + 1) 179 86 [(0, .ref 42), (1, .int x1), (2, .int x2), (3, .int x3), (4, .int x4), (5, .int x5), (6, .int x6), (7, .int x7), (8, .int x8), (9, .int x9)] [] m K := by
  intro lv0 el
  obtain ⟨e_0, e_1, e_2, e_3, e_4, e_5, e_6, e_7, e_8, e_9, _⟩ := el
  refine wl_ild (pc' := 88) rfl e_9 rfl ?_
  refine wl_ald_n (pc' := 89) rfl e_0 rfl ?_
  refine wp_get (v := .int (m.F 42 33)) (pc' := 92) rfl (hq_42 _) rfl rfl ?_
  refine wp_ic_ge (pc' := 95) rfl rfl (fun c1 => ?_) (fun c1 => ?_)
  · replace k := it_t (c := (m.F 42 33) ≤ x9) c1 k
    refine wp_p (pc' := 163) (lv' := lv0) (st' := [.int (nI 0)]) rfl rfl ?_
    refine wl_st1 (pc' := 165) (k0 := 9) (v := .int (nI 0)) (r := []) rfl rfl (fun lv2 e3 f4 => ?_)
    have e5 := f4 0 _ e_0 (by decide) rfl
    have e6 := f4 1 _ e_1 (by decide) rfl
    have e7 := f4 2 _ e_2 (by decide) rfl
    have e8 := f4 3 _ e_3 (by decide) rfl
    have e9 := f4 4 _ e_4 (by decide) rfl
    have e10 := f4 5 _ e_5 (by decide) rfl
    have e11 := f4 6 _ e_6 (by decide) rfl
    have e12 := f4 7 _ e_7 (by decide) rfl
    have e13 := f4 8 _ e_8 (by decide) rfl
    exact k _ ⟨e5, e6, e7, e8, e9, e10, e11, e12, e13, e3, trivial⟩
  · replace k := it_f (c := (m.F 42 33) ≤ x9) c1 k
    refine wl_ild (pc' := 97) rfl e_8 rfl ?_
    refine wp_if_eq (pc' := 100) rfl rfl (fun c14 => ?_) (fun c14 => ?_)
    · replace k := it_t (c := x8 = (nI 0)) c14 k
      refine wp_p (pc' := 154) (lv' := lv0) (st' := [.int (nI 0)]) rfl rfl ?_
      refine wl_st1 (pc' := 156) (k0 := 8) (v := .int (nI 0)) (r := []) rfl rfl (fun lv15 e16 f17 => ?_)
      have e18 := f17 0 _ e_0 (by decide) rfl
      have e19 := f17 1 _ e_1 (by decide) rfl
      have e20 := f17 2 _ e_2 (by decide) rfl
      have e21 := f17 3 _ e_3 (by decide) rfl
      have e22 := f17 4 _ e_4 (by decide) rfl
      have e23 := f17 5 _ e_5 (by decide) rfl
      have e24 := f17 6 _ e_6 (by decide) rfl
      have e25 := f17 7 _ e_7 (by decide) rfl
      have e26 := f17 9 _ e_9 (by decide) rfl
      refine wl_iinc (pc' := 159) (v := x9 + nI 1) rfl e26 rfl rfl rfl (fun lv27 e28 f29 => ?_)
      have e30 := f29 0 _ e18 (by decide) rfl
      have e31 := f29 1 _ e19 (by decide) rfl
      have e32 := f29 2 _ e20 (by decide) rfl
      have e33 := f29 3 _ e21 (by decide) rfl
      have e34 := f29 4 _ e22 (by decide) rfl
      have e35 := f29 5 _ e23 (by decide) rfl
      have e36 := f29 6 _ e24 (by decide) rfl
      have e37 := f29 7 _ e25 (by decide) rfl
      have e38 := f29 8 _ e16 (by decide) rfl
      refine wp_p (pc' := 86) (lv' := lv27) (st' := []) rfl rfl ?_
      exact k _ ⟨e30, e31, e32, e33, e34, e35, e36, e37, e38, e28, trivial⟩
    · replace k := it_f (c := x8 = (nI 0)) c14 k
      refine wl_ald_n (pc' := 101) rfl e_0 rfl ?_
      refine wl_ald_n (pc' := 102) rfl e_0 rfl ?_
      refine wp_get (v := .ref 53) (pc' := 105) rfl (hq_42 _) rfl rfl ?_
      refine wl_ild (pc' := 107) rfl e_9 rfl ?_
      obtain ⟨k39, k⟩ := k
      refine wl_iaload (g := m.A 53) (pc' := 108) rfl (hq_53 _) k39 rfl ?_
      refine wl_ald_n (pc' := 109) rfl e_0 rfl ?_
      refine wp_get (v := .ref 54) (pc' := 112) rfl (hq_42 _) rfl rfl ?_
      refine wl_ild (pc' := 114) rfl e_9 rfl ?_
      obtain ⟨k40, k⟩ := k
      refine wl_iaload (g := m.A 54) (pc' := 115) rfl (hq_54 _) k40 rfl ?_
      refine wl_cv (As := [.ref 42, .int ((m.A 53).getD (ix x9) 0), .int ((m.A 54).getD (ix x9) 0)]) (r := []) (pc' := 118) rfl rfl rfl k ?_
      rintro _ m41 ⟨w42, rfl, k⟩
      show sm_wp (d + 1) 179 118 lv0 [.int w42] (hp m41) (WQ K)
      refine wl_ild_n (pc' := 119) rfl e_2 rfl ?_
      refine wp_ishr (v := w42 >>> (x2 &&& 31)) (pc' := 120) rfl rfl rfl ?_
      refine wp_p (pc' := 121) (lv' := lv0) (st' := [.int (nI 1), .int (w42 >>> (x2 &&& 31))]) rfl rfl ?_
      refine wp_iand (v := (w42 >>> (x2 &&& 31)) &&& (nI 1)) (pc' := 122) rfl rfl rfl ?_
      refine wp_p (pc' := 123) (lv' := lv0) (st' := [.int (nI 1), .int ((w42 >>> (x2 &&& 31)) &&& (nI 1))]) rfl rfl ?_
      refine wp_ic_eq (pc' := 126) rfl rfl (fun c43 => ?_) (fun c43 => ?_)
      · replace k := it_t (c := ((w42 >>> (x2 &&& 31)) &&& (nI 1)) = (nI 1)) c43 k
        refine wp_p (pc' := 150) (lv' := lv0) (st' := [.int (nI 1)]) rfl rfl ?_
        refine wp_p (pc' := 154) (lv' := lv0) (st' := [.int (nI 1)]) rfl rfl ?_
        refine wl_st1 (pc' := 156) (k0 := 8) (v := .int (nI 1)) (r := []) rfl rfl (fun lv44 e45 f46 => ?_)
        have e47 := f46 0 _ e_0 (by decide) rfl
        have e48 := f46 1 _ e_1 (by decide) rfl
        have e49 := f46 2 _ e_2 (by decide) rfl
        have e50 := f46 3 _ e_3 (by decide) rfl
        have e51 := f46 4 _ e_4 (by decide) rfl
        have e52 := f46 5 _ e_5 (by decide) rfl
        have e53 := f46 6 _ e_6 (by decide) rfl
        have e54 := f46 7 _ e_7 (by decide) rfl
        have e55 := f46 9 _ e_9 (by decide) rfl
        refine wl_iinc (pc' := 159) (v := x9 + nI 1) rfl e55 rfl rfl rfl (fun lv56 e57 f58 => ?_)
        have e59 := f58 0 _ e47 (by decide) rfl
        have e60 := f58 1 _ e48 (by decide) rfl
        have e61 := f58 2 _ e49 (by decide) rfl
        have e62 := f58 3 _ e50 (by decide) rfl
        have e63 := f58 4 _ e51 (by decide) rfl
        have e64 := f58 5 _ e52 (by decide) rfl
        have e65 := f58 6 _ e53 (by decide) rfl
        have e66 := f58 7 _ e54 (by decide) rfl
        have e67 := f58 8 _ e45 (by decide) rfl
        refine wp_p (pc' := 86) (lv' := lv56) (st' := []) rfl rfl ?_
        exact k _ ⟨e59, e60, e61, e62, e63, e64, e65, e66, e67, e57, trivial⟩
      · replace k := it_f (c := ((w42 >>> (x2 &&& 31)) &&& (nI 1)) = (nI 1)) c43 k
        refine wl_ald_n (pc' := 127) rfl e_0 rfl ?_
        refine wl_ald_n (pc' := 128) rfl e_0 rfl ?_
        refine wp_get (v := .ref 53) (pc' := 131) rfl (hq_42 _) rfl rfl ?_
        refine wl_ild (pc' := 133) rfl e_9 rfl ?_
        obtain ⟨k68, k⟩ := k
        refine wl_iaload (g := m41.A 53) (pc' := 134) rfl (hq_53 _) k68 rfl ?_
        refine wl_ald_n (pc' := 135) rfl e_0 rfl ?_
        refine wp_get (v := .ref 54) (pc' := 138) rfl (hq_42 _) rfl rfl ?_
        refine wl_ild (pc' := 140) rfl e_9 rfl ?_
        obtain ⟨k69, k⟩ := k
        refine wl_iaload (g := m41.A 54) (pc' := 141) rfl (hq_54 _) k69 rfl ?_
        refine wl_cv (As := [.ref 42, .int ((m41.A 53).getD (ix x9) 0), .int ((m41.A 54).getD (ix x9) 0)]) (r := []) (pc' := 144) rfl rfl rfl k ?_
        rintro _ m70 ⟨w71, rfl, k⟩
        show sm_wp (d + 1) 179 144 lv0 [.long w71] (hp m70) (WQ K)
        refine wp_p (pc' := 145) (lv' := lv0) (st' := [.long 1, .long w71]) rfl rfl ?_
        refine wp_lcmp (v := lg_cmp w71 1) (pc' := 146) rfl rfl rfl ?_
        refine wp_if_ne (pc' := 149) rfl rfl (fun c72 => ?_) (fun c72 => ?_)
        · replace k := it_f (c := (lg_cmp w71 1) = (nI 0)) c72 k
          refine wp_p (pc' := 154) (lv' := lv0) (st' := [.int (nI 0)]) rfl rfl ?_
          refine wl_st1 (pc' := 156) (k0 := 8) (v := .int (nI 0)) (r := []) rfl rfl (fun lv73 e74 f75 => ?_)
          have e76 := f75 0 _ e_0 (by decide) rfl
          have e77 := f75 1 _ e_1 (by decide) rfl
          have e78 := f75 2 _ e_2 (by decide) rfl
          have e79 := f75 3 _ e_3 (by decide) rfl
          have e80 := f75 4 _ e_4 (by decide) rfl
          have e81 := f75 5 _ e_5 (by decide) rfl
          have e82 := f75 6 _ e_6 (by decide) rfl
          have e83 := f75 7 _ e_7 (by decide) rfl
          have e84 := f75 9 _ e_9 (by decide) rfl
          refine wl_iinc (pc' := 159) (v := x9 + nI 1) rfl e84 rfl rfl rfl (fun lv85 e86 f87 => ?_)
          have e88 := f87 0 _ e76 (by decide) rfl
          have e89 := f87 1 _ e77 (by decide) rfl
          have e90 := f87 2 _ e78 (by decide) rfl
          have e91 := f87 3 _ e79 (by decide) rfl
          have e92 := f87 4 _ e80 (by decide) rfl
          have e93 := f87 5 _ e81 (by decide) rfl
          have e94 := f87 6 _ e82 (by decide) rfl
          have e95 := f87 7 _ e83 (by decide) rfl
          have e96 := f87 8 _ e74 (by decide) rfl
          refine wp_p (pc' := 86) (lv' := lv85) (st' := []) rfl rfl ?_
          exact k _ ⟨e88, e89, e90, e91, e92, e93, e94, e95, e96, e86, trivial⟩
        · replace k := it_t (c := (lg_cmp w71 1) = (nI 0)) c72 k
          refine wp_p (pc' := 150) (lv' := lv0) (st' := [.int (nI 1)]) rfl rfl ?_
          refine wp_p (pc' := 154) (lv' := lv0) (st' := [.int (nI 1)]) rfl rfl ?_
          refine wl_st1 (pc' := 156) (k0 := 8) (v := .int (nI 1)) (r := []) rfl rfl (fun lv97 e98 f99 => ?_)
          have e100 := f99 0 _ e_0 (by decide) rfl
          have e101 := f99 1 _ e_1 (by decide) rfl
          have e102 := f99 2 _ e_2 (by decide) rfl
          have e103 := f99 3 _ e_3 (by decide) rfl
          have e104 := f99 4 _ e_4 (by decide) rfl
          have e105 := f99 5 _ e_5 (by decide) rfl
          have e106 := f99 6 _ e_6 (by decide) rfl
          have e107 := f99 7 _ e_7 (by decide) rfl
          have e108 := f99 9 _ e_9 (by decide) rfl
          refine wl_iinc (pc' := 159) (v := x9 + nI 1) rfl e108 rfl rfl rfl (fun lv109 e110 f111 => ?_)
          have e112 := f111 0 _ e100 (by decide) rfl
          have e113 := f111 1 _ e101 (by decide) rfl
          have e114 := f111 2 _ e102 (by decide) rfl
          have e115 := f111 3 _ e103 (by decide) rfl
          have e116 := f111 4 _ e104 (by decide) rfl
          have e117 := f111 5 _ e105 (by decide) rfl
          have e118 := f111 6 _ e106 (by decide) rfl
          have e119 := f111 7 _ e107 (by decide) rfl
          have e120 := f111 8 _ e98 (by decide) rfl
          refine wp_p (pc' := 86) (lv' := lv109) (st' := []) rfl rfl ?_
          exact k _ ⟨e112, e113, e114, e115, e116, e117, e118, e119, e120, e110, trivial⟩
set_option maxRecDepth 20000 in
theorem sg_179_165 {d : Nat} {m : Mm} {K : Option Value → Mm → Prop} (x1 : Int32) (x2 : Int32) (x3 : Int32) (x4 : Int32) (x5 : Int32) (x6 : Int32) (x7 : Int32) (x8 : Int32) (x9 : Int32) (k : ok (m.A 57).length x2 ∧ (if ((m.A 57).getD (ix x2) 0) ≤ x9 then WH (d + 1) 179 37 [(0, .ref 42), (1, .int x1), (2, .int x2), (3, .int x3), (4, .int x4), (5, .int x5), (6, .int x6), (7, .int (x7 + nI 1))] [] m K else (if x8 = (nI 0) then WH (d + 1) 179 37 [(0, .ref 42), (1, .int x1), (2, .int x2), (3, .int x3), (4, .int x4), (5, .int x5), (6, .int x6), (7, .int (x7 + nI 1))] [] m K else WP d 176 [.ref 42, .int x2, .int x9, .int x6, .int x5, .int ((nI 1) <<< (x1 &&& 31))] m (fun v m28 => ∃ w29, v = some (.int w29) ∧ (if w29 = (nI 0) then WH (d + 1) 179 165 [(0, .ref 42), (1, .int x1), (2, .int x2), (3, .int x3), (4, .int x4), (5, .int x5), (6, .int x6), (7, .int x7), (8, .int x8), (9, .int (x9 + nI 1))] [] (m28.uF 42 56 (m28.F 42 56)) K else WH (d + 1) 179 165 [(0, .ref 42), (1, .int x1), (2, .int x2), (3, .int x3), (4, .int x4), (5, .int x5), (6, .int x6), (7, .int x7), (8, .int x8), (9, .int (x9 + nI 1))] [] (m28.uF 42 56 ((m28.F 42 56) + (nI 1))) K))))) : WH (d + 1) 179 165 [(0, .ref 42), (1, .int x1), (2, .int x2), (3, .int x3), (4, .int x4), (5, .int x5), (6, .int x6), (7, .int x7), (8, .int x8), (9, .int x9)] [] m K := by
  intro lv0 el
  obtain ⟨e_0, e_1, e_2, e_3, e_4, e_5, e_6, e_7, e_8, e_9, _⟩ := el
  refine wl_ild (pc' := 167) rfl e_9 rfl ?_
  refine wl_ald_n (pc' := 168) rfl e_0 rfl ?_
  refine wp_get (v := .ref 57) (pc' := 171) rfl (hq_42 _) rfl rfl ?_
  refine wl_ild_n (pc' := 172) rfl e_2 rfl ?_
  obtain ⟨k1, k⟩ := k
  refine wl_iaload (g := m.A 57) (pc' := 173) rfl (hq_57 _) k1 rfl ?_
  refine wp_ic_ge (pc' := 176) rfl rfl (fun c2 => ?_) (fun c2 => ?_)
  · replace k := it_t (c := ((m.A 57).getD (ix x2) 0) ≤ x9) c2 k
    refine wl_iinc (pc' := 224) (v := x7 + nI 1) rfl e_7 rfl rfl rfl (fun lv3 e4 f5 => ?_)
    have e6 := f5 0 _ e_0 (by decide) rfl
    have e7 := f5 1 _ e_1 (by decide) rfl
    have e8 := f5 2 _ e_2 (by decide) rfl
    have e9 := f5 3 _ e_3 (by decide) rfl
    have e10 := f5 4 _ e_4 (by decide) rfl
    have e11 := f5 5 _ e_5 (by decide) rfl
    have e12 := f5 6 _ e_6 (by decide) rfl
    have e13 := f5 8 _ e_8 (by decide) rfl
    have e14 := f5 9 _ e_9 (by decide) rfl
    refine wp_p (pc' := 37) (lv' := lv3) (st' := []) rfl rfl ?_
    exact k _ ⟨e6, e7, e8, e9, e10, e11, e12, e4, trivial⟩
  · replace k := it_f (c := ((m.A 57).getD (ix x2) 0) ≤ x9) c2 k
    refine wl_ild (pc' := 178) rfl e_8 rfl ?_
    refine wp_if_eq (pc' := 181) rfl rfl (fun c15 => ?_) (fun c15 => ?_)
    · replace k := it_t (c := x8 = (nI 0)) c15 k
      refine wl_iinc (pc' := 224) (v := x7 + nI 1) rfl e_7 rfl rfl rfl (fun lv16 e17 f18 => ?_)
      have e19 := f18 0 _ e_0 (by decide) rfl
      have e20 := f18 1 _ e_1 (by decide) rfl
      have e21 := f18 2 _ e_2 (by decide) rfl
      have e22 := f18 3 _ e_3 (by decide) rfl
      have e23 := f18 4 _ e_4 (by decide) rfl
      have e24 := f18 5 _ e_5 (by decide) rfl
      have e25 := f18 6 _ e_6 (by decide) rfl
      have e26 := f18 8 _ e_8 (by decide) rfl
      have e27 := f18 9 _ e_9 (by decide) rfl
      refine wp_p (pc' := 37) (lv' := lv16) (st' := []) rfl rfl ?_
      exact k _ ⟨e19, e20, e21, e22, e23, e24, e25, e17, trivial⟩
    · replace k := it_f (c := x8 = (nI 0)) c15 k
      refine wl_ald_n (pc' := 182) rfl e_0 rfl ?_
      refine wl_ald_n (pc' := 183) rfl e_0 rfl ?_
      refine wl_ild_n (pc' := 184) rfl e_2 rfl ?_
      refine wl_ild (pc' := 186) rfl e_9 rfl ?_
      refine wl_ild (pc' := 188) rfl e_6 rfl ?_
      refine wl_ild (pc' := 190) rfl e_5 rfl ?_
      refine wp_p (pc' := 191) (lv' := lv0) (st' := [.int (nI 1), .int x5, .int x6, .int x9, .int x2, .ref 42, .ref 42]) rfl rfl ?_
      refine wl_ild_n (pc' := 192) rfl e_1 rfl ?_
      refine wp_ishl (v := (nI 1) <<< (x1 &&& 31)) (pc' := 193) rfl rfl rfl ?_
      refine wl_cv (As := [.ref 42, .int x2, .int x9, .int x6, .int x5, .int ((nI 1) <<< (x1 &&& 31))]) (r := [.ref 42]) (pc' := 196) rfl rfl rfl k ?_
      rintro _ m28 ⟨w29, rfl, k⟩
      show sm_wp (d + 1) 179 196 lv0 [.int w29, .ref 42] (hp m28) (WQ K)
      refine wp_if_eq (pc' := 199) rfl rfl (fun c30 => ?_) (fun c30 => ?_)
      · replace k := it_t (c := w29 = (nI 0)) c30 k
        refine wl_ald_n (pc' := 209) rfl e_0 rfl ?_
        refine wp_get (v := .int (m28.F 42 56)) (pc' := 212) rfl (hq_42 _) rfl rfl ?_
        refine wl_put (pc' := 215) (h2 := hp (m28.uF 42 56 (m28.F 42 56))) rfl (hq_42 _) rfl rfl rfl (pf_42_56 _ _) ?_
        refine wl_iinc (pc' := 218) (v := x9 + nI 1) rfl e_9 rfl rfl rfl (fun lv31 e32 f33 => ?_)
        have e34 := f33 0 _ e_0 (by decide) rfl
        have e35 := f33 1 _ e_1 (by decide) rfl
        have e36 := f33 2 _ e_2 (by decide) rfl
        have e37 := f33 3 _ e_3 (by decide) rfl
        have e38 := f33 4 _ e_4 (by decide) rfl
        have e39 := f33 5 _ e_5 (by decide) rfl
        have e40 := f33 6 _ e_6 (by decide) rfl
        have e41 := f33 7 _ e_7 (by decide) rfl
        have e42 := f33 8 _ e_8 (by decide) rfl
        refine wp_p (pc' := 165) (lv' := lv31) (st' := []) rfl rfl ?_
        exact k _ ⟨e34, e35, e36, e37, e38, e39, e40, e41, e42, e32, trivial⟩
      · replace k := it_f (c := w29 = (nI 0)) c30 k
        refine wl_ald_n (pc' := 200) rfl e_0 rfl ?_
        refine wp_get (v := .int (m28.F 42 56)) (pc' := 203) rfl (hq_42 _) rfl rfl ?_
        refine wp_p (pc' := 204) (lv' := lv0) (st' := [.int (nI 1), .int (m28.F 42 56), .ref 42]) rfl rfl ?_
        refine wp_iadd (v := (m28.F 42 56) + (nI 1)) (pc' := 205) rfl rfl rfl ?_
        refine wp_p (pc' := 212) (lv' := lv0) (st' := [.int ((m28.F 42 56) + (nI 1)), .ref 42]) rfl rfl ?_
        refine wl_put (pc' := 215) (h2 := hp (m28.uF 42 56 ((m28.F 42 56) + (nI 1)))) rfl (hq_42 _) rfl rfl rfl (pf_42_56 _ _) ?_
        refine wl_iinc (pc' := 218) (v := x9 + nI 1) rfl e_9 rfl rfl rfl (fun lv43 e44 f45 => ?_)
        have e46 := f45 0 _ e_0 (by decide) rfl
        have e47 := f45 1 _ e_1 (by decide) rfl
        have e48 := f45 2 _ e_2 (by decide) rfl
        have e49 := f45 3 _ e_3 (by decide) rfl
        have e50 := f45 4 _ e_4 (by decide) rfl
        have e51 := f45 5 _ e_5 (by decide) rfl
        have e52 := f45 6 _ e_6 (by decide) rfl
        have e53 := f45 7 _ e_7 (by decide) rfl
        have e54 := f45 8 _ e_8 (by decide) rfl
        refine wp_p (pc' := 165) (lv' := lv43) (st' := []) rfl rfl ?_
        exact k _ ⟨e46, e47, e48, e49, e50, e51, e52, e53, e54, e44, trivial⟩
