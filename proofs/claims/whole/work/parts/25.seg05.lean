/-! SEGMENTS of the methods 117 to 137 (by program, wip/whole/gen25.py): what must hold of a way from one place to the next -/
/-! 117: QueryTables$Access.expected -/
set_option maxRecDepth 20000 in
theorem sp_117 {d : Nat} {m : Mm} {K : Option Value → Mm → Prop} (a0 : Nat) (r1 : Nat) (h_a0 : acc a0) (h_r1 : tbl r1) (k : (if (m.F a0 4) = nI 2 then K (some (.int (((m.F r1 3) + (nI 1)) / (nI 2)))) m else (if (m.F a0 4) = nI 3 then K (some (.int (nI 1))) m else K (some (.int (m.F r1 3))) m))) : WP d 117 [.ref a0, .ref r1] m K := by
  have e_0 : sm_lk (lv_args 0 [.ref a0, .ref r1]) 0 = some (.ref a0) := rfl
  have e_1 : sm_lk (lv_args 0 [.ref a0, .ref r1]) 1 = some (.ref r1) := rfl
  show sm_wp d 117 0 (lv_args 0 [.ref a0, .ref r1]) [] (hp m) (WQ K)
  generalize lv_args 0 [.ref a0, .ref r1] = lv0 at *
  refine wl_ald_n (pc' := 1) rfl e_0 rfl ?_
  refine wp_get (v := .int (m.F a0 4)) (pc' := 4) rfl (hq_acc h_a0 _) rfl rfl ?_
  by_cases c1 : (m.F a0 4) = nI 2
  · replace k := it_t (c := (m.F a0 4) = nI 2) c1 k
    refine wl_sw (pc' := 34) (r := []) c1 rfl rfl ?_
    refine wl_ald_n (pc' := 35) rfl e_1 rfl ?_
    refine wp_get (v := .int (m.F r1 3)) (pc' := 38) rfl (hq_tbl h_r1 _) rfl rfl ?_
    refine wp_p (pc' := 39) (lv' := lv0) (st' := [.int (nI 1), .int (m.F r1 3)]) rfl rfl ?_
    refine wp_iadd (v := (m.F r1 3) + (nI 1)) (pc' := 40) rfl rfl rfl ?_
    refine wp_p (pc' := 41) (lv' := lv0) (st' := [.int (nI 2), .int ((m.F r1 3) + (nI 1))]) rfl rfl ?_
    refine wp_idiv (v := ((m.F r1 3) + (nI 1)) / (nI 2)) (pc' := 42) rfl (by decide) rfl rfl ?_
    exact wl_ret rfl rfl ⟨_, rfl, k⟩
  replace k := it_f (c := (m.F a0 4) = nI 2) c1 k
  by_cases c2 : (m.F a0 4) = nI 3
  · replace k := it_t (c := (m.F a0 4) = nI 3) c2 k
    refine wl_sw (pc' := 32) (r := []) c2 rfl rfl ?_
    refine wp_p (pc' := 33) (lv' := lv0) (st' := [.int (nI 1)]) rfl rfl ?_
    exact wl_ret rfl rfl ⟨_, rfl, k⟩
  replace k := it_f (c := (m.F a0 4) = nI 3) c2 k
  have nc1 := sw_ne (n := 2) (by decide) c1
  have nc2 := sw_ne (n := 3) (by decide) c2
  refine wl_ld (pc' := 43) (o := 39) (r := []) rfl (by simp only [lookupswitch.offset]; rw [if_neg (fun q => nc1 q.symm)]; rw [if_neg (fun q => nc2 q.symm)]) rfl ?_
  refine wl_ald_n (pc' := 44) rfl e_1 rfl ?_
  refine wp_get (v := .int (m.F r1 3)) (pc' := 47) rfl (hq_tbl h_r1 _) rfl rfl ?_
  exact wl_ret rfl rfl ⟨_, rfl, k⟩
/-! 119: QueryTables$Search.choosePlan -/
set_option maxRecDepth 20000 in
theorem sp_119 {d : Nat} {m : Mm} {K : Option Value → Mm → Prop} (k : WP d 41 [.ref 23, .int (nI 0)] m (fun v m1 => ∃ w2, v = some (.ref w2) ∧ tbl w2 ∧ WP d 41 [.ref 23, .int (nI 1)] m1 (fun v m8 => ∃ w9, v = some (.ref w9) ∧ tbl w9 ∧ WP d 114 [.ref 36, .ref w2] ((m8.uR 30 12 36).uR 30 13 39) (fun v m16 => v = none ∧ WP d 121 [.ref 30] m16 (fun v m17 => ∃ w18, v = some (.int w18) ∧ (if w18 = (nI 0) then K none m17 else WP d 114 [.ref 39, .ref w9] m17 (fun v m20 => v = none ∧ WP d 114 [.ref 37, .ref w9] m20 (fun v m21 => v = none ∧ WP d 114 [.ref 38, .ref w2] m21 (fun v m22 => v = none ∧ WP d 117 [.ref 36, .ref w2] m22 (fun v m23 => ∃ w24, v = some (.int w24) ∧ WP d 117 [.ref 39, .ref w9] m23 (fun v m25 => ∃ w26, v = some (.int w26) ∧ WP d 120 [.int w24, .int w26] m25 (fun v m27 => ∃ w28, v = some (.int w28) ∧ WP d 117 [.ref 37, .ref w9] m27 (fun v m35 => ∃ w36, v = some (.int w36) ∧ WP d 117 [.ref 38, .ref w2] m35 (fun v m37 => ∃ w38, v = some (.int w38) ∧ WP d 120 [.int w36, .int w38] m37 (fun v m39 => ∃ w40, v = some (.int w40) ∧ (if w28 ≤ w40 then K none m39 else K none ((m39.uR 30 12 37).uR 30 13 38))))))))))))))))) : WP (d + 1) 119 [.ref 30] m K := by
  have e_0 : sm_lk (lv_args 0 [.ref 30]) 0 = some (.ref 30) := rfl
  show sm_wp (d + 1) 119 0 (lv_args 0 [.ref 30]) [] (hp m) (WQ K)
  generalize lv_args 0 [.ref 30] = lv0 at *
  refine wl_ald_n (pc' := 1) rfl e_0 rfl ?_
  refine wp_get (v := .ref 23) (pc' := 4) rfl (hq_30 _) rfl rfl ?_
  refine wp_p (pc' := 5) (lv' := lv0) (st' := [.int (nI 0), .ref 23]) rfl rfl ?_
  refine wl_cv (As := [.ref 23, .int (nI 0)]) (r := []) (pc' := 8) rfl rfl rfl k ?_
  rintro _ m1 ⟨w2, rfl, k3, k⟩
  show sm_wp (d + 1) 119 8 lv0 [.ref w2] (hp m1) (WQ K)
  refine wl_st1 (pc' := 9) (k0 := 1) (v := .ref w2) (r := []) rfl rfl (fun lv4 e5 f6 => ?_)
  have e7 := f6 0 _ e_0 (by decide) rfl
  refine wl_ald_n (pc' := 10) rfl e7 rfl ?_
  refine wp_get (v := .ref 23) (pc' := 13) rfl (hq_30 _) rfl rfl ?_
  refine wp_p (pc' := 14) (lv' := lv4) (st' := [.int (nI 1), .ref 23]) rfl rfl ?_
  refine wl_cv (As := [.ref 23, .int (nI 1)]) (r := []) (pc' := 17) rfl rfl rfl k ?_
  rintro _ m8 ⟨w9, rfl, k10, k⟩
  show sm_wp (d + 1) 119 17 lv4 [.ref w9] (hp m8) (WQ K)
  refine wl_st1 (pc' := 18) (k0 := 2) (v := .ref w9) (r := []) rfl rfl (fun lv11 e12 f13 => ?_)
  have e14 := f13 0 _ e7 (by decide) rfl
  have e15 := f13 1 _ e5 (by decide) rfl
  refine wl_ald_n (pc' := 19) rfl e14 rfl ?_
  refine wl_ald_n (pc' := 20) rfl e14 rfl ?_
  refine wp_get (v := .ref 36) (pc' := 23) rfl (hq_30 _) rfl rfl ?_
  refine wl_put (pc' := 26) (h2 := hp (m8.uR 30 12 36)) rfl (hq_30 _) rfl rfl rfl (pr_30_12 _ _) ?_
  refine wl_ald_n (pc' := 27) rfl e14 rfl ?_
  refine wl_ald_n (pc' := 28) rfl e14 rfl ?_
  refine wp_get (v := .ref 39) (pc' := 31) rfl (hq_30 _) rfl rfl ?_
  refine wl_put (pc' := 34) (h2 := hp ((m8.uR 30 12 36).uR 30 13 39)) rfl (hq_30 _) rfl rfl rfl (pr_30_13 _ _) ?_
  refine wl_ald_n (pc' := 35) rfl e14 rfl ?_
  refine wp_get (v := .ref 36) (pc' := 38) rfl (hq_30 _) rfl rfl ?_
  refine wl_ald_n (pc' := 39) rfl e15 rfl ?_
  refine wl_cv (As := [.ref 36, .ref w2]) (r := []) (pc' := 42) rfl rfl rfl k ?_
  rintro _ m16 ⟨rfl, k⟩
  show sm_wp (d + 1) 119 42 lv11 [] (hp m16) (WQ K)
  refine wl_ald_n (pc' := 43) rfl e14 rfl ?_
  refine wl_cv (As := [.ref 30]) (r := []) (pc' := 46) rfl rfl rfl k ?_
  rintro _ m17 ⟨w18, rfl, k⟩
  show sm_wp (d + 1) 119 46 lv11 [.int w18] (hp m17) (WQ K)
  refine wp_if_ne (pc' := 49) rfl rfl (fun c19 => ?_) (fun c19 => ?_)
  · replace k := it_f (c := w18 = (nI 0)) c19 k
    refine wl_ald_n (pc' := 51) rfl e14 rfl ?_
    refine wp_get (v := .ref 39) (pc' := 54) rfl (hq_30 _) rfl rfl ?_
    refine wl_ald_n (pc' := 55) rfl e12 rfl ?_
    refine wl_cv (As := [.ref 39, .ref w9]) (r := []) (pc' := 58) rfl rfl rfl k ?_
    rintro _ m20 ⟨rfl, k⟩
    show sm_wp (d + 1) 119 58 lv11 [] (hp m20) (WQ K)
    refine wl_ald_n (pc' := 59) rfl e14 rfl ?_
    refine wp_get (v := .ref 37) (pc' := 62) rfl (hq_30 _) rfl rfl ?_
    refine wl_ald_n (pc' := 63) rfl e12 rfl ?_
    refine wl_cv (As := [.ref 37, .ref w9]) (r := []) (pc' := 66) rfl rfl rfl k ?_
    rintro _ m21 ⟨rfl, k⟩
    show sm_wp (d + 1) 119 66 lv11 [] (hp m21) (WQ K)
    refine wl_ald_n (pc' := 67) rfl e14 rfl ?_
    refine wp_get (v := .ref 38) (pc' := 70) rfl (hq_30 _) rfl rfl ?_
    refine wl_ald_n (pc' := 71) rfl e15 rfl ?_
    refine wl_cv (As := [.ref 38, .ref w2]) (r := []) (pc' := 74) rfl rfl rfl k ?_
    rintro _ m22 ⟨rfl, k⟩
    show sm_wp (d + 1) 119 74 lv11 [] (hp m22) (WQ K)
    refine wl_ald_n (pc' := 75) rfl e14 rfl ?_
    refine wp_get (v := .ref 36) (pc' := 78) rfl (hq_30 _) rfl rfl ?_
    refine wl_ald_n (pc' := 79) rfl e15 rfl ?_
    refine wl_cv (As := [.ref 36, .ref w2]) (r := []) (pc' := 82) rfl rfl rfl k ?_
    rintro _ m23 ⟨w24, rfl, k⟩
    show sm_wp (d + 1) 119 82 lv11 [.int w24] (hp m23) (WQ K)
    refine wl_ald_n (pc' := 83) rfl e14 rfl ?_
    refine wp_get (v := .ref 39) (pc' := 86) rfl (hq_30 _) rfl rfl ?_
    refine wl_ald_n (pc' := 87) rfl e12 rfl ?_
    refine wl_cv (As := [.ref 39, .ref w9]) (r := [.int w24]) (pc' := 90) rfl rfl rfl k ?_
    rintro _ m25 ⟨w26, rfl, k⟩
    show sm_wp (d + 1) 119 90 lv11 [.int w26, .int w24] (hp m25) (WQ K)
    refine wl_cs (As := [.int w24, .int w26]) (r := []) (pc' := 93) rfl rfl rfl rfl k ?_
    rintro _ m27 ⟨w28, rfl, k⟩
    show sm_wp (d + 1) 119 93 lv11 [.int w28] (hp m27) (WQ K)
    refine wl_st1 (pc' := 94) (k0 := 3) (v := .int w28) (r := []) rfl rfl (fun lv29 e30 f31 => ?_)
    have e32 := f31 0 _ e14 (by decide) rfl
    have e33 := f31 1 _ e15 (by decide) rfl
    have e34 := f31 2 _ e12 (by decide) rfl
    refine wl_ald_n (pc' := 95) rfl e32 rfl ?_
    refine wp_get (v := .ref 37) (pc' := 98) rfl (hq_30 _) rfl rfl ?_
    refine wl_ald_n (pc' := 99) rfl e34 rfl ?_
    refine wl_cv (As := [.ref 37, .ref w9]) (r := []) (pc' := 102) rfl rfl rfl k ?_
    rintro _ m35 ⟨w36, rfl, k⟩
    show sm_wp (d + 1) 119 102 lv29 [.int w36] (hp m35) (WQ K)
    refine wl_ald_n (pc' := 103) rfl e32 rfl ?_
    refine wp_get (v := .ref 38) (pc' := 106) rfl (hq_30 _) rfl rfl ?_
    refine wl_ald_n (pc' := 107) rfl e33 rfl ?_
    refine wl_cv (As := [.ref 38, .ref w2]) (r := [.int w36]) (pc' := 110) rfl rfl rfl k ?_
    rintro _ m37 ⟨w38, rfl, k⟩
    show sm_wp (d + 1) 119 110 lv29 [.int w38, .int w36] (hp m37) (WQ K)
    refine wl_cs (As := [.int w36, .int w38]) (r := []) (pc' := 113) rfl rfl rfl rfl k ?_
    rintro _ m39 ⟨w40, rfl, k⟩
    show sm_wp (d + 1) 119 113 lv29 [.int w40] (hp m39) (WQ K)
    refine wl_st1 (pc' := 115) (k0 := 4) (v := .int w40) (r := []) rfl rfl (fun lv41 e42 f43 => ?_)
    have e44 := f43 0 _ e32 (by decide) rfl
    have e45 := f43 1 _ e33 (by decide) rfl
    have e46 := f43 2 _ e34 (by decide) rfl
    have e47 := f43 3 _ e30 (by decide) rfl
    refine wl_ild (pc' := 117) rfl e42 rfl ?_
    refine wl_ild_n (pc' := 118) rfl e47 rfl ?_
    refine wp_ic_ge (pc' := 121) rfl rfl (fun c48 => ?_) (fun c48 => ?_)
    · replace k := it_t (c := w28 ≤ w40) c48 k
      exact wp_r rfl rfl ⟨_, rfl, k⟩
    · replace k := it_f (c := w28 ≤ w40) c48 k
      refine wl_ald_n (pc' := 122) rfl e44 rfl ?_
      refine wl_ald_n (pc' := 123) rfl e44 rfl ?_
      refine wp_get (v := .ref 37) (pc' := 126) rfl (hq_30 _) rfl rfl ?_
      refine wl_put (pc' := 129) (h2 := hp (m39.uR 30 12 37)) rfl (hq_30 _) rfl rfl rfl (pr_30_12 _ _) ?_
      refine wl_ald_n (pc' := 130) rfl e44 rfl ?_
      refine wl_ald_n (pc' := 131) rfl e44 rfl ?_
      refine wp_get (v := .ref 38) (pc' := 134) rfl (hq_30 _) rfl rfl ?_
      refine wl_put (pc' := 137) (h2 := hp ((m39.uR 30 12 37).uR 30 13 38)) rfl (hq_30 _) rfl rfl rfl (pr_30_13 _ _) ?_
      exact wp_r rfl rfl ⟨_, rfl, k⟩
  · replace k := it_t (c := w18 = (nI 0)) c19 k
    exact wp_r rfl rfl ⟨_, rfl, k⟩
/-! 120: QueryTables$Search.cost -/
set_option maxRecDepth 20000 in
theorem sp_120 {d : Nat} {m : Mm} {K : Option Value → Mm → Prop} (x0 : Int32) (x1 : Int32) (k : K (some (.int (x0 + (x0 * x1)))) m) : WP d 120 [.int x0, .int x1] m K := by
  have e_0 : sm_lk (lv_args 0 [.int x0, .int x1]) 0 = some (.int x0) := rfl
  have e_1 : sm_lk (lv_args 0 [.int x0, .int x1]) 1 = some (.int x1) := rfl
  show sm_wp d 120 0 (lv_args 0 [.int x0, .int x1]) [] (hp m) (WQ K)
  generalize lv_args 0 [.int x0, .int x1] = lv0 at *
  refine wl_ild_n (pc' := 1) rfl e_0 rfl ?_
  refine wl_ild_n (pc' := 2) rfl e_0 rfl ?_
  refine wl_ild_n (pc' := 3) rfl e_1 rfl ?_
  refine wp_imul (v := x0 * x1) (pc' := 4) rfl rfl rfl ?_
  refine wp_iadd (v := x0 + (x0 * x1)) (pc' := 5) rfl rfl rfl ?_
  exact wl_ret rfl rfl ⟨_, rfl, k⟩
/-! 121: QueryTables$Search.isOfTwo -/
set_option maxRecDepth 20000 in
theorem sp_121 {d : Nat} {m : Mm} {K : Option Value → Mm → Prop} (k : (if (m.F 12 6) = (-1) then K (some (.int (nI 0))) m else K (some (.int (nI 1))) m)) : WP d 121 [.ref 30] m K := by
  have e_0 : sm_lk (lv_args 0 [.ref 30]) 0 = some (.ref 30) := rfl
  show sm_wp d 121 0 (lv_args 0 [.ref 30]) [] (hp m) (WQ K)
  generalize lv_args 0 [.ref 30] = lv0 at *
  refine wl_ald_n (pc' := 1) rfl e_0 rfl ?_
  refine wp_get (v := .ref 12) (pc' := 4) rfl (hq_30 _) rfl rfl ?_
  refine wp_get (v := .int (m.F 12 6)) (pc' := 7) rfl (hq_12 _) rfl rfl ?_
  refine wp_p (pc' := 8) (lv' := lv0) (st' := [.int (-1), .int (m.F 12 6)]) rfl rfl ?_
  refine wp_ic_eq (pc' := 11) rfl rfl (fun c1 => ?_) (fun c1 => ?_)
  · replace k := it_t (c := (m.F 12 6) = (-1)) c1 k
    refine wp_p (pc' := 16) (lv' := lv0) (st' := [.int (nI 0)]) rfl rfl ?_
    exact wl_ret rfl rfl ⟨_, rfl, k⟩
  · replace k := it_f (c := (m.F 12 6) = (-1)) c1 k
    refine wp_p (pc' := 12) (lv' := lv0) (st' := [.int (nI 1)]) rfl rfl ?_
    refine wp_p (pc' := 16) (lv' := lv0) (st' := [.int (nI 1)]) rfl rfl ?_
    exact wl_ret rfl rfl ⟨_, rfl, k⟩
/-! 122: QueryTables$Search.planNumber -/
set_option maxRecDepth 20000 in
theorem sp_122 {d : Nat} {m : Mm} {K : Option Value → Mm → Prop} (k : WP d 121 [.ref 30] m (fun v m1 => ∃ w2, v = some (.int w2) ∧ (if w2 = (nI 0) then acc (m1.R 30 12) ∧ K (some (.int (m1.F (m1.R 30 12) 4))) m1 else acc (m1.R 30 12) ∧ acc (m1.R 30 13) ∧ acc (m1.R 30 12) ∧ (if (m1.F (m1.R 30 12) 2) = (nI 1) then K (some (.int (((m1.F (m1.R 30 12) 4) + ((nI 4) * (m1.F (m1.R 30 13) 4))) + (nI 16)))) m1 else K (some (.int (((m1.F (m1.R 30 12) 4) + ((nI 4) * (m1.F (m1.R 30 13) 4))) + (nI 0)))) m1)))) : WP (d + 1) 122 [.ref 30] m K := by
  have e_0 : sm_lk (lv_args 0 [.ref 30]) 0 = some (.ref 30) := rfl
  show sm_wp (d + 1) 122 0 (lv_args 0 [.ref 30]) [] (hp m) (WQ K)
  generalize lv_args 0 [.ref 30] = lv0 at *
  refine wl_ald_n (pc' := 1) rfl e_0 rfl ?_
  refine wl_cv (As := [.ref 30]) (r := []) (pc' := 4) rfl rfl rfl k ?_
  rintro _ m1 ⟨w2, rfl, k⟩
  show sm_wp (d + 1) 122 4 lv0 [.int w2] (hp m1) (WQ K)
  refine wp_if_ne (pc' := 7) rfl rfl (fun c3 => ?_) (fun c3 => ?_)
  · replace k := it_f (c := w2 = (nI 0)) c3 k
    refine wl_ald_n (pc' := 16) rfl e_0 rfl ?_
    refine wp_get (v := .ref (m1.R 30 12)) (pc' := 19) rfl (hq_30 _) rfl rfl ?_
    obtain ⟨k4, k⟩ := k
    refine wp_get (v := .int (m1.F (m1.R 30 12) 4)) (pc' := 22) rfl (hq_acc k4 _) rfl rfl ?_
    refine wp_p (pc' := 23) (lv' := lv0) (st' := [.int (nI 4), .int (m1.F (m1.R 30 12) 4)]) rfl rfl ?_
    refine wl_ald_n (pc' := 24) rfl e_0 rfl ?_
    refine wp_get (v := .ref (m1.R 30 13)) (pc' := 27) rfl (hq_30 _) rfl rfl ?_
    obtain ⟨k5, k⟩ := k
    refine wp_get (v := .int (m1.F (m1.R 30 13) 4)) (pc' := 30) rfl (hq_acc k5 _) rfl rfl ?_
    refine wp_imul (v := (nI 4) * (m1.F (m1.R 30 13) 4)) (pc' := 31) rfl rfl rfl ?_
    refine wp_iadd (v := (m1.F (m1.R 30 12) 4) + ((nI 4) * (m1.F (m1.R 30 13) 4))) (pc' := 32) rfl rfl rfl ?_
    refine wl_ald_n (pc' := 33) rfl e_0 rfl ?_
    refine wp_get (v := .ref (m1.R 30 12)) (pc' := 36) rfl (hq_30 _) rfl rfl ?_
    obtain ⟨k6, k⟩ := k
    refine wp_get (v := .int (m1.F (m1.R 30 12) 2)) (pc' := 39) rfl (hq_acc k6 _) rfl rfl ?_
    refine wp_p (pc' := 40) (lv' := lv0) (st' := [.int (nI 1), .int (m1.F (m1.R 30 12) 2), .int ((m1.F (m1.R 30 12) 4) + ((nI 4) * (m1.F (m1.R 30 13) 4)))]) rfl rfl ?_
    refine wp_ic_ne (pc' := 43) rfl rfl (fun c7 => ?_) (fun c7 => ?_)
    · replace k := it_f (c := (m1.F (m1.R 30 12) 2) = (nI 1)) c7 k
      refine wp_p (pc' := 49) (lv' := lv0) (st' := [.int (nI 0), .int ((m1.F (m1.R 30 12) 4) + ((nI 4) * (m1.F (m1.R 30 13) 4)))]) rfl rfl ?_
      refine wp_iadd (v := ((m1.F (m1.R 30 12) 4) + ((nI 4) * (m1.F (m1.R 30 13) 4))) + (nI 0)) (pc' := 50) rfl rfl rfl ?_
      exact wl_ret rfl rfl ⟨_, rfl, k⟩
    · replace k := it_t (c := (m1.F (m1.R 30 12) 2) = (nI 1)) c7 k
      refine wp_p (pc' := 45) (lv' := lv0) (st' := [.int (nI 16), .int ((m1.F (m1.R 30 12) 4) + ((nI 4) * (m1.F (m1.R 30 13) 4)))]) rfl rfl ?_
      refine wp_p (pc' := 49) (lv' := lv0) (st' := [.int (nI 16), .int ((m1.F (m1.R 30 12) 4) + ((nI 4) * (m1.F (m1.R 30 13) 4)))]) rfl rfl ?_
      refine wp_iadd (v := ((m1.F (m1.R 30 12) 4) + ((nI 4) * (m1.F (m1.R 30 13) 4))) + (nI 16)) (pc' := 50) rfl rfl rfl ?_
      exact wl_ret rfl rfl ⟨_, rfl, k⟩
  · replace k := it_t (c := w2 = (nI 0)) c3 k
    refine wl_ald_n (pc' := 8) rfl e_0 rfl ?_
    refine wp_get (v := .ref (m1.R 30 12)) (pc' := 11) rfl (hq_30 _) rfl rfl ?_
    obtain ⟨k8, k⟩ := k
    refine wp_get (v := .int (m1.F (m1.R 30 12) 4)) (pc' := 14) rfl (hq_acc k8 _) rfl rfl ?_
    exact wl_ret rfl rfl ⟨_, rfl, k⟩
/-! 123: QueryTables$Search.findAll -/
set_option maxRecDepth 20000 in
theorem sp_123 {d : Nat} {m : Mm} {K : Option Value → Mm → Prop} (k : acc (m.R 30 12) ∧ WP d 124 [.ref 30, .ref (m.R 30 12), .ref 31] ((m.uF 30 14 (nI 0)).uF 30 15 (nI 0)) (fun v m2 => ∃ w3, v = some (.int w3) ∧ WH (d + 1) 123 25 [(0, .ref 30), (1, .int w3), (2, .int (nI 0))] [] m2 K)) : WP (d + 1) 123 [.ref 30] m K := by
  have e_0 : sm_lk (lv_args 0 [.ref 30]) 0 = some (.ref 30) := rfl
  show sm_wp (d + 1) 123 0 (lv_args 0 [.ref 30]) [] (hp m) (WQ K)
  generalize lv_args 0 [.ref 30] = lv0 at *
  refine wl_ald_n (pc' := 1) rfl e_0 rfl ?_
  refine wp_p (pc' := 2) (lv' := lv0) (st' := [.int (nI 0), .ref 30]) rfl rfl ?_
  refine wl_put (pc' := 5) (h2 := hp (m.uF 30 14 (nI 0))) rfl (hq_30 _) rfl rfl rfl (pf_30_14 _ _) ?_
  refine wl_ald_n (pc' := 6) rfl e_0 rfl ?_
  refine wp_p (pc' := 7) (lv' := lv0) (st' := [.int (nI 0), .ref 30]) rfl rfl ?_
  refine wl_put (pc' := 10) (h2 := hp ((m.uF 30 14 (nI 0)).uF 30 15 (nI 0))) rfl (hq_30 _) rfl rfl rfl (pf_30_15 _ _) ?_
  refine wl_ald_n (pc' := 11) rfl e_0 rfl ?_
  refine wl_ald_n (pc' := 12) rfl e_0 rfl ?_
  refine wp_get (v := .ref (m.R 30 12)) (pc' := 15) rfl (hq_30 _) rfl rfl ?_
  obtain ⟨k1, k⟩ := k
  refine wl_ald_n (pc' := 16) rfl e_0 rfl ?_
  refine wp_get (v := .ref 31) (pc' := 19) rfl (hq_30 _) rfl rfl ?_
  refine wl_cv (As := [.ref 30, .ref (m.R 30 12), .ref 31]) (r := []) (pc' := 22) rfl rfl rfl k ?_
  rintro _ m2 ⟨w3, rfl, k⟩
  show sm_wp (d + 1) 123 22 lv0 [.int w3] (hp m2) (WQ K)
  refine wl_st1 (pc' := 23) (k0 := 1) (v := .int w3) (r := []) rfl rfl (fun lv4 e5 f6 => ?_)
  have e7 := f6 0 _ e_0 (by decide) rfl
  refine wp_p (pc' := 24) (lv' := lv4) (st' := [.int (nI 0)]) rfl rfl ?_
  refine wl_st1 (pc' := 25) (k0 := 2) (v := .int (nI 0)) (r := []) rfl rfl (fun lv8 e9 f10 => ?_)
  have e11 := f10 0 _ e7 (by decide) rfl
  have e12 := f10 1 _ e5 (by decide) rfl
  exact k _ ⟨e11, e12, e9, trivial⟩
set_option maxRecDepth 20000 in
theorem sg_123_25 {d : Nat} {m : Mm} {K : Option Value → Mm → Prop} (x1 : Int32) (x2 : Int32) (k : (if x1 ≤ x2 then K none m else acc (m.R 30 12) ∧ ok (m.A 31).length x2 ∧ WP d 43 [.ref 23, .int (m.F (m.R 30 12) 2), .int ((m.A 31).getD (ix x2) 0)] m (fun v m4 => v = none ∧ WP d 121 [.ref 30] m4 (fun v m5 => ∃ w6, v = some (.int w6) ∧ (if w6 = (nI 0) then WP d 126 [.ref 30] m5 (fun v m32 => v = none ∧ WH (d + 1) 123 25 [(0, .ref 30), (1, .int x1), (2, .int (x2 + nI 1))] [] m32 K) else WP d 125 [.ref 30] m5 (fun v m8 => ∃ w9, v = some (.int w9) ∧ (if w9 = (nI 0) then WH (d + 1) 123 25 [(0, .ref 30), (1, .int x1), (2, .int (x2 + nI 1))] [] m8 K else acc (m8.R 30 13) ∧ WP d 124 [.ref 30, .ref (m8.R 30 13), .ref 32] m8 (fun v m17 => ∃ w18, v = some (.int w18) ∧ WH (d + 1) 123 87 [(0, .ref 30), (1, .int x1), (2, .int x2), (3, .int w18), (4, .int (nI 0))] [] m17 K)))))))) : WH (d + 1) 123 25 [(0, .ref 30), (1, .int x1), (2, .int x2)] [] m K := by
  intro lv0 el
  obtain ⟨e_0, e_1, e_2, _⟩ := el
  refine wl_ild_n (pc' := 26) rfl e_2 rfl ?_
  refine wl_ild_n (pc' := 27) rfl e_1 rfl ?_
  refine wp_ic_ge (pc' := 30) rfl rfl (fun c1 => ?_) (fun c1 => ?_)
  · replace k := it_t (c := x1 ≤ x2) c1 k
    exact wp_r rfl rfl ⟨_, rfl, k⟩
  · replace k := it_f (c := x1 ≤ x2) c1 k
    refine wl_ald_n (pc' := 31) rfl e_0 rfl ?_
    refine wp_get (v := .ref 23) (pc' := 34) rfl (hq_30 _) rfl rfl ?_
    refine wl_ald_n (pc' := 35) rfl e_0 rfl ?_
    refine wp_get (v := .ref (m.R 30 12)) (pc' := 38) rfl (hq_30 _) rfl rfl ?_
    obtain ⟨k2, k⟩ := k
    refine wp_get (v := .int (m.F (m.R 30 12) 2)) (pc' := 41) rfl (hq_acc k2 _) rfl rfl ?_
    refine wl_ald_n (pc' := 42) rfl e_0 rfl ?_
    refine wp_get (v := .ref 31) (pc' := 45) rfl (hq_30 _) rfl rfl ?_
    refine wl_ild_n (pc' := 46) rfl e_2 rfl ?_
    obtain ⟨k3, k⟩ := k
    refine wl_iaload (g := m.A 31) (pc' := 47) rfl (hq_31 _) k3 rfl ?_
    refine wl_cv (As := [.ref 23, .int (m.F (m.R 30 12) 2), .int ((m.A 31).getD (ix x2) 0)]) (r := []) (pc' := 50) rfl rfl rfl k ?_
    rintro _ m4 ⟨rfl, k⟩
    show sm_wp (d + 1) 123 50 lv0 [] (hp m4) (WQ K)
    refine wl_ald_n (pc' := 51) rfl e_0 rfl ?_
    refine wl_cv (As := [.ref 30]) (r := []) (pc' := 54) rfl rfl rfl k ?_
    rintro _ m5 ⟨w6, rfl, k⟩
    show sm_wp (d + 1) 123 54 lv0 [.int w6] (hp m5) (WQ K)
    refine wp_if_ne (pc' := 57) rfl rfl (fun c7 => ?_) (fun c7 => ?_)
    · replace k := it_f (c := w6 = (nI 0)) c7 k
      refine wl_ald_n (pc' := 65) rfl e_0 rfl ?_
      refine wl_cv (As := [.ref 30]) (r := []) (pc' := 68) rfl rfl rfl k ?_
      rintro _ m8 ⟨w9, rfl, k⟩
      show sm_wp (d + 1) 123 68 lv0 [.int w9] (hp m8) (WQ K)
      refine wp_if_eq (pc' := 71) rfl rfl (fun c10 => ?_) (fun c10 => ?_)
      · replace k := it_t (c := w9 = (nI 0)) c10 k
        refine wl_iinc (pc' := 127) (v := x2 + nI 1) rfl e_2 rfl rfl rfl (fun lv11 e12 f13 => ?_)
        have e14 := f13 0 _ e_0 (by decide) rfl
        have e15 := f13 1 _ e_1 (by decide) rfl
        refine wp_p (pc' := 25) (lv' := lv11) (st' := []) rfl rfl ?_
        exact k _ ⟨e14, e15, e12, trivial⟩
      · replace k := it_f (c := w9 = (nI 0)) c10 k
        refine wl_ald_n (pc' := 72) rfl e_0 rfl ?_
        refine wl_ald_n (pc' := 73) rfl e_0 rfl ?_
        refine wp_get (v := .ref (m8.R 30 13)) (pc' := 76) rfl (hq_30 _) rfl rfl ?_
        obtain ⟨k16, k⟩ := k
        refine wl_ald_n (pc' := 77) rfl e_0 rfl ?_
        refine wp_get (v := .ref 32) (pc' := 80) rfl (hq_30 _) rfl rfl ?_
        refine wl_cv (As := [.ref 30, .ref (m8.R 30 13), .ref 32]) (r := []) (pc' := 83) rfl rfl rfl k ?_
        rintro _ m17 ⟨w18, rfl, k⟩
        show sm_wp (d + 1) 123 83 lv0 [.int w18] (hp m17) (WQ K)
        refine wl_st1 (pc' := 84) (k0 := 3) (v := .int w18) (r := []) rfl rfl (fun lv19 e20 f21 => ?_)
        have e22 := f21 0 _ e_0 (by decide) rfl
        have e23 := f21 1 _ e_1 (by decide) rfl
        have e24 := f21 2 _ e_2 (by decide) rfl
        refine wp_p (pc' := 85) (lv' := lv19) (st' := [.int (nI 0)]) rfl rfl ?_
        refine wl_st1 (pc' := 87) (k0 := 4) (v := .int (nI 0)) (r := []) rfl rfl (fun lv25 e26 f27 => ?_)
        have e28 := f27 0 _ e22 (by decide) rfl
        have e29 := f27 1 _ e23 (by decide) rfl
        have e30 := f27 2 _ e24 (by decide) rfl
        have e31 := f27 3 _ e20 (by decide) rfl
        exact k _ ⟨e28, e29, e30, e31, e26, trivial⟩
    · replace k := it_t (c := w6 = (nI 0)) c7 k
      refine wl_ald_n (pc' := 58) rfl e_0 rfl ?_
      refine wl_cv (As := [.ref 30]) (r := []) (pc' := 61) rfl rfl rfl k ?_
      rintro _ m32 ⟨rfl, k⟩
      show sm_wp (d + 1) 123 61 lv0 [] (hp m32) (WQ K)
      refine wp_p (pc' := 124) (lv' := lv0) (st' := []) rfl rfl ?_
      refine wl_iinc (pc' := 127) (v := x2 + nI 1) rfl e_2 rfl rfl rfl (fun lv33 e34 f35 => ?_)
      have e36 := f35 0 _ e_0 (by decide) rfl
      have e37 := f35 1 _ e_1 (by decide) rfl
      refine wp_p (pc' := 25) (lv' := lv33) (st' := []) rfl rfl ?_
      exact k _ ⟨e36, e37, e34, trivial⟩
set_option maxRecDepth 20000 in
theorem sg_123_87 {d : Nat} {m : Mm} {K : Option Value → Mm → Prop} (x1 : Int32) (x2 : Int32) (x3 : Int32) (x4 : Int32) (k : (if x3 ≤ x4 then WH (d + 1) 123 25 [(0, .ref 30), (1, .int x1), (2, .int (x2 + nI 1))] [] m K else acc (m.R 30 13) ∧ ok (m.A 32).length x4 ∧ WP d 43 [.ref 23, .int (m.F (m.R 30 13) 2), .int ((m.A 32).getD (ix x4) 0)] m (fun v m11 => v = none ∧ WP d 126 [.ref 30] m11 (fun v m12 => v = none ∧ WH (d + 1) 123 87 [(0, .ref 30), (1, .int x1), (2, .int x2), (3, .int x3), (4, .int (x4 + nI 1))] [] m12 K)))) : WH (d + 1) 123 87 [(0, .ref 30), (1, .int x1), (2, .int x2), (3, .int x3), (4, .int x4)] [] m K := by
  intro lv0 el
  obtain ⟨e_0, e_1, e_2, e_3, e_4, _⟩ := el
  refine wl_ild (pc' := 89) rfl e_4 rfl ?_
  refine wl_ild_n (pc' := 90) rfl e_3 rfl ?_
  refine wp_ic_ge (pc' := 93) rfl rfl (fun c1 => ?_) (fun c1 => ?_)
  · replace k := it_t (c := x3 ≤ x4) c1 k
    refine wl_iinc (pc' := 127) (v := x2 + nI 1) rfl e_2 rfl rfl rfl (fun lv2 e3 f4 => ?_)
    have e5 := f4 0 _ e_0 (by decide) rfl
    have e6 := f4 1 _ e_1 (by decide) rfl
    have e7 := f4 3 _ e_3 (by decide) rfl
    have e8 := f4 4 _ e_4 (by decide) rfl
    refine wp_p (pc' := 25) (lv' := lv2) (st' := []) rfl rfl ?_
    exact k _ ⟨e5, e6, e3, trivial⟩
  · replace k := it_f (c := x3 ≤ x4) c1 k
    refine wl_ald_n (pc' := 94) rfl e_0 rfl ?_
    refine wp_get (v := .ref 23) (pc' := 97) rfl (hq_30 _) rfl rfl ?_
    refine wl_ald_n (pc' := 98) rfl e_0 rfl ?_
    refine wp_get (v := .ref (m.R 30 13)) (pc' := 101) rfl (hq_30 _) rfl rfl ?_
    obtain ⟨k9, k⟩ := k
    refine wp_get (v := .int (m.F (m.R 30 13) 2)) (pc' := 104) rfl (hq_acc k9 _) rfl rfl ?_
    refine wl_ald_n (pc' := 105) rfl e_0 rfl ?_
    refine wp_get (v := .ref 32) (pc' := 108) rfl (hq_30 _) rfl rfl ?_
    refine wl_ild (pc' := 110) rfl e_4 rfl ?_
    obtain ⟨k10, k⟩ := k
    refine wl_iaload (g := m.A 32) (pc' := 111) rfl (hq_32 _) k10 rfl ?_
    refine wl_cv (As := [.ref 23, .int (m.F (m.R 30 13) 2), .int ((m.A 32).getD (ix x4) 0)]) (r := []) (pc' := 114) rfl rfl rfl k ?_
    rintro _ m11 ⟨rfl, k⟩
    show sm_wp (d + 1) 123 114 lv0 [] (hp m11) (WQ K)
    refine wl_ald_n (pc' := 115) rfl e_0 rfl ?_
    refine wl_cv (As := [.ref 30]) (r := []) (pc' := 118) rfl rfl rfl k ?_
    rintro _ m12 ⟨rfl, k⟩
    show sm_wp (d + 1) 123 118 lv0 [] (hp m12) (WQ K)
    refine wl_iinc (pc' := 121) (v := x4 + nI 1) rfl e_4 rfl rfl rfl (fun lv13 e14 f15 => ?_)
    have e16 := f15 0 _ e_0 (by decide) rfl
    have e17 := f15 1 _ e_1 (by decide) rfl
    have e18 := f15 2 _ e_2 (by decide) rfl
    have e19 := f15 3 _ e_3 (by decide) rfl
    refine wp_p (pc' := 87) (lv' := lv13) (st' := []) rfl rfl ?_
    exact k _ ⟨e16, e17, e18, e19, e14, trivial⟩
/-! 124: QueryTables$Search.fetch -/
set_option maxRecDepth 20000 in
theorem sp_124 {d : Nat} {m : Mm} {K : Option Value → Mm → Prop} (a1 : Nat) (q2 : Nat) (h_a1 : acc a1) (h_q2 : rws q2) (k : WP d 41 [.ref 23, .int (m.F a1 2)] m (fun v m1 => ∃ w2, v = some (.ref w2) ∧ tbl w2 ∧ (if (m1.F a1 4) = (nI 1) then WH (d + 1) 124 65 [(0, .ref 30), (1, .ref a1), (2, .ref q2), (3, .ref w2), (4, .int (nI 1)), (5, .long 1099511627776), (7, .int (nI 0)), (8, .int (nI 0))] [] m1 K else WP d 51 [.ref 17, .int (m1.F a1 6), .int (m1.F a1 7), .ref 23] m1 (fun v m18 => ∃ w19, v = some (.long w19) ∧ WH (d + 1) 124 65 [(0, .ref 30), (1, .ref a1), (2, .ref q2), (3, .ref w2), (4, .int (nI 0)), (5, .long w19), (7, .int (nI 0)), (8, .int (nI 0))] [] m18 K)))) : WP (d + 1) 124 [.ref 30, .ref a1, .ref q2] m K := by
  have e_0 : sm_lk (lv_args 0 [.ref 30, .ref a1, .ref q2]) 0 = some (.ref 30) := rfl
  have e_1 : sm_lk (lv_args 0 [.ref 30, .ref a1, .ref q2]) 1 = some (.ref a1) := rfl
  have e_2 : sm_lk (lv_args 0 [.ref 30, .ref a1, .ref q2]) 2 = some (.ref q2) := rfl
  show sm_wp (d + 1) 124 0 (lv_args 0 [.ref 30, .ref a1, .ref q2]) [] (hp m) (WQ K)
  generalize lv_args 0 [.ref 30, .ref a1, .ref q2] = lv0 at *
  refine wl_ald_n (pc' := 1) rfl e_0 rfl ?_
  refine wp_get (v := .ref 23) (pc' := 4) rfl (hq_30 _) rfl rfl ?_
  refine wl_ald_n (pc' := 5) rfl e_1 rfl ?_
  refine wp_get (v := .int (m.F a1 2)) (pc' := 8) rfl (hq_acc h_a1 _) rfl rfl ?_
  refine wl_cv (As := [.ref 23, .int (m.F a1 2)]) (r := []) (pc' := 11) rfl rfl rfl k ?_
  rintro _ m1 ⟨w2, rfl, k3, k⟩
  show sm_wp (d + 1) 124 11 lv0 [.ref w2] (hp m1) (WQ K)
  refine wl_st1 (pc' := 12) (k0 := 3) (v := .ref w2) (r := []) rfl rfl (fun lv4 e5 f6 => ?_)
  have e7 := f6 0 _ e_0 (by decide) rfl
  have e8 := f6 1 _ e_1 (by decide) rfl
  have e9 := f6 2 _ e_2 (by decide) rfl
  refine wl_ald_n (pc' := 13) rfl e8 rfl ?_
  refine wp_get (v := .int (m1.F a1 4)) (pc' := 16) rfl (hq_acc h_a1 _) rfl rfl ?_
  refine wp_p (pc' := 17) (lv' := lv4) (st' := [.int (nI 1), .int (m1.F a1 4)]) rfl rfl ?_
  refine wp_ic_ne (pc' := 20) rfl rfl (fun c10 => ?_) (fun c10 => ?_)
  · replace k := it_f (c := (m1.F a1 4) = (nI 1)) c10 k
    refine wp_p (pc' := 25) (lv' := lv4) (st' := [.int (nI 0)]) rfl rfl ?_
    refine wl_st1 (pc' := 27) (k0 := 4) (v := .int (nI 0)) (r := []) rfl rfl (fun lv11 e12 f13 => ?_)
    have e14 := f13 0 _ e7 (by decide) rfl
    have e15 := f13 1 _ e8 (by decide) rfl
    have e16 := f13 2 _ e9 (by decide) rfl
    have e17 := f13 3 _ e5 (by decide) rfl
    refine wl_ild (pc' := 29) rfl e12 rfl ?_
    refine wp_p (pc' := 38) (lv' := lv11) (st' := []) rfl rfl ?_
    refine wl_ald_n (pc' := 39) rfl e14 rfl ?_
    refine wp_get (v := .ref 17) (pc' := 42) rfl (hq_30 _) rfl rfl ?_
    refine wl_ald_n (pc' := 43) rfl e15 rfl ?_
    refine wp_get (v := .int (m1.F a1 6)) (pc' := 46) rfl (hq_acc h_a1 _) rfl rfl ?_
    refine wl_ald_n (pc' := 47) rfl e15 rfl ?_
    refine wp_get (v := .int (m1.F a1 7)) (pc' := 50) rfl (hq_acc h_a1 _) rfl rfl ?_
    refine wl_ald_n (pc' := 51) rfl e14 rfl ?_
    refine wp_get (v := .ref 23) (pc' := 54) rfl (hq_30 _) rfl rfl ?_
    refine wl_cv (As := [.ref 17, .int (m1.F a1 6), .int (m1.F a1 7), .ref 23]) (r := []) (pc' := 57) rfl rfl rfl k ?_
    rintro _ m18 ⟨w19, rfl, k⟩
    show sm_wp (d + 1) 124 57 lv11 [.long w19] (hp m18) (WQ K)
    refine wl_st2 (pc' := 59) (k0 := 5) (v := .long w19) (r := []) rfl rfl (fun lv20 e21 f22 => ?_)
    have e23 := f22 0 _ e14 (by decide) (by decide) rfl
    have e24 := f22 1 _ e15 (by decide) (by decide) rfl
    have e25 := f22 2 _ e16 (by decide) (by decide) rfl
    have e26 := f22 3 _ e17 (by decide) (by decide) rfl
    have e27 := f22 4 _ e12 (by decide) (by decide) rfl
    refine wp_p (pc' := 60) (lv' := lv20) (st' := [.int (nI 0)]) rfl rfl ?_
    refine wl_st1 (pc' := 62) (k0 := 7) (v := .int (nI 0)) (r := []) rfl rfl (fun lv28 e29 f30 => ?_)
    have e31 := f30 0 _ e23 (by decide) rfl
    have e32 := f30 1 _ e24 (by decide) rfl
    have e33 := f30 2 _ e25 (by decide) rfl
    have e34 := f30 3 _ e26 (by decide) rfl
    have e35 := f30 4 _ e27 (by decide) rfl
    have e36 := f30 5 _ e21 (by decide) rfl
    refine wp_p (pc' := 63) (lv' := lv28) (st' := [.int (nI 0)]) rfl rfl ?_
    refine wl_st1 (pc' := 65) (k0 := 8) (v := .int (nI 0)) (r := []) rfl rfl (fun lv37 e38 f39 => ?_)
    have e40 := f39 0 _ e31 (by decide) rfl
    have e41 := f39 1 _ e32 (by decide) rfl
    have e42 := f39 2 _ e33 (by decide) rfl
    have e43 := f39 3 _ e34 (by decide) rfl
    have e44 := f39 4 _ e35 (by decide) rfl
    have e45 := f39 5 _ e36 (by decide) rfl
    have e46 := f39 7 _ e29 (by decide) rfl
    exact k _ ⟨e40, e41, e42, e43, e44, e45, e46, e38, trivial⟩
  · replace k := it_t (c := (m1.F a1 4) = (nI 1)) c10 k
    refine wp_p (pc' := 21) (lv' := lv4) (st' := [.int (nI 1)]) rfl rfl ?_
    refine wp_p (pc' := 25) (lv' := lv4) (st' := [.int (nI 1)]) rfl rfl ?_
    refine wl_st1 (pc' := 27) (k0 := 4) (v := .int (nI 1)) (r := []) rfl rfl (fun lv47 e48 f49 => ?_)
    have e50 := f49 0 _ e7 (by decide) rfl
    have e51 := f49 1 _ e8 (by decide) rfl
    have e52 := f49 2 _ e9 (by decide) rfl
    have e53 := f49 3 _ e5 (by decide) rfl
    refine wl_ild (pc' := 29) rfl e48 rfl ?_
    refine wp_p (pc' := 32) (lv' := lv47) (st' := []) rfl rfl ?_
    refine wp_p (pc' := 35) (lv' := lv47) (st' := [.long 1099511627776]) rfl rfl ?_
    refine wp_p (pc' := 57) (lv' := lv47) (st' := [.long 1099511627776]) rfl rfl ?_
    refine wl_st2 (pc' := 59) (k0 := 5) (v := .long 1099511627776) (r := []) rfl rfl (fun lv54 e55 f56 => ?_)
    have e57 := f56 0 _ e50 (by decide) (by decide) rfl
    have e58 := f56 1 _ e51 (by decide) (by decide) rfl
    have e59 := f56 2 _ e52 (by decide) (by decide) rfl
    have e60 := f56 3 _ e53 (by decide) (by decide) rfl
    have e61 := f56 4 _ e48 (by decide) (by decide) rfl
    refine wp_p (pc' := 60) (lv' := lv54) (st' := [.int (nI 0)]) rfl rfl ?_
    refine wl_st1 (pc' := 62) (k0 := 7) (v := .int (nI 0)) (r := []) rfl rfl (fun lv62 e63 f64 => ?_)
    have e65 := f64 0 _ e57 (by decide) rfl
    have e66 := f64 1 _ e58 (by decide) rfl
    have e67 := f64 2 _ e59 (by decide) rfl
    have e68 := f64 3 _ e60 (by decide) rfl
    have e69 := f64 4 _ e61 (by decide) rfl
    have e70 := f64 5 _ e55 (by decide) rfl
    refine wp_p (pc' := 63) (lv' := lv62) (st' := [.int (nI 0)]) rfl rfl ?_
    refine wl_st1 (pc' := 65) (k0 := 8) (v := .int (nI 0)) (r := []) rfl rfl (fun lv71 e72 f73 => ?_)
    have e74 := f73 0 _ e65 (by decide) rfl
    have e75 := f73 1 _ e66 (by decide) rfl
    have e76 := f73 2 _ e67 (by decide) rfl
    have e77 := f73 3 _ e68 (by decide) rfl
    have e78 := f73 4 _ e69 (by decide) rfl
    have e79 := f73 5 _ e70 (by decide) rfl
    have e80 := f73 7 _ e63 (by decide) rfl
    exact k _ ⟨e74, e75, e76, e77, e78, e79, e80, e72, trivial⟩
set_option maxRecDepth 20000 in
theorem sg_124_65 {d : Nat} {m : Mm} {K : Option Value → Mm → Prop} (a1 : Nat) (q2 : Nat) (r3 : Nat) (x4 : Int32) (y5 : Int64) (x7 : Int32) (x8 : Int32) (h_a1 : acc a1) (h_q2 : rws q2) (h_r3 : tbl r3) (k : (if (m.F r3 3) ≤ x8 then WH (d + 1) 124 126 [(0, .ref 30), (7, .int x7)] [] m K else (if (nI (m.A q2).length) ≤ x8 then WH (d + 1) 124 126 [(0, .ref 30), (7, .int x7)] [] m K else (if x4 = (nI 0) then (if (lg_cmp y5 1099511627776) = (nI 0) then WH (d + 1) 124 120 [(0, .ref 30), (1, .ref a1), (2, .ref q2), (3, .ref r3), (4, .int x4), (5, .long y5), (7, .int x7), (8, .int x8)] [] m K else WP d 29 [.ref r3, .int x8, .int (m.F a1 5)] m (fun v m5 => ∃ w6, v = some (.long w6) ∧ (if (lg_cmp w6 y5) = (nI 0) then WH (d + 1) 124 111 [(0, .ref 30), (1, .ref a1), (2, .ref q2), (3, .ref r3), (4, .int x4), (5, .long y5), (7, .int x7), (8, .int x8)] [] m5 K else WH (d + 1) 124 120 [(0, .ref 30), (1, .ref a1), (2, .ref q2), (3, .ref r3), (4, .int x4), (5, .long y5), (7, .int x7), (8, .int x8)] [] m5 K))) else WH (d + 1) 124 111 [(0, .ref 30), (1, .ref a1), (2, .ref q2), (3, .ref r3), (4, .int x4), (5, .long y5), (7, .int x7), (8, .int x8)] [] m K)))) : WH (d + 1) 124 65 [(0, .ref 30), (1, .ref a1), (2, .ref q2), (3, .ref r3), (4, .int x4), (5, .long y5), (7, .int x7), (8, .int x8)] [] m K := by
  intro lv0 el
  obtain ⟨e_0, e_1, e_2, e_3, e_4, e_5, e_7, e_8, _⟩ := el
  refine wl_ild (pc' := 67) rfl e_8 rfl ?_
  refine wl_ald_n (pc' := 68) rfl e_3 rfl ?_
  refine wp_get (v := .int (m.F r3 3)) (pc' := 71) rfl (hq_tbl h_r3 _) rfl rfl ?_
  refine wp_ic_ge (pc' := 74) rfl rfl (fun c1 => ?_) (fun c1 => ?_)
  · replace k := it_t (c := (m.F r3 3) ≤ x8) c1 k
    exact k _ ⟨e_0, e_7, trivial⟩
  · replace k := it_f (c := (m.F r3 3) ≤ x8) c1 k
    refine wl_ild (pc' := 76) rfl e_8 rfl ?_
    refine wl_ald_n (pc' := 77) rfl e_2 rfl ?_
    refine wl_len (pc' := 78) (v := nI (m.A q2).length) rfl (hq_rws h_q2 _) rfl rfl rfl ?_
    refine wp_ic_ge (pc' := 81) rfl rfl (fun c2 => ?_) (fun c2 => ?_)
    · replace k := it_t (c := (nI (m.A q2).length) ≤ x8) c2 k
      exact k _ ⟨e_0, e_7, trivial⟩
    · replace k := it_f (c := (nI (m.A q2).length) ≤ x8) c2 k
      refine wl_ild (pc' := 83) rfl e_4 rfl ?_
      refine wp_if_ne (pc' := 86) rfl rfl (fun c3 => ?_) (fun c3 => ?_)
      · replace k := it_f (c := x4 = (nI 0)) c3 k
        exact k _ ⟨e_0, e_1, e_2, e_3, e_4, e_5, e_7, e_8, trivial⟩
      · replace k := it_t (c := x4 = (nI 0)) c3 k
        refine wl_lld (pc' := 88) rfl e_5 rfl ?_
        refine wp_p (pc' := 91) (lv' := lv0) (st' := [.long 1099511627776, .long y5]) rfl rfl ?_
        refine wp_lcmp (v := lg_cmp y5 1099511627776) (pc' := 92) rfl rfl rfl ?_
        refine wp_if_eq (pc' := 95) rfl rfl (fun c4 => ?_) (fun c4 => ?_)
        · replace k := it_t (c := (lg_cmp y5 1099511627776) = (nI 0)) c4 k
          exact k _ ⟨e_0, e_1, e_2, e_3, e_4, e_5, e_7, e_8, trivial⟩
        · replace k := it_f (c := (lg_cmp y5 1099511627776) = (nI 0)) c4 k
          refine wl_ald_n (pc' := 96) rfl e_3 rfl ?_
          refine wl_ild (pc' := 98) rfl e_8 rfl ?_
          refine wl_ald_n (pc' := 99) rfl e_1 rfl ?_
          refine wp_get (v := .int (m.F a1 5)) (pc' := 102) rfl (hq_acc h_a1 _) rfl rfl ?_
          refine wl_cv (As := [.ref r3, .int x8, .int (m.F a1 5)]) (r := []) (pc' := 105) rfl (sm_inv_tbl h_r3 _ rfl rfl rfl) rfl k ?_
          rintro _ m5 ⟨w6, rfl, k⟩
          show sm_wp (d + 1) 124 105 lv0 [.long w6] (hp m5) (WQ K)
          refine wl_lld (pc' := 107) rfl e_5 rfl ?_
          refine wp_lcmp (v := lg_cmp w6 y5) (pc' := 108) rfl rfl rfl ?_
          refine wp_if_ne (pc' := 111) rfl rfl (fun c7 => ?_) (fun c7 => ?_)
          · replace k := it_f (c := (lg_cmp w6 y5) = (nI 0)) c7 k
            exact k _ ⟨e_0, e_1, e_2, e_3, e_4, e_5, e_7, e_8, trivial⟩
          · replace k := it_t (c := (lg_cmp w6 y5) = (nI 0)) c7 k
            exact k _ ⟨e_0, e_1, e_2, e_3, e_4, e_5, e_7, e_8, trivial⟩
set_option maxRecDepth 20000 in
theorem sg_124_126 {d : Nat} {m : Mm} {K : Option Value → Mm → Prop} (x7 : Int32) (k : K (some (.int x7)) (m.uF 30 14 ((m.F 30 14) + x7))) : WH d 124 126 [(0, .ref 30), (7, .int x7)] [] m K := by
  intro lv0 el
  obtain ⟨e_0, e_7, _⟩ := el
  refine wl_ald_n (pc' := 127) rfl e_0 rfl ?_
  refine wp_p (pc' := 128) (lv' := lv0) (st' := [.ref 30, .ref 30]) rfl rfl ?_
  refine wp_get (v := .int (m.F 30 14)) (pc' := 131) rfl (hq_30 _) rfl rfl ?_
  refine wl_ild (pc' := 133) rfl e_7 rfl ?_
  refine wp_iadd (v := (m.F 30 14) + x7) (pc' := 134) rfl rfl rfl ?_
  refine wl_put (pc' := 137) (h2 := hp (m.uF 30 14 ((m.F 30 14) + x7))) rfl (hq_30 _) rfl rfl rfl (pf_30_14 _ _) ?_
  refine wl_ild (pc' := 139) rfl e_7 rfl ?_
  exact wl_ret rfl rfl ⟨_, rfl, k⟩
set_option maxRecDepth 20000 in
theorem sg_124_111 {d : Nat} {m : Mm} {K : Option Value → Mm → Prop} (a1 : Nat) (q2 : Nat) (r3 : Nat) (x4 : Int32) (y5 : Int64) (x7 : Int32) (x8 : Int32) (h_a1 : acc a1) (h_q2 : rws q2) (h_r3 : tbl r3) (k : ok (m.A q2).length x7 ∧ WH d 124 120 [(0, .ref 30), (1, .ref a1), (2, .ref q2), (3, .ref r3), (4, .int x4), (5, .long y5), (7, .int (x7 + nI 1)), (8, .int x8)] [] (m.uA q2 ((m.A q2).set (ix x7) x8)) K) : WH d 124 111 [(0, .ref 30), (1, .ref a1), (2, .ref q2), (3, .ref r3), (4, .int x4), (5, .long y5), (7, .int x7), (8, .int x8)] [] m K := by
  intro lv0 el
  obtain ⟨e_0, e_1, e_2, e_3, e_4, e_5, e_7, e_8, _⟩ := el
  refine wl_ald_n (pc' := 112) rfl e_2 rfl ?_
  refine wl_ild (pc' := 114) rfl e_7 rfl ?_
  refine wl_ild (pc' := 116) rfl e_8 rfl ?_
  obtain ⟨k1, k⟩ := k
  refine wl_iastore (g := m.A q2) (pc' := 117) (h2 := hp (m.uA q2 ((m.A q2).set (ix x7) x8))) rfl (hq_rws h_q2 _) k1 rfl (pa_rws h_q2 _ _) ?_
  refine wl_iinc (pc' := 120) (v := x7 + nI 1) rfl e_7 rfl rfl rfl (fun lv2 e3 f4 => ?_)
  have e5 := f4 0 _ e_0 (by decide) rfl
  have e6 := f4 1 _ e_1 (by decide) rfl
  have e7 := f4 2 _ e_2 (by decide) rfl
  have e8 := f4 3 _ e_3 (by decide) rfl
  have e9 := f4 4 _ e_4 (by decide) rfl
  have e10 := f4 5 _ e_5 (by decide) rfl
  have e11 := f4 8 _ e_8 (by decide) rfl
  exact k _ ⟨e5, e6, e7, e8, e9, e10, e3, e11, trivial⟩
set_option maxRecDepth 20000 in
theorem sg_124_120 {d : Nat} {m : Mm} {K : Option Value → Mm → Prop} (a1 : Nat) (q2 : Nat) (r3 : Nat) (x4 : Int32) (y5 : Int64) (x7 : Int32) (x8 : Int32) (h_a1 : acc a1) (h_q2 : rws q2) (h_r3 : tbl r3) (k : WH d 124 65 [(0, .ref 30), (1, .ref a1), (2, .ref q2), (3, .ref r3), (4, .int x4), (5, .long y5), (7, .int x7), (8, .int (x8 + nI 1))] [] m K) : WH d 124 120 [(0, .ref 30), (1, .ref a1), (2, .ref q2), (3, .ref r3), (4, .int x4), (5, .long y5), (7, .int x7), (8, .int x8)] [] m K := by
  intro lv0 el
  obtain ⟨e_0, e_1, e_2, e_3, e_4, e_5, e_7, e_8, _⟩ := el
  refine wl_iinc (pc' := 123) (v := x8 + nI 1) rfl e_8 rfl rfl rfl (fun lv1 e2 f3 => ?_)
  have e4 := f3 0 _ e_0 (by decide) rfl
  have e5 := f3 1 _ e_1 (by decide) rfl
  have e6 := f3 2 _ e_2 (by decide) rfl
  have e7 := f3 3 _ e_3 (by decide) rfl
  have e8 := f3 4 _ e_4 (by decide) rfl
  have e9 := f3 5 _ e_5 (by decide) rfl
  have e10 := f3 7 _ e_7 (by decide) rfl
  refine wp_p (pc' := 65) (lv' := lv1) (st' := []) rfl rfl ?_
  exact k _ ⟨e4, e5, e6, e7, e8, e9, e10, e2, trivial⟩
/-! 125: QueryTables$Search.outerRowHolds -/
set_option maxRecDepth 20000 in
theorem sp_125 {d : Nat} {m : Mm} {K : Option Value → Mm → Prop} (k : WH d 125 2 [(0, .ref 30), (1, .int (nI 0))] [] m K) : WP d 125 [.ref 30] m K := by
  have e_0 : sm_lk (lv_args 0 [.ref 30]) 0 = some (.ref 30) := rfl
  show sm_wp d 125 0 (lv_args 0 [.ref 30]) [] (hp m) (WQ K)
  generalize lv_args 0 [.ref 30] = lv0 at *
  refine wp_p (pc' := 1) (lv' := lv0) (st' := [.int (nI 0)]) rfl rfl ?_
  refine wl_st1 (pc' := 2) (k0 := 1) (v := .int (nI 0)) (r := []) rfl rfl (fun lv1 e2 f3 => ?_)
  have e4 := f3 0 _ e_0 (by decide) rfl
  exact k _ ⟨e4, e2, trivial⟩
set_option maxRecDepth 20000 in
theorem sg_125_2 {d : Nat} {m : Mm} {K : Option Value → Mm → Prop} (x1 : Int32) (k : (if (m.F 12 16) ≤ x1 then K (some (.int (nI 1))) m else ok (m.A 14).length x1 ∧ ok (m.A 16).length x1 ∧ WP d 49 [.ref 17, .int ((m.A 14).getD (ix x1) 0), .int ((m.A 16).getD (ix x1) 0)] m (fun v m15 => ∃ w16, v = some (.int w16) ∧ acc (m15.R 30 13) ∧ (if (w16 &&& ((nI 1) <<< ((m15.F (m15.R 30 13) 2) &&& 31))) = (nI 0) then WP d 51 [.ref 17, .int ((m.A 14).getD (ix x1) 0), .int ((m.A 16).getD (ix x1) 0), .ref 23] m15 (fun v m26 => ∃ w27, v = some (.long w27) ∧ (if (lg_cmp w27 2) = (nI 0) then WH (d + 1) 125 2 [(0, .ref 30), (1, .int (x1 + nI 1))] [] m26 K else K (some (.int (nI 0))) m26)) else WH (d + 1) 125 2 [(0, .ref 30), (1, .int (x1 + nI 1))] [] m15 K)))) : WH (d + 1) 125 2 [(0, .ref 30), (1, .int x1)] [] m K := by
  intro lv0 el
  obtain ⟨e_0, e_1, _⟩ := el
  refine wl_ild_n (pc' := 3) rfl e_1 rfl ?_
  refine wl_ald_n (pc' := 4) rfl e_0 rfl ?_
  refine wp_get (v := .ref 12) (pc' := 7) rfl (hq_30 _) rfl rfl ?_
  refine wp_get (v := .int (m.F 12 16)) (pc' := 10) rfl (hq_12 _) rfl rfl ?_
  refine wp_ic_ge (pc' := 13) rfl rfl (fun c1 => ?_) (fun c1 => ?_)
  · replace k := it_t (c := (m.F 12 16) ≤ x1) c1 k
    refine wp_p (pc' := 96) (lv' := lv0) (st' := [.int (nI 1)]) rfl rfl ?_
    exact wl_ret rfl rfl ⟨_, rfl, k⟩
  · replace k := it_f (c := (m.F 12 16) ≤ x1) c1 k
    refine wl_ald_n (pc' := 14) rfl e_0 rfl ?_
    refine wp_get (v := .ref 12) (pc' := 17) rfl (hq_30 _) rfl rfl ?_
    refine wp_get (v := .ref 14) (pc' := 20) rfl (hq_12 _) rfl rfl ?_
    refine wl_ild_n (pc' := 21) rfl e_1 rfl ?_
    obtain ⟨k2, k⟩ := k
    refine wl_iaload (g := m.A 14) (pc' := 22) rfl (hq_14 _) k2 rfl ?_
    refine wl_st1 (pc' := 23) (k0 := 2) (v := .int ((m.A 14).getD (ix x1) 0)) (r := []) rfl rfl (fun lv3 e4 f5 => ?_)
    have e6 := f5 0 _ e_0 (by decide) rfl
    have e7 := f5 1 _ e_1 (by decide) rfl
    refine wl_ald_n (pc' := 24) rfl e6 rfl ?_
    refine wp_get (v := .ref 12) (pc' := 27) rfl (hq_30 _) rfl rfl ?_
    refine wp_get (v := .ref 16) (pc' := 30) rfl (hq_12 _) rfl rfl ?_
    refine wl_ild_n (pc' := 31) rfl e7 rfl ?_
    obtain ⟨k8, k⟩ := k
    refine wl_iaload (g := m.A 16) (pc' := 32) rfl (hq_16 _) k8 rfl ?_
    refine wl_st1 (pc' := 33) (k0 := 3) (v := .int ((m.A 16).getD (ix x1) 0)) (r := []) rfl rfl (fun lv9 e10 f11 => ?_)
    have e12 := f11 0 _ e6 (by decide) rfl
    have e13 := f11 1 _ e7 (by decide) rfl
    have e14 := f11 2 _ e4 (by decide) rfl
    refine wl_ald_n (pc' := 34) rfl e12 rfl ?_
    refine wp_get (v := .ref 17) (pc' := 37) rfl (hq_30 _) rfl rfl ?_
    refine wl_ild_n (pc' := 38) rfl e14 rfl ?_
    refine wl_ild_n (pc' := 39) rfl e10 rfl ?_
    refine wl_cv (As := [.ref 17, .int ((m.A 14).getD (ix x1) 0), .int ((m.A 16).getD (ix x1) 0)]) (r := []) (pc' := 42) rfl rfl rfl k ?_
    rintro _ m15 ⟨w16, rfl, k⟩
    show sm_wp (d + 1) 125 42 lv9 [.int w16] (hp m15) (WQ K)
    refine wp_p (pc' := 43) (lv' := lv9) (st' := [.int (nI 1), .int w16]) rfl rfl ?_
    refine wl_ald_n (pc' := 44) rfl e12 rfl ?_
    refine wp_get (v := .ref (m15.R 30 13)) (pc' := 47) rfl (hq_30 _) rfl rfl ?_
    obtain ⟨k17, k⟩ := k
    refine wp_get (v := .int (m15.F (m15.R 30 13) 2)) (pc' := 50) rfl (hq_acc k17 _) rfl rfl ?_
    refine wp_ishl (v := (nI 1) <<< ((m15.F (m15.R 30 13) 2) &&& 31)) (pc' := 51) rfl rfl rfl ?_
    refine wp_iand (v := w16 &&& ((nI 1) <<< ((m15.F (m15.R 30 13) 2) &&& 31))) (pc' := 52) rfl rfl rfl ?_
    refine wp_if_eq (pc' := 55) rfl rfl (fun c18 => ?_) (fun c18 => ?_)
    · replace k := it_t (c := (w16 &&& ((nI 1) <<< ((m15.F (m15.R 30 13) 2) &&& 31))) = (nI 0)) c18 k
      refine wp_p (pc' := 60) (lv' := lv9) (st' := [.int (nI 0)]) rfl rfl ?_
      refine wl_st1 (pc' := 62) (k0 := 4) (v := .int (nI 0)) (r := []) rfl rfl (fun lv19 e20 f21 => ?_)
      have e22 := f21 0 _ e12 (by decide) rfl
      have e23 := f21 1 _ e13 (by decide) rfl
      have e24 := f21 2 _ e14 (by decide) rfl
      have e25 := f21 3 _ e10 (by decide) rfl
      refine wl_ild (pc' := 64) rfl e20 rfl ?_
      refine wp_p (pc' := 67) (lv' := lv19) (st' := []) rfl rfl ?_
      refine wl_ald_n (pc' := 68) rfl e22 rfl ?_
      refine wp_get (v := .ref 17) (pc' := 71) rfl (hq_30 _) rfl rfl ?_
      refine wl_ild_n (pc' := 72) rfl e24 rfl ?_
      refine wl_ild_n (pc' := 73) rfl e25 rfl ?_
      refine wl_ald_n (pc' := 74) rfl e22 rfl ?_
      refine wp_get (v := .ref 23) (pc' := 77) rfl (hq_30 _) rfl rfl ?_
      refine wl_cv (As := [.ref 17, .int ((m.A 14).getD (ix x1) 0), .int ((m.A 16).getD (ix x1) 0), .ref 23]) (r := []) (pc' := 80) rfl rfl rfl k ?_
      rintro _ m26 ⟨w27, rfl, k⟩
      show sm_wp (d + 1) 125 80 lv19 [.long w27] (hp m26) (WQ K)
      refine wp_p (pc' := 83) (lv' := lv19) (st' := [.long 2, .long w27]) rfl rfl ?_
      refine wp_lcmp (v := lg_cmp w27 2) (pc' := 84) rfl rfl rfl ?_
      refine wp_if_eq (pc' := 87) rfl rfl (fun c28 => ?_) (fun c28 => ?_)
      · replace k := it_t (c := (lg_cmp w27 2) = (nI 0)) c28 k
        refine wl_iinc (pc' := 92) (v := x1 + nI 1) rfl e23 rfl rfl rfl (fun lv29 e30 f31 => ?_)
        have e32 := f31 0 _ e22 (by decide) rfl
        have e33 := f31 2 _ e24 (by decide) rfl
        have e34 := f31 3 _ e25 (by decide) rfl
        have e35 := f31 4 _ e20 (by decide) rfl
        refine wp_p (pc' := 2) (lv' := lv29) (st' := []) rfl rfl ?_
        exact k _ ⟨e32, e30, trivial⟩
      · replace k := it_f (c := (lg_cmp w27 2) = (nI 0)) c28 k
        refine wp_p (pc' := 88) (lv' := lv19) (st' := [.int (nI 0)]) rfl rfl ?_
        exact wl_ret rfl rfl ⟨_, rfl, k⟩
    · replace k := it_f (c := (w16 &&& ((nI 1) <<< ((m15.F (m15.R 30 13) 2) &&& 31))) = (nI 0)) c18 k
      refine wp_p (pc' := 56) (lv' := lv9) (st' := [.int (nI 1)]) rfl rfl ?_
      refine wp_p (pc' := 60) (lv' := lv9) (st' := [.int (nI 1)]) rfl rfl ?_
      refine wl_st1 (pc' := 62) (k0 := 4) (v := .int (nI 1)) (r := []) rfl rfl (fun lv36 e37 f38 => ?_)
      have e39 := f38 0 _ e12 (by decide) rfl
      have e40 := f38 1 _ e13 (by decide) rfl
      have e41 := f38 2 _ e14 (by decide) rfl
      have e42 := f38 3 _ e10 (by decide) rfl
      refine wl_ild (pc' := 64) rfl e37 rfl ?_
      refine wp_p (pc' := 89) (lv' := lv36) (st' := []) rfl rfl ?_
      refine wl_iinc (pc' := 92) (v := x1 + nI 1) rfl e40 rfl rfl rfl (fun lv43 e44 f45 => ?_)
      have e46 := f45 0 _ e39 (by decide) rfl
      have e47 := f45 2 _ e41 (by decide) rfl
      have e48 := f45 3 _ e42 (by decide) rfl
      have e49 := f45 4 _ e37 (by decide) rfl
      refine wp_p (pc' := 2) (lv' := lv43) (st' := []) rfl rfl ?_
      exact k _ ⟨e46, e44, trivial⟩
/-! 126: QueryTables$Search.keepIfFound -/
set_option maxRecDepth 20000 in
theorem sp_126 {d : Nat} {m : Mm} {K : Option Value → Mm → Prop} (k : WP d 66 [.ref 12] m (fun v m1 => ∃ w2, v = some (.int w2) ∧ (if w2 = (nI 0) then WH (d + 1) 126 43 [(0, .ref 30)] [] m1 K else WP d 51 [.ref 17, .int (m1.F 12 10), .int (m1.F 12 11), .ref 23] m1 (fun v m4 => ∃ w5, v = some (.long w5) ∧ (if (lg_cmp w5 2) = (nI 0) then WH (d + 1) 126 43 [(0, .ref 30)] [] m4 K else K none m4))))) : WP (d + 1) 126 [.ref 30] m K := by
  have e_0 : sm_lk (lv_args 0 [.ref 30]) 0 = some (.ref 30) := rfl
  show sm_wp (d + 1) 126 0 (lv_args 0 [.ref 30]) [] (hp m) (WQ K)
  generalize lv_args 0 [.ref 30] = lv0 at *
  refine wl_ald_n (pc' := 1) rfl e_0 rfl ?_
  refine wp_get (v := .ref 12) (pc' := 4) rfl (hq_30 _) rfl rfl ?_
  refine wl_cv (As := [.ref 12]) (r := []) (pc' := 7) rfl rfl rfl k ?_
  rintro _ m1 ⟨w2, rfl, k⟩
  show sm_wp (d + 1) 126 7 lv0 [.int w2] (hp m1) (WQ K)
  refine wp_if_eq (pc' := 10) rfl rfl (fun c3 => ?_) (fun c3 => ?_)
  · replace k := it_t (c := w2 = (nI 0)) c3 k
    exact k _ ⟨e_0, trivial⟩
  · replace k := it_f (c := w2 = (nI 0)) c3 k
    refine wl_ald_n (pc' := 11) rfl e_0 rfl ?_
    refine wp_get (v := .ref 17) (pc' := 14) rfl (hq_30 _) rfl rfl ?_
    refine wl_ald_n (pc' := 15) rfl e_0 rfl ?_
    refine wp_get (v := .ref 12) (pc' := 18) rfl (hq_30 _) rfl rfl ?_
    refine wp_get (v := .int (m1.F 12 10)) (pc' := 21) rfl (hq_12 _) rfl rfl ?_
    refine wl_ald_n (pc' := 22) rfl e_0 rfl ?_
    refine wp_get (v := .ref 12) (pc' := 25) rfl (hq_30 _) rfl rfl ?_
    refine wp_get (v := .int (m1.F 12 11)) (pc' := 28) rfl (hq_12 _) rfl rfl ?_
    refine wl_ald_n (pc' := 29) rfl e_0 rfl ?_
    refine wp_get (v := .ref 23) (pc' := 32) rfl (hq_30 _) rfl rfl ?_
    refine wl_cv (As := [.ref 17, .int (m1.F 12 10), .int (m1.F 12 11), .ref 23]) (r := []) (pc' := 35) rfl rfl rfl k ?_
    rintro _ m4 ⟨w5, rfl, k⟩
    show sm_wp (d + 1) 126 35 lv0 [.long w5] (hp m4) (WQ K)
    refine wp_p (pc' := 38) (lv' := lv0) (st' := [.long 2, .long w5]) rfl rfl ?_
    refine wp_lcmp (v := lg_cmp w5 2) (pc' := 39) rfl rfl rfl ?_
    refine wp_if_eq (pc' := 42) rfl rfl (fun c6 => ?_) (fun c6 => ?_)
    · replace k := it_t (c := (lg_cmp w5 2) = (nI 0)) c6 k
      exact k _ ⟨e_0, trivial⟩
    · replace k := it_f (c := (lg_cmp w5 2) = (nI 0)) c6 k
      exact wp_r rfl rfl ⟨_, rfl, k⟩
set_option maxRecDepth 20000 in
theorem sg_126_43 {d : Nat} {m : Mm} {K : Option Value → Mm → Prop} (k : (if (nI 60) ≤ (m.F 30 15) then WH (d + 1) 126 117 [(0, .ref 30)] [] m K else WP d 67 [.ref 12] m (fun v m2 => ∃ w3, v = some (.int w3) ∧ (if w3 = (nI 0) then WP d 127 [.ref 30, .long 0] m2 (fun v m9 => ∃ w10, v = some (.long w10) ∧ WP d 42 [.ref 23, .int (nI 0)] m9 (fun v m11 => ∃ w12, v = some (.int w12) ∧ WP d 42 [.ref 23, .int (nI 1)] m11 (fun v m13 => ∃ w14, v = some (.int w14) ∧ WP d 128 [.ref 30, .long w10, .int w12, .int w14] m13 (fun v m15 => v = none ∧ WH (d + 1) 126 117 [(0, .ref 30)] [] m15 K)))) else WP d 51 [.ref 17, .int (m2.F 12 12), .int (m2.F 12 13), .ref 23] m2 (fun v m16 => ∃ w17, v = some (.long w17) ∧ WP d 127 [.ref 30, .long w17] m16 (fun v m22 => ∃ w23, v = some (.long w23) ∧ WP d 42 [.ref 23, .int (nI 0)] m22 (fun v m24 => ∃ w25, v = some (.int w25) ∧ WP d 42 [.ref 23, .int (nI 1)] m24 (fun v m26 => ∃ w27, v = some (.int w27) ∧ WP d 128 [.ref 30, .long w23, .int w25, .int w27] m26 (fun v m28 => v = none ∧ WH (d + 1) 126 117 [(0, .ref 30)] [] m28 K))))))))) : WH (d + 1) 126 43 [(0, .ref 30)] [] m K := by
  intro lv0 el
  obtain ⟨e_0, _⟩ := el
  refine wl_ald_n (pc' := 44) rfl e_0 rfl ?_
  refine wp_get (v := .int (m.F 30 15)) (pc' := 47) rfl (hq_30 _) rfl rfl ?_
  refine wp_p (pc' := 49) (lv' := lv0) (st' := [.int (nI 60), .int (m.F 30 15)]) rfl rfl ?_
  refine wp_ic_ge (pc' := 52) rfl rfl (fun c1 => ?_) (fun c1 => ?_)
  · replace k := it_t (c := (nI 60) ≤ (m.F 30 15)) c1 k
    exact k _ ⟨e_0, trivial⟩
  · replace k := it_f (c := (nI 60) ≤ (m.F 30 15)) c1 k
    refine wl_ald_n (pc' := 53) rfl e_0 rfl ?_
    refine wp_get (v := .ref 12) (pc' := 56) rfl (hq_30 _) rfl rfl ?_
    refine wl_cv (As := [.ref 12]) (r := []) (pc' := 59) rfl rfl rfl k ?_
    rintro _ m2 ⟨w3, rfl, k⟩
    show sm_wp (d + 1) 126 59 lv0 [.int w3] (hp m2) (WQ K)
    refine wp_if_eq (pc' := 62) rfl rfl (fun c4 => ?_) (fun c4 => ?_)
    · replace k := it_t (c := w3 = (nI 0)) c4 k
      refine wp_p (pc' := 91) (lv' := lv0) (st' := [.long 0]) rfl rfl ?_
      refine wl_st2 (pc' := 92) (k0 := 1) (v := .long 0) (r := []) rfl rfl (fun lv5 e6 f7 => ?_)
      have e8 := f7 0 _ e_0 (by decide) (by decide) rfl
      refine wl_ald_n (pc' := 93) rfl e8 rfl ?_
      refine wl_ald_n (pc' := 94) rfl e8 rfl ?_
      refine wl_lld_n (pc' := 95) rfl e6 rfl ?_
      refine wl_cv (As := [.ref 30, .long 0]) (r := [.ref 30]) (pc' := 98) rfl rfl rfl k ?_
      rintro _ m9 ⟨w10, rfl, k⟩
      show sm_wp (d + 1) 126 98 lv5 [.long w10, .ref 30] (hp m9) (WQ K)
      refine wl_ald_n (pc' := 99) rfl e8 rfl ?_
      refine wp_get (v := .ref 23) (pc' := 102) rfl (hq_30 _) rfl rfl ?_
      refine wp_p (pc' := 103) (lv' := lv5) (st' := [.int (nI 0), .ref 23, .long w10, .ref 30]) rfl rfl ?_
      refine wl_cv (As := [.ref 23, .int (nI 0)]) (r := [.long w10, .ref 30]) (pc' := 106) rfl rfl rfl k ?_
      rintro _ m11 ⟨w12, rfl, k⟩
      show sm_wp (d + 1) 126 106 lv5 [.int w12, .long w10, .ref 30] (hp m11) (WQ K)
      refine wl_ald_n (pc' := 107) rfl e8 rfl ?_
      refine wp_get (v := .ref 23) (pc' := 110) rfl (hq_30 _) rfl rfl ?_
      refine wp_p (pc' := 111) (lv' := lv5) (st' := [.int (nI 1), .ref 23, .int w12, .long w10, .ref 30]) rfl rfl ?_
      refine wl_cv (As := [.ref 23, .int (nI 1)]) (r := [.int w12, .long w10, .ref 30]) (pc' := 114) rfl rfl rfl k ?_
      rintro _ m13 ⟨w14, rfl, k⟩
      show sm_wp (d + 1) 126 114 lv5 [.int w14, .int w12, .long w10, .ref 30] (hp m13) (WQ K)
      refine wl_cv (As := [.ref 30, .long w10, .int w12, .int w14]) (r := []) (pc' := 117) rfl rfl rfl k ?_
      rintro _ m15 ⟨rfl, k⟩
      show sm_wp (d + 1) 126 117 lv5 [] (hp m15) (WQ K)
      exact k _ ⟨e8, trivial⟩
    · replace k := it_f (c := w3 = (nI 0)) c4 k
      refine wl_ald_n (pc' := 63) rfl e_0 rfl ?_
      refine wp_get (v := .ref 17) (pc' := 66) rfl (hq_30 _) rfl rfl ?_
      refine wl_ald_n (pc' := 67) rfl e_0 rfl ?_
      refine wp_get (v := .ref 12) (pc' := 70) rfl (hq_30 _) rfl rfl ?_
      refine wp_get (v := .int (m2.F 12 12)) (pc' := 73) rfl (hq_12 _) rfl rfl ?_
      refine wl_ald_n (pc' := 74) rfl e_0 rfl ?_
      refine wp_get (v := .ref 12) (pc' := 77) rfl (hq_30 _) rfl rfl ?_
      refine wp_get (v := .int (m2.F 12 13)) (pc' := 80) rfl (hq_12 _) rfl rfl ?_
      refine wl_ald_n (pc' := 81) rfl e_0 rfl ?_
      refine wp_get (v := .ref 23) (pc' := 84) rfl (hq_30 _) rfl rfl ?_
      refine wl_cv (As := [.ref 17, .int (m2.F 12 12), .int (m2.F 12 13), .ref 23]) (r := []) (pc' := 87) rfl rfl rfl k ?_
      rintro _ m16 ⟨w17, rfl, k⟩
      show sm_wp (d + 1) 126 87 lv0 [.long w17] (hp m16) (WQ K)
      refine wp_p (pc' := 91) (lv' := lv0) (st' := [.long w17]) rfl rfl ?_
      refine wl_st2 (pc' := 92) (k0 := 1) (v := .long w17) (r := []) rfl rfl (fun lv18 e19 f20 => ?_)
      have e21 := f20 0 _ e_0 (by decide) (by decide) rfl
      refine wl_ald_n (pc' := 93) rfl e21 rfl ?_
      refine wl_ald_n (pc' := 94) rfl e21 rfl ?_
      refine wl_lld_n (pc' := 95) rfl e19 rfl ?_
      refine wl_cv (As := [.ref 30, .long w17]) (r := [.ref 30]) (pc' := 98) rfl rfl rfl k ?_
      rintro _ m22 ⟨w23, rfl, k⟩
      show sm_wp (d + 1) 126 98 lv18 [.long w23, .ref 30] (hp m22) (WQ K)
      refine wl_ald_n (pc' := 99) rfl e21 rfl ?_
      refine wp_get (v := .ref 23) (pc' := 102) rfl (hq_30 _) rfl rfl ?_
      refine wp_p (pc' := 103) (lv' := lv18) (st' := [.int (nI 0), .ref 23, .long w23, .ref 30]) rfl rfl ?_
      refine wl_cv (As := [.ref 23, .int (nI 0)]) (r := [.long w23, .ref 30]) (pc' := 106) rfl rfl rfl k ?_
      rintro _ m24 ⟨w25, rfl, k⟩
      show sm_wp (d + 1) 126 106 lv18 [.int w25, .long w23, .ref 30] (hp m24) (WQ K)
      refine wl_ald_n (pc' := 107) rfl e21 rfl ?_
      refine wp_get (v := .ref 23) (pc' := 110) rfl (hq_30 _) rfl rfl ?_
      refine wp_p (pc' := 111) (lv' := lv18) (st' := [.int (nI 1), .ref 23, .int w25, .long w23, .ref 30]) rfl rfl ?_
      refine wl_cv (As := [.ref 23, .int (nI 1)]) (r := [.int w25, .long w23, .ref 30]) (pc' := 114) rfl rfl rfl k ?_
      rintro _ m26 ⟨w27, rfl, k⟩
      show sm_wp (d + 1) 126 114 lv18 [.int w27, .int w25, .long w23, .ref 30] (hp m26) (WQ K)
      refine wl_cv (As := [.ref 30, .long w23, .int w25, .int w27]) (r := []) (pc' := 117) rfl rfl rfl k ?_
      rintro _ m28 ⟨rfl, k⟩
      show sm_wp (d + 1) 126 117 lv18 [] (hp m28) (WQ K)
      exact k _ ⟨e21, trivial⟩
set_option maxRecDepth 20000 in
theorem sg_126_117 {d : Nat} {m : Mm} {K : Option Value → Mm → Prop} (k : K none (m.uF 30 15 ((m.F 30 15) + (nI 1)))) : WH d 126 117 [(0, .ref 30)] [] m K := by
  intro lv0 el
  obtain ⟨e_0, _⟩ := el
  refine wl_ald_n (pc' := 118) rfl e_0 rfl ?_
  refine wp_p (pc' := 119) (lv' := lv0) (st' := [.ref 30, .ref 30]) rfl rfl ?_
  refine wp_get (v := .int (m.F 30 15)) (pc' := 122) rfl (hq_30 _) rfl rfl ?_
  refine wp_p (pc' := 123) (lv' := lv0) (st' := [.int (nI 1), .int (m.F 30 15), .ref 30]) rfl rfl ?_
  refine wp_iadd (v := (m.F 30 15) + (nI 1)) (pc' := 124) rfl rfl rfl ?_
  refine wl_put (pc' := 127) (h2 := hp (m.uF 30 15 ((m.F 30 15) + (nI 1)))) rfl (hq_30 _) rfl rfl rfl (pf_30_15 _ _) ?_
  exact wp_r rfl rfl ⟨_, rfl, k⟩
/-! 127: QueryTables$Search.rank -/
set_option maxRecDepth 20000 in
theorem sp_127 {d : Nat} {m : Mm} {K : Option Value → Mm → Prop} (y1 : Int64) (k : (if (lg_cmp y1 1099511627776) = (nI 0) then (if (m.F 12 14) = (nI 0) then K (some (.long (-1099511627776))) m else K (some (.long 1099511627776)) m) else (if (m.F 12 14) = (nI 0) then K (some (.long y1)) m else K (some (.long (-y1))) m))) : WP d 127 [.ref 30, .long y1] m K := by
  have e_0 : sm_lk (lv_args 0 [.ref 30, .long y1]) 0 = some (.ref 30) := rfl
  have e_1 : sm_lk (lv_args 0 [.ref 30, .long y1]) 1 = some (.long y1) := rfl
  show sm_wp d 127 0 (lv_args 0 [.ref 30, .long y1]) [] (hp m) (WQ K)
  generalize lv_args 0 [.ref 30, .long y1] = lv0 at *
  refine wl_lld_n (pc' := 1) rfl e_1 rfl ?_
  refine wp_p (pc' := 4) (lv' := lv0) (st' := [.long 1099511627776, .long y1]) rfl rfl ?_
  refine wp_lcmp (v := lg_cmp y1 1099511627776) (pc' := 5) rfl rfl rfl ?_
  refine wp_if_ne (pc' := 8) rfl rfl (fun c1 => ?_) (fun c1 => ?_)
  · replace k := it_f (c := (lg_cmp y1 1099511627776) = (nI 0)) c1 k
    refine wl_lld_n (pc' := 15) rfl e_1 rfl ?_
    refine wl_st2 (pc' := 16) (k0 := 3) (v := .long y1) (r := []) rfl rfl (fun lv2 e3 f4 => ?_)
    have e5 := f4 0 _ e_0 (by decide) (by decide) rfl
    have e6 := f4 1 _ e_1 (by decide) (by decide) rfl
    refine wl_ald_n (pc' := 17) rfl e5 rfl ?_
    refine wp_get (v := .ref 12) (pc' := 20) rfl (hq_30 _) rfl rfl ?_
    refine wp_get (v := .int (m.F 12 14)) (pc' := 23) rfl (hq_12 _) rfl rfl ?_
    refine wp_if_eq (pc' := 26) rfl rfl (fun c7 => ?_) (fun c7 => ?_)
    · replace k := it_t (c := (m.F 12 14) = (nI 0)) c7 k
      refine wl_lld_n (pc' := 32) rfl e3 rfl ?_
      exact wp_r rfl rfl ⟨_, rfl, k⟩
    · replace k := it_f (c := (m.F 12 14) = (nI 0)) c7 k
      refine wl_lld_n (pc' := 27) rfl e3 rfl ?_
      refine wp_lneg (v := -y1) (pc' := 28) rfl rfl rfl ?_
      refine wp_p (pc' := 32) (lv' := lv2) (st' := [.long (-y1)]) rfl rfl ?_
      exact wp_r rfl rfl ⟨_, rfl, k⟩
  · replace k := it_t (c := (lg_cmp y1 1099511627776) = (nI 0)) c1 k
    refine wp_p (pc' := 11) (lv' := lv0) (st' := [.long (-1099511627776)]) rfl rfl ?_
    refine wp_p (pc' := 15) (lv' := lv0) (st' := [.long (-1099511627776)]) rfl rfl ?_
    refine wl_st2 (pc' := 16) (k0 := 3) (v := .long (-1099511627776)) (r := []) rfl rfl (fun lv8 e9 f10 => ?_)
    have e11 := f10 0 _ e_0 (by decide) (by decide) rfl
    have e12 := f10 1 _ e_1 (by decide) (by decide) rfl
    refine wl_ald_n (pc' := 17) rfl e11 rfl ?_
    refine wp_get (v := .ref 12) (pc' := 20) rfl (hq_30 _) rfl rfl ?_
    refine wp_get (v := .int (m.F 12 14)) (pc' := 23) rfl (hq_12 _) rfl rfl ?_
    refine wp_if_eq (pc' := 26) rfl rfl (fun c13 => ?_) (fun c13 => ?_)
    · replace k := it_t (c := (m.F 12 14) = (nI 0)) c13 k
      refine wl_lld_n (pc' := 32) rfl e9 rfl ?_
      exact wp_r rfl rfl ⟨_, rfl, k⟩
    · replace k := it_f (c := (m.F 12 14) = (nI 0)) c13 k
      refine wl_lld_n (pc' := 27) rfl e9 rfl ?_
      refine wp_lneg (v := 1099511627776) (pc' := 28) rfl (by decide) rfl ?_
      refine wp_p (pc' := 32) (lv' := lv8) (st' := [.long 1099511627776]) rfl rfl ?_
      exact wp_r rfl rfl ⟨_, rfl, k⟩
/-! 128: QueryTables$Search.putInOrder -/
set_option maxRecDepth 20000 in
theorem sp_128 {d : Nat} {m : Mm} {K : Option Value → Mm → Prop} (y1 : Int64) (x3 : Int32) (x4 : Int32) (k : WH d 128 6 [(0, .ref 30), (1, .long y1), (3, .int x3), (4, .int x4), (5, .int (m.F 30 15))] [] m K) : WP d 128 [.ref 30, .long y1, .int x3, .int x4] m K := by
  have e_0 : sm_lk (lv_args 0 [.ref 30, .long y1, .int x3, .int x4]) 0 = some (.ref 30) := rfl
  have e_1 : sm_lk (lv_args 0 [.ref 30, .long y1, .int x3, .int x4]) 1 = some (.long y1) := rfl
  have e_3 : sm_lk (lv_args 0 [.ref 30, .long y1, .int x3, .int x4]) 3 = some (.int x3) := rfl
  have e_4 : sm_lk (lv_args 0 [.ref 30, .long y1, .int x3, .int x4]) 4 = some (.int x4) := rfl
  show sm_wp d 128 0 (lv_args 0 [.ref 30, .long y1, .int x3, .int x4]) [] (hp m) (WQ K)
  generalize lv_args 0 [.ref 30, .long y1, .int x3, .int x4] = lv0 at *
  refine wl_ald_n (pc' := 1) rfl e_0 rfl ?_
  refine wp_get (v := .int (m.F 30 15)) (pc' := 4) rfl (hq_30 _) rfl rfl ?_
  refine wl_st1 (pc' := 6) (k0 := 5) (v := .int (m.F 30 15)) (r := []) rfl rfl (fun lv1 e2 f3 => ?_)
  have e4 := f3 0 _ e_0 (by decide) rfl
  have e5 := f3 1 _ e_1 (by decide) rfl
  have e6 := f3 3 _ e_3 (by decide) rfl
  have e7 := f3 4 _ e_4 (by decide) rfl
  exact k _ ⟨e4, e5, e6, e7, e2, trivial⟩
set_option maxRecDepth 20000 in
theorem sg_128_6 {d : Nat} {m : Mm} {K : Option Value → Mm → Prop} (y1 : Int64) (x3 : Int32) (x4 : Int32) (x5 : Int32) (k : (if x5 ≤ (nI 0) then ok (m.B 33).length x5 ∧ ok (m.A 34).length x5 ∧ ok (m.A 35).length x5 ∧ K none (((m.uB 33 ((m.B 33).set (ix x5) y1)).uA 34 ((m.A 34).set (ix x5) x3)).uA 35 ((m.A 35).set (ix x5) x4)) else WP d 129 [.ref 30, .long y1, .int x3, .int x4, .int (x5 - (nI 1))] m (fun v m5 => ∃ w6, v = some (.int w6) ∧ (if w6 = (nI 0) then ok (m5.B 33).length x5 ∧ ok (m5.A 34).length x5 ∧ ok (m5.A 35).length x5 ∧ K none (((m5.uB 33 ((m5.B 33).set (ix x5) y1)).uA 34 ((m5.A 34).set (ix x5) x3)).uA 35 ((m5.A 35).set (ix x5) x4)) else ok (m5.B 33).length (x5 - (nI 1)) ∧ ok (m5.B 33).length x5 ∧ ok (m5.A 34).length (x5 - (nI 1)) ∧ ok (m5.A 34).length x5 ∧ ok (m5.A 35).length (x5 - (nI 1)) ∧ ok (m5.A 35).length x5 ∧ WH (d + 1) 128 6 [(0, .ref 30), (1, .long y1), (3, .int x3), (4, .int x4), (5, .int (x5 + (-1)))] [] (((m5.uB 33 ((m5.B 33).set (ix x5) ((m5.B 33).getD (ix (x5 - (nI 1))) 0))).uA 34 ((m5.A 34).set (ix x5) ((m5.A 34).getD (ix (x5 - (nI 1))) 0))).uA 35 ((m5.A 35).set (ix x5) ((m5.A 35).getD (ix (x5 - (nI 1))) 0))) K)))) : WH (d + 1) 128 6 [(0, .ref 30), (1, .long y1), (3, .int x3), (4, .int x4), (5, .int x5)] [] m K := by
  intro lv0 el
  obtain ⟨e_0, e_1, e_3, e_4, e_5, _⟩ := el
  refine wl_ild (pc' := 8) rfl e_5 rfl ?_
  refine wp_if_le (pc' := 11) rfl rfl (fun c1 => ?_) (fun c1 => ?_)
  · replace k := it_t (c := x5 ≤ (nI 0)) c1 k
    refine wl_ald_n (pc' := 81) rfl e_0 rfl ?_
    refine wp_get (v := .ref 33) (pc' := 84) rfl (hq_30 _) rfl rfl ?_
    refine wl_ild (pc' := 86) rfl e_5 rfl ?_
    refine wl_lld_n (pc' := 87) rfl e_1 rfl ?_
    obtain ⟨k2, k⟩ := k
    refine wl_lastore (g := m.B 33) (pc' := 88) (h2 := hp (m.uB 33 ((m.B 33).set (ix x5) y1))) rfl (hq_33 _) k2 rfl (pa_33 _ _) ?_
    refine wl_ald_n (pc' := 89) rfl e_0 rfl ?_
    refine wp_get (v := .ref 34) (pc' := 92) rfl (hq_30 _) rfl rfl ?_
    refine wl_ild (pc' := 94) rfl e_5 rfl ?_
    refine wl_ild_n (pc' := 95) rfl e_3 rfl ?_
    obtain ⟨k3, k⟩ := k
    refine wl_iastore (g := m.A 34) (pc' := 96) (h2 := hp ((m.uB 33 ((m.B 33).set (ix x5) y1)).uA 34 ((m.A 34).set (ix x5) x3))) rfl (hq_34 _) k3 rfl (pa_34 _ _) ?_
    refine wl_ald_n (pc' := 97) rfl e_0 rfl ?_
    refine wp_get (v := .ref 35) (pc' := 100) rfl (hq_30 _) rfl rfl ?_
    refine wl_ild (pc' := 102) rfl e_5 rfl ?_
    refine wl_ild (pc' := 104) rfl e_4 rfl ?_
    obtain ⟨k4, k⟩ := k
    refine wl_iastore (g := m.A 35) (pc' := 105) (h2 := hp (((m.uB 33 ((m.B 33).set (ix x5) y1)).uA 34 ((m.A 34).set (ix x5) x3)).uA 35 ((m.A 35).set (ix x5) x4))) rfl (hq_35 _) k4 rfl (pa_35 _ _) ?_
    exact wp_r rfl rfl ⟨_, rfl, k⟩
  · replace k := it_f (c := x5 ≤ (nI 0)) c1 k
    refine wl_ald_n (pc' := 12) rfl e_0 rfl ?_
    refine wl_lld_n (pc' := 13) rfl e_1 rfl ?_
    refine wl_ild_n (pc' := 14) rfl e_3 rfl ?_
    refine wl_ild (pc' := 16) rfl e_4 rfl ?_
    refine wl_ild (pc' := 18) rfl e_5 rfl ?_
    refine wp_p (pc' := 19) (lv' := lv0) (st' := [.int (nI 1), .int x5, .int x4, .int x3, .long y1, .ref 30]) rfl rfl ?_
    refine wp_isub (v := x5 - (nI 1)) (pc' := 20) rfl rfl rfl ?_
    refine wl_cv (As := [.ref 30, .long y1, .int x3, .int x4, .int (x5 - (nI 1))]) (r := []) (pc' := 23) rfl rfl rfl k ?_
    rintro _ m5 ⟨w6, rfl, k⟩
    show sm_wp (d + 1) 128 23 lv0 [.int w6] (hp m5) (WQ K)
    refine wp_if_eq (pc' := 26) rfl rfl (fun c7 => ?_) (fun c7 => ?_)
    · replace k := it_t (c := w6 = (nI 0)) c7 k
      refine wl_ald_n (pc' := 81) rfl e_0 rfl ?_
      refine wp_get (v := .ref 33) (pc' := 84) rfl (hq_30 _) rfl rfl ?_
      refine wl_ild (pc' := 86) rfl e_5 rfl ?_
      refine wl_lld_n (pc' := 87) rfl e_1 rfl ?_
      obtain ⟨k8, k⟩ := k
      refine wl_lastore (g := m5.B 33) (pc' := 88) (h2 := hp (m5.uB 33 ((m5.B 33).set (ix x5) y1))) rfl (hq_33 _) k8 rfl (pa_33 _ _) ?_
      refine wl_ald_n (pc' := 89) rfl e_0 rfl ?_
      refine wp_get (v := .ref 34) (pc' := 92) rfl (hq_30 _) rfl rfl ?_
      refine wl_ild (pc' := 94) rfl e_5 rfl ?_
      refine wl_ild_n (pc' := 95) rfl e_3 rfl ?_
      obtain ⟨k9, k⟩ := k
      refine wl_iastore (g := m5.A 34) (pc' := 96) (h2 := hp ((m5.uB 33 ((m5.B 33).set (ix x5) y1)).uA 34 ((m5.A 34).set (ix x5) x3))) rfl (hq_34 _) k9 rfl (pa_34 _ _) ?_
      refine wl_ald_n (pc' := 97) rfl e_0 rfl ?_
      refine wp_get (v := .ref 35) (pc' := 100) rfl (hq_30 _) rfl rfl ?_
      refine wl_ild (pc' := 102) rfl e_5 rfl ?_
      refine wl_ild (pc' := 104) rfl e_4 rfl ?_
      obtain ⟨k10, k⟩ := k
      refine wl_iastore (g := m5.A 35) (pc' := 105) (h2 := hp (((m5.uB 33 ((m5.B 33).set (ix x5) y1)).uA 34 ((m5.A 34).set (ix x5) x3)).uA 35 ((m5.A 35).set (ix x5) x4))) rfl (hq_35 _) k10 rfl (pa_35 _ _) ?_
      exact wp_r rfl rfl ⟨_, rfl, k⟩
    · replace k := it_f (c := w6 = (nI 0)) c7 k
      refine wl_ald_n (pc' := 27) rfl e_0 rfl ?_
      refine wp_get (v := .ref 33) (pc' := 30) rfl (hq_30 _) rfl rfl ?_
      refine wl_ild (pc' := 32) rfl e_5 rfl ?_
      refine wl_ald_n (pc' := 33) rfl e_0 rfl ?_
      refine wp_get (v := .ref 33) (pc' := 36) rfl (hq_30 _) rfl rfl ?_
      refine wl_ild (pc' := 38) rfl e_5 rfl ?_
      refine wp_p (pc' := 39) (lv' := lv0) (st' := [.int (nI 1), .int x5, .ref 33, .int x5, .ref 33]) rfl rfl ?_
      refine wp_isub (v := x5 - (nI 1)) (pc' := 40) rfl rfl rfl ?_
      obtain ⟨k11, k⟩ := k
      refine wl_laload (g := m5.B 33) (pc' := 41) rfl (hq_33 _) k11 rfl ?_
      obtain ⟨k12, k⟩ := k
      refine wl_lastore (g := m5.B 33) (pc' := 42) (h2 := hp (m5.uB 33 ((m5.B 33).set (ix x5) ((m5.B 33).getD (ix (x5 - (nI 1))) 0)))) rfl (hq_33 _) k12 rfl (pa_33 _ _) ?_
      refine wl_ald_n (pc' := 43) rfl e_0 rfl ?_
      refine wp_get (v := .ref 34) (pc' := 46) rfl (hq_30 _) rfl rfl ?_
      refine wl_ild (pc' := 48) rfl e_5 rfl ?_
      refine wl_ald_n (pc' := 49) rfl e_0 rfl ?_
      refine wp_get (v := .ref 34) (pc' := 52) rfl (hq_30 _) rfl rfl ?_
      refine wl_ild (pc' := 54) rfl e_5 rfl ?_
      refine wp_p (pc' := 55) (lv' := lv0) (st' := [.int (nI 1), .int x5, .ref 34, .int x5, .ref 34]) rfl rfl ?_
      refine wp_isub (v := x5 - (nI 1)) (pc' := 56) rfl rfl rfl ?_
      obtain ⟨k13, k⟩ := k
      refine wl_iaload (g := m5.A 34) (pc' := 57) rfl (hq_34 _) k13 rfl ?_
      obtain ⟨k14, k⟩ := k
      refine wl_iastore (g := m5.A 34) (pc' := 58) (h2 := hp ((m5.uB 33 ((m5.B 33).set (ix x5) ((m5.B 33).getD (ix (x5 - (nI 1))) 0))).uA 34 ((m5.A 34).set (ix x5) ((m5.A 34).getD (ix (x5 - (nI 1))) 0)))) rfl (hq_34 _) k14 rfl (pa_34 _ _) ?_
      refine wl_ald_n (pc' := 59) rfl e_0 rfl ?_
      refine wp_get (v := .ref 35) (pc' := 62) rfl (hq_30 _) rfl rfl ?_
      refine wl_ild (pc' := 64) rfl e_5 rfl ?_
      refine wl_ald_n (pc' := 65) rfl e_0 rfl ?_
      refine wp_get (v := .ref 35) (pc' := 68) rfl (hq_30 _) rfl rfl ?_
      refine wl_ild (pc' := 70) rfl e_5 rfl ?_
      refine wp_p (pc' := 71) (lv' := lv0) (st' := [.int (nI 1), .int x5, .ref 35, .int x5, .ref 35]) rfl rfl ?_
      refine wp_isub (v := x5 - (nI 1)) (pc' := 72) rfl rfl rfl ?_
      obtain ⟨k15, k⟩ := k
      refine wl_iaload (g := m5.A 35) (pc' := 73) rfl (hq_35 _) k15 rfl ?_
      obtain ⟨k16, k⟩ := k
      refine wl_iastore (g := m5.A 35) (pc' := 74) (h2 := hp (((m5.uB 33 ((m5.B 33).set (ix x5) ((m5.B 33).getD (ix (x5 - (nI 1))) 0))).uA 34 ((m5.A 34).set (ix x5) ((m5.A 34).getD (ix (x5 - (nI 1))) 0))).uA 35 ((m5.A 35).set (ix x5) ((m5.A 35).getD (ix (x5 - (nI 1))) 0)))) rfl (hq_35 _) k16 rfl (pa_35 _ _) ?_
      refine wl_iinc (pc' := 77) (v := x5 + (-1)) rfl e_5 rfl rfl rfl (fun lv17 e18 f19 => ?_)
      have e20 := f19 0 _ e_0 (by decide) rfl
      have e21 := f19 1 _ e_1 (by decide) rfl
      have e22 := f19 3 _ e_3 (by decide) rfl
      have e23 := f19 4 _ e_4 (by decide) rfl
      refine wp_p (pc' := 6) (lv' := lv17) (st' := []) rfl rfl ?_
      exact k _ ⟨e20, e21, e22, e23, e18, trivial⟩
/-! 129: QueryTables$Search.comesBefore -/
set_option maxRecDepth 20000 in
theorem sp_129 {d : Nat} {m : Mm} {K : Option Value → Mm → Prop} (y1 : Int64) (x3 : Int32) (x4 : Int32) (x5 : Int32) (k : ok (m.B 33).length x5 ∧ (if (lg_cmp y1 ((m.B 33).getD (ix x5) 0)) = (nI 0) then ok (m.A 34).length x5 ∧ (if x3 = ((m.A 34).getD (ix x5) 0) then ok (m.A 35).length x5 ∧ (if ((m.A 35).getD (ix x5) 0) ≤ x4 then K (some (.int (nI 0))) m else K (some (.int (nI 1))) m) else ok (m.A 34).length x5 ∧ (if ((m.A 34).getD (ix x5) 0) ≤ x3 then K (some (.int (nI 0))) m else K (some (.int (nI 1))) m)) else ok (m.B 33).length x5 ∧ (if (nI 0) ≤ (lg_cmp y1 ((m.B 33).getD (ix x5) 0)) then K (some (.int (nI 0))) m else K (some (.int (nI 1))) m))) : WP d 129 [.ref 30, .long y1, .int x3, .int x4, .int x5] m K := by
  have e_0 : sm_lk (lv_args 0 [.ref 30, .long y1, .int x3, .int x4, .int x5]) 0 = some (.ref 30) := rfl
  have e_1 : sm_lk (lv_args 0 [.ref 30, .long y1, .int x3, .int x4, .int x5]) 1 = some (.long y1) := rfl
  have e_3 : sm_lk (lv_args 0 [.ref 30, .long y1, .int x3, .int x4, .int x5]) 3 = some (.int x3) := rfl
  have e_4 : sm_lk (lv_args 0 [.ref 30, .long y1, .int x3, .int x4, .int x5]) 4 = some (.int x4) := rfl
  have e_5 : sm_lk (lv_args 0 [.ref 30, .long y1, .int x3, .int x4, .int x5]) 5 = some (.int x5) := rfl
  show sm_wp d 129 0 (lv_args 0 [.ref 30, .long y1, .int x3, .int x4, .int x5]) [] (hp m) (WQ K)
  generalize lv_args 0 [.ref 30, .long y1, .int x3, .int x4, .int x5] = lv0 at *
  refine wl_lld_n (pc' := 1) rfl e_1 rfl ?_
  refine wl_ald_n (pc' := 2) rfl e_0 rfl ?_
  refine wp_get (v := .ref 33) (pc' := 5) rfl (hq_30 _) rfl rfl ?_
  refine wl_ild (pc' := 7) rfl e_5 rfl ?_
  obtain ⟨k1, k⟩ := k
  refine wl_laload (g := m.B 33) (pc' := 8) rfl (hq_33 _) k1 rfl ?_
  refine wp_lcmp (v := lg_cmp y1 ((m.B 33).getD (ix x5) 0)) (pc' := 9) rfl rfl rfl ?_
  refine wp_if_eq (pc' := 12) rfl rfl (fun c2 => ?_) (fun c2 => ?_)
  · replace k := it_t (c := (lg_cmp y1 ((m.B 33).getD (ix x5) 0)) = (nI 0)) c2 k
    refine wl_ild_n (pc' := 31) rfl e_3 rfl ?_
    refine wl_ald_n (pc' := 32) rfl e_0 rfl ?_
    refine wp_get (v := .ref 34) (pc' := 35) rfl (hq_30 _) rfl rfl ?_
    refine wl_ild (pc' := 37) rfl e_5 rfl ?_
    obtain ⟨k3, k⟩ := k
    refine wl_iaload (g := m.A 34) (pc' := 38) rfl (hq_34 _) k3 rfl ?_
    refine wp_ic_eq (pc' := 41) rfl rfl (fun c4 => ?_) (fun c4 => ?_)
    · replace k := it_t (c := x3 = ((m.A 34).getD (ix x5) 0)) c4 k
      refine wl_ild (pc' := 62) rfl e_4 rfl ?_
      refine wl_ald_n (pc' := 63) rfl e_0 rfl ?_
      refine wp_get (v := .ref 35) (pc' := 66) rfl (hq_30 _) rfl rfl ?_
      refine wl_ild (pc' := 68) rfl e_5 rfl ?_
      obtain ⟨k5, k⟩ := k
      refine wl_iaload (g := m.A 35) (pc' := 69) rfl (hq_35 _) k5 rfl ?_
      refine wp_ic_ge (pc' := 72) rfl rfl (fun c6 => ?_) (fun c6 => ?_)
      · replace k := it_t (c := ((m.A 35).getD (ix x5) 0) ≤ x4) c6 k
        refine wp_p (pc' := 77) (lv' := lv0) (st' := [.int (nI 0)]) rfl rfl ?_
        exact wl_ret rfl rfl ⟨_, rfl, k⟩
      · replace k := it_f (c := ((m.A 35).getD (ix x5) 0) ≤ x4) c6 k
        refine wp_p (pc' := 73) (lv' := lv0) (st' := [.int (nI 1)]) rfl rfl ?_
        refine wp_p (pc' := 77) (lv' := lv0) (st' := [.int (nI 1)]) rfl rfl ?_
        exact wl_ret rfl rfl ⟨_, rfl, k⟩
    · replace k := it_f (c := x3 = ((m.A 34).getD (ix x5) 0)) c4 k
      refine wl_ild_n (pc' := 42) rfl e_3 rfl ?_
      refine wl_ald_n (pc' := 43) rfl e_0 rfl ?_
      refine wp_get (v := .ref 34) (pc' := 46) rfl (hq_30 _) rfl rfl ?_
      refine wl_ild (pc' := 48) rfl e_5 rfl ?_
      obtain ⟨k7, k⟩ := k
      refine wl_iaload (g := m.A 34) (pc' := 49) rfl (hq_34 _) k7 rfl ?_
      refine wp_ic_ge (pc' := 52) rfl rfl (fun c8 => ?_) (fun c8 => ?_)
      · replace k := it_t (c := ((m.A 34).getD (ix x5) 0) ≤ x3) c8 k
        refine wp_p (pc' := 57) (lv' := lv0) (st' := [.int (nI 0)]) rfl rfl ?_
        refine wp_p (pc' := 77) (lv' := lv0) (st' := [.int (nI 0)]) rfl rfl ?_
        exact wl_ret rfl rfl ⟨_, rfl, k⟩
      · replace k := it_f (c := ((m.A 34).getD (ix x5) 0) ≤ x3) c8 k
        refine wp_p (pc' := 53) (lv' := lv0) (st' := [.int (nI 1)]) rfl rfl ?_
        refine wp_p (pc' := 77) (lv' := lv0) (st' := [.int (nI 1)]) rfl rfl ?_
        exact wl_ret rfl rfl ⟨_, rfl, k⟩
  · replace k := it_f (c := (lg_cmp y1 ((m.B 33).getD (ix x5) 0)) = (nI 0)) c2 k
    refine wl_lld_n (pc' := 13) rfl e_1 rfl ?_
    refine wl_ald_n (pc' := 14) rfl e_0 rfl ?_
    refine wp_get (v := .ref 33) (pc' := 17) rfl (hq_30 _) rfl rfl ?_
    refine wl_ild (pc' := 19) rfl e_5 rfl ?_
    obtain ⟨k9, k⟩ := k
    refine wl_laload (g := m.B 33) (pc' := 20) rfl (hq_33 _) k9 rfl ?_
    refine wp_lcmp (v := lg_cmp y1 ((m.B 33).getD (ix x5) 0)) (pc' := 21) rfl rfl rfl ?_
    refine wp_if_ge (pc' := 24) rfl rfl (fun c10 => ?_) (fun c10 => ?_)
    · replace k := it_t (c := (nI 0) ≤ (lg_cmp y1 ((m.B 33).getD (ix x5) 0))) c10 k
      refine wp_p (pc' := 29) (lv' := lv0) (st' := [.int (nI 0)]) rfl rfl ?_
      exact wl_ret rfl rfl ⟨_, rfl, k⟩
    · replace k := it_f (c := (nI 0) ≤ (lg_cmp y1 ((m.B 33).getD (ix x5) 0))) c10 k
      refine wp_p (pc' := 25) (lv' := lv0) (st' := [.int (nI 1)]) rfl rfl ?_
      refine wp_p (pc' := 29) (lv' := lv0) (st' := [.int (nI 1)]) rfl rfl ?_
      exact wl_ret rfl rfl ⟨_, rfl, k⟩
/-! 130: QueryTables$Search.goTo -/
set_option maxRecDepth 20000 in
theorem sp_130 {d : Nat} {m : Mm} {K : Option Value → Mm → Prop} (x1 : Int32) (k : (if x1 < (nI 0) then K none m else (if (m.F 30 15) ≤ x1 then K none m else (if (nI 60) ≤ x1 then K none m else ok (m.A 34).length x1 ∧ WP d 43 [.ref 23, .int (nI 0), .int ((m.A 34).getD (ix x1) 0)] m (fun v m5 => v = none ∧ ok (m5.A 35).length x1 ∧ WP d 43 [.ref 23, .int (nI 1), .int ((m5.A 35).getD (ix x1) 0)] m5 (fun v m7 => v = none ∧ K none m7)))))) : WP (d + 1) 130 [.ref 30, .int x1] m K := by
  have e_0 : sm_lk (lv_args 0 [.ref 30, .int x1]) 0 = some (.ref 30) := rfl
  have e_1 : sm_lk (lv_args 0 [.ref 30, .int x1]) 1 = some (.int x1) := rfl
  show sm_wp (d + 1) 130 0 (lv_args 0 [.ref 30, .int x1]) [] (hp m) (WQ K)
  generalize lv_args 0 [.ref 30, .int x1] = lv0 at *
  refine wl_ild_n (pc' := 1) rfl e_1 rfl ?_
  refine wp_if_lt (pc' := 4) rfl rfl (fun c1 => ?_) (fun c1 => ?_)
  · replace k := it_t (c := x1 < (nI 0)) c1 k
    exact wp_r rfl rfl ⟨_, rfl, k⟩
  · replace k := it_f (c := x1 < (nI 0)) c1 k
    refine wl_ild_n (pc' := 5) rfl e_1 rfl ?_
    refine wl_ald_n (pc' := 6) rfl e_0 rfl ?_
    refine wp_get (v := .int (m.F 30 15)) (pc' := 9) rfl (hq_30 _) rfl rfl ?_
    refine wp_ic_ge (pc' := 12) rfl rfl (fun c2 => ?_) (fun c2 => ?_)
    · replace k := it_t (c := (m.F 30 15) ≤ x1) c2 k
      exact wp_r rfl rfl ⟨_, rfl, k⟩
    · replace k := it_f (c := (m.F 30 15) ≤ x1) c2 k
      refine wl_ild_n (pc' := 13) rfl e_1 rfl ?_
      refine wp_p (pc' := 15) (lv' := lv0) (st' := [.int (nI 60), .int x1]) rfl rfl ?_
      refine wp_ic_ge (pc' := 18) rfl rfl (fun c3 => ?_) (fun c3 => ?_)
      · replace k := it_t (c := (nI 60) ≤ x1) c3 k
        exact wp_r rfl rfl ⟨_, rfl, k⟩
      · replace k := it_f (c := (nI 60) ≤ x1) c3 k
        refine wl_ald_n (pc' := 19) rfl e_0 rfl ?_
        refine wp_get (v := .ref 23) (pc' := 22) rfl (hq_30 _) rfl rfl ?_
        refine wp_p (pc' := 23) (lv' := lv0) (st' := [.int (nI 0), .ref 23]) rfl rfl ?_
        refine wl_ald_n (pc' := 24) rfl e_0 rfl ?_
        refine wp_get (v := .ref 34) (pc' := 27) rfl (hq_30 _) rfl rfl ?_
        refine wl_ild_n (pc' := 28) rfl e_1 rfl ?_
        obtain ⟨k4, k⟩ := k
        refine wl_iaload (g := m.A 34) (pc' := 29) rfl (hq_34 _) k4 rfl ?_
        refine wl_cv (As := [.ref 23, .int (nI 0), .int ((m.A 34).getD (ix x1) 0)]) (r := []) (pc' := 32) rfl rfl rfl k ?_
        rintro _ m5 ⟨rfl, k⟩
        show sm_wp (d + 1) 130 32 lv0 [] (hp m5) (WQ K)
        refine wl_ald_n (pc' := 33) rfl e_0 rfl ?_
        refine wp_get (v := .ref 23) (pc' := 36) rfl (hq_30 _) rfl rfl ?_
        refine wp_p (pc' := 37) (lv' := lv0) (st' := [.int (nI 1), .ref 23]) rfl rfl ?_
        refine wl_ald_n (pc' := 38) rfl e_0 rfl ?_
        refine wp_get (v := .ref 35) (pc' := 41) rfl (hq_30 _) rfl rfl ?_
        refine wl_ild_n (pc' := 42) rfl e_1 rfl ?_
        obtain ⟨k6, k⟩ := k
        refine wl_iaload (g := m5.A 35) (pc' := 43) rfl (hq_35 _) k6 rfl ?_
        refine wl_cv (As := [.ref 23, .int (nI 1), .int ((m5.A 35).getD (ix x1) 0)]) (r := []) (pc' := 46) rfl rfl rfl k ?_
        rintro _ m7 ⟨rfl, k⟩
        show sm_wp (d + 1) 130 46 lv0 [] (hp m7) (WQ K)
        exact wp_r rfl rfl ⟨_, rfl, k⟩
/-! 132: QueryTablesModel.type -/
set_option maxRecDepth 20000 in
theorem sp_132 {d : Nat} {m : Mm} {K : Option Value → Mm → Prop} (x1 : Int32) (k : (if x1 < (nI 32) then K (some (.int (nI 0))) m else (if (nI 126) < x1 then K (some (.int (nI 0))) m else (if (m.F 42 1) < (nI 80) then ok (m.A 43).length (m.F 42 1) ∧ K (some (.int (nI 1))) ((m.uA 43 ((m.A 43).set (ix (m.F 42 1)) (vp_nar .char x1))).uF 42 1 ((m.F 42 1) + (nI 1))) else K (some (.int (nI 0))) m)))) : WP d 132 [.ref 42, .int x1] m K := by
  have e_0 : sm_lk (lv_args 0 [.ref 42, .int x1]) 0 = some (.ref 42) := rfl
  have e_1 : sm_lk (lv_args 0 [.ref 42, .int x1]) 1 = some (.int x1) := rfl
  show sm_wp d 132 0 (lv_args 0 [.ref 42, .int x1]) [] (hp m) (WQ K)
  generalize lv_args 0 [.ref 42, .int x1] = lv0 at *
  refine wl_ild_n (pc' := 1) rfl e_1 rfl ?_
  refine wp_p (pc' := 3) (lv' := lv0) (st' := [.int (nI 32), .int x1]) rfl rfl ?_
  refine wp_ic_lt (pc' := 6) rfl rfl (fun c1 => ?_) (fun c1 => ?_)
  · replace k := it_t (c := x1 < (nI 32)) c1 k
    refine wp_p (pc' := 22) (lv' := lv0) (st' := [.int (nI 0)]) rfl rfl ?_
    exact wl_ret rfl rfl ⟨_, rfl, k⟩
  · replace k := it_f (c := x1 < (nI 32)) c1 k
    refine wl_ild_n (pc' := 7) rfl e_1 rfl ?_
    refine wp_p (pc' := 9) (lv' := lv0) (st' := [.int (nI 126), .int x1]) rfl rfl ?_
    refine wp_ic_gt (pc' := 12) rfl rfl (fun c2 => ?_) (fun c2 => ?_)
    · replace k := it_t (c := (nI 126) < x1) c2 k
      refine wp_p (pc' := 22) (lv' := lv0) (st' := [.int (nI 0)]) rfl rfl ?_
      exact wl_ret rfl rfl ⟨_, rfl, k⟩
    · replace k := it_f (c := (nI 126) < x1) c2 k
      refine wl_ald_n (pc' := 13) rfl e_0 rfl ?_
      refine wp_get (v := .int (m.F 42 1)) (pc' := 16) rfl (hq_42 _) rfl rfl ?_
      refine wp_p (pc' := 18) (lv' := lv0) (st' := [.int (nI 80), .int (m.F 42 1)]) rfl rfl ?_
      refine wp_ic_lt (pc' := 21) rfl rfl (fun c3 => ?_) (fun c3 => ?_)
      · replace k := it_t (c := (m.F 42 1) < (nI 80)) c3 k
        refine wl_ald_n (pc' := 24) rfl e_0 rfl ?_
        refine wp_get (v := .ref 43) (pc' := 27) rfl (hq_42 _) rfl rfl ?_
        refine wl_ald_n (pc' := 28) rfl e_0 rfl ?_
        refine wp_get (v := .int (m.F 42 1)) (pc' := 31) rfl (hq_42 _) rfl rfl ?_
        refine wl_ild_n (pc' := 32) rfl e_1 rfl ?_
        obtain ⟨k4, k⟩ := k
        refine wl_castore (g := m.A 43) (pc' := 33) (h2 := hp (m.uA 43 ((m.A 43).set (ix (m.F 42 1)) (vp_nar .char x1)))) rfl (hq_43 _) k4 rfl (pa_43 _ _) ?_
        refine wl_ald_n (pc' := 34) rfl e_0 rfl ?_
        refine wp_p (pc' := 35) (lv' := lv0) (st' := [.ref 42, .ref 42]) rfl rfl ?_
        refine wp_get (v := .int (m.F 42 1)) (pc' := 38) rfl (hq_42 _) rfl rfl ?_
        refine wp_p (pc' := 39) (lv' := lv0) (st' := [.int (nI 1), .int (m.F 42 1), .ref 42]) rfl rfl ?_
        refine wp_iadd (v := (m.F 42 1) + (nI 1)) (pc' := 40) rfl rfl rfl ?_
        refine wl_put (pc' := 43) (h2 := hp ((m.uA 43 ((m.A 43).set (ix (m.F 42 1)) (vp_nar .char x1))).uF 42 1 ((m.F 42 1) + (nI 1)))) rfl (hq_42 _) rfl rfl rfl (pf_42_1 _ _) ?_
        refine wp_p (pc' := 44) (lv' := lv0) (st' := [.int (nI 1)]) rfl rfl ?_
        exact wl_ret rfl rfl ⟨_, rfl, k⟩
      · replace k := it_f (c := (m.F 42 1) < (nI 80)) c3 k
        refine wp_p (pc' := 22) (lv' := lv0) (st' := [.int (nI 0)]) rfl rfl ?_
        exact wl_ret rfl rfl ⟨_, rfl, k⟩
/-! 133: QueryTablesModel.erase -/
set_option maxRecDepth 20000 in
theorem sp_133 {d : Nat} {m : Mm} {K : Option Value → Mm → Prop} (k : (if (m.F 42 1) = (nI 0) then K (some (.int (nI 0))) m else K (some (.int (nI 1))) (m.uF 42 1 ((m.F 42 1) - (nI 1))))) : WP d 133 [.ref 42] m K := by
  have e_0 : sm_lk (lv_args 0 [.ref 42]) 0 = some (.ref 42) := rfl
  show sm_wp d 133 0 (lv_args 0 [.ref 42]) [] (hp m) (WQ K)
  generalize lv_args 0 [.ref 42] = lv0 at *
  refine wl_ald_n (pc' := 1) rfl e_0 rfl ?_
  refine wp_get (v := .int (m.F 42 1)) (pc' := 4) rfl (hq_42 _) rfl rfl ?_
  refine wp_if_ne (pc' := 7) rfl rfl (fun c1 => ?_) (fun c1 => ?_)
  · replace k := it_f (c := (m.F 42 1) = (nI 0)) c1 k
    refine wl_ald_n (pc' := 10) rfl e_0 rfl ?_
    refine wp_p (pc' := 11) (lv' := lv0) (st' := [.ref 42, .ref 42]) rfl rfl ?_
    refine wp_get (v := .int (m.F 42 1)) (pc' := 14) rfl (hq_42 _) rfl rfl ?_
    refine wp_p (pc' := 15) (lv' := lv0) (st' := [.int (nI 1), .int (m.F 42 1), .ref 42]) rfl rfl ?_
    refine wp_isub (v := (m.F 42 1) - (nI 1)) (pc' := 16) rfl rfl rfl ?_
    refine wl_put (pc' := 19) (h2 := hp (m.uF 42 1 ((m.F 42 1) - (nI 1)))) rfl (hq_42 _) rfl rfl rfl (pf_42_1 _ _) ?_
    refine wp_p (pc' := 20) (lv' := lv0) (st' := [.int (nI 1)]) rfl rfl ?_
    exact wl_ret rfl rfl ⟨_, rfl, k⟩
  · replace k := it_t (c := (m.F 42 1) = (nI 0)) c1 k
    refine wp_p (pc' := 8) (lv' := lv0) (st' := [.int (nI 0)]) rfl rfl ?_
    exact wl_ret rfl rfl ⟨_, rfl, k⟩
/-! 134: QueryTablesModel.length -/
set_option maxRecDepth 20000 in
theorem sp_134 {d : Nat} {m : Mm} {K : Option Value → Mm → Prop} (k : K (some (.int (m.F 42 1))) m) : WP d 134 [.ref 42] m K := by
  have e_0 : sm_lk (lv_args 0 [.ref 42]) 0 = some (.ref 42) := rfl
  show sm_wp d 134 0 (lv_args 0 [.ref 42]) [] (hp m) (WQ K)
  generalize lv_args 0 [.ref 42] = lv0 at *
  refine wl_ald_n (pc' := 1) rfl e_0 rfl ?_
  refine wp_get (v := .int (m.F 42 1)) (pc' := 4) rfl (hq_42 _) rfl rfl ?_
  exact wl_ret rfl rfl ⟨_, rfl, k⟩
/-! 135: QueryTablesModel.letter -/
set_option maxRecDepth 20000 in
theorem sp_135 {d : Nat} {m : Mm} {K : Option Value → Mm → Prop} (x0 : Int32) (k : (if x0 < (nI 97) then K (some (.int (nI 0))) m else (if (nI 122) < x0 then K (some (.int (nI 0))) m else K (some (.int (nI 1))) m))) : WP d 135 [.int x0] m K := by
  have e_0 : sm_lk (lv_args 0 [.int x0]) 0 = some (.int x0) := rfl
  show sm_wp d 135 0 (lv_args 0 [.int x0]) [] (hp m) (WQ K)
  generalize lv_args 0 [.int x0] = lv0 at *
  refine wl_ild_n (pc' := 1) rfl e_0 rfl ?_
  refine wp_p (pc' := 3) (lv' := lv0) (st' := [.int (nI 97), .int x0]) rfl rfl ?_
  refine wp_ic_lt (pc' := 6) rfl rfl (fun c1 => ?_) (fun c1 => ?_)
  · replace k := it_t (c := x0 < (nI 97)) c1 k
    refine wp_p (pc' := 17) (lv' := lv0) (st' := [.int (nI 0)]) rfl rfl ?_
    exact wl_ret rfl rfl ⟨_, rfl, k⟩
  · replace k := it_f (c := x0 < (nI 97)) c1 k
    refine wl_ild_n (pc' := 7) rfl e_0 rfl ?_
    refine wp_p (pc' := 9) (lv' := lv0) (st' := [.int (nI 122), .int x0]) rfl rfl ?_
    refine wp_ic_gt (pc' := 12) rfl rfl (fun c2 => ?_) (fun c2 => ?_)
    · replace k := it_t (c := (nI 122) < x0) c2 k
      refine wp_p (pc' := 17) (lv' := lv0) (st' := [.int (nI 0)]) rfl rfl ?_
      exact wl_ret rfl rfl ⟨_, rfl, k⟩
    · replace k := it_f (c := (nI 122) < x0) c2 k
      refine wp_p (pc' := 13) (lv' := lv0) (st' := [.int (nI 1)]) rfl rfl ?_
      refine wp_p (pc' := 17) (lv' := lv0) (st' := [.int (nI 1)]) rfl rfl ?_
      exact wl_ret rfl rfl ⟨_, rfl, k⟩
/-! 136: QueryTablesModel.digit -/
set_option maxRecDepth 20000 in
theorem sp_136 {d : Nat} {m : Mm} {K : Option Value → Mm → Prop} (x0 : Int32) (k : (if x0 < (nI 48) then K (some (.int (nI 0))) m else (if (nI 57) < x0 then K (some (.int (nI 0))) m else K (some (.int (nI 1))) m))) : WP d 136 [.int x0] m K := by
  have e_0 : sm_lk (lv_args 0 [.int x0]) 0 = some (.int x0) := rfl
  show sm_wp d 136 0 (lv_args 0 [.int x0]) [] (hp m) (WQ K)
  generalize lv_args 0 [.int x0] = lv0 at *
  refine wl_ild_n (pc' := 1) rfl e_0 rfl ?_
  refine wp_p (pc' := 3) (lv' := lv0) (st' := [.int (nI 48), .int x0]) rfl rfl ?_
  refine wp_ic_lt (pc' := 6) rfl rfl (fun c1 => ?_) (fun c1 => ?_)
  · replace k := it_t (c := x0 < (nI 48)) c1 k
    refine wp_p (pc' := 17) (lv' := lv0) (st' := [.int (nI 0)]) rfl rfl ?_
    exact wl_ret rfl rfl ⟨_, rfl, k⟩
  · replace k := it_f (c := x0 < (nI 48)) c1 k
    refine wl_ild_n (pc' := 7) rfl e_0 rfl ?_
    refine wp_p (pc' := 9) (lv' := lv0) (st' := [.int (nI 57), .int x0]) rfl rfl ?_
    refine wp_ic_gt (pc' := 12) rfl rfl (fun c2 => ?_) (fun c2 => ?_)
    · replace k := it_t (c := (nI 57) < x0) c2 k
      refine wp_p (pc' := 17) (lv' := lv0) (st' := [.int (nI 0)]) rfl rfl ?_
      exact wl_ret rfl rfl ⟨_, rfl, k⟩
    · replace k := it_f (c := (nI 57) < x0) c2 k
      refine wp_p (pc' := 13) (lv' := lv0) (st' := [.int (nI 1)]) rfl rfl ?_
      refine wp_p (pc' := 17) (lv' := lv0) (st' := [.int (nI 1)]) rfl rfl ?_
      exact wl_ret rfl rfl ⟨_, rfl, k⟩
/-! 137: QueryTablesModel.sign -/
set_option maxRecDepth 20000 in
theorem sp_137 {d : Nat} {m : Mm} {K : Option Value → Mm → Prop} (x0 : Int32) (k : (if x0 < (nI 40) then (if x0 = (nI 91) then K (some (.int (nI 1))) m else (if x0 = (nI 93) then K (some (.int (nI 1))) m else (if x0 = (nI 61) then K (some (.int (nI 1))) m else (if x0 = (nI 60) then K (some (.int (nI 1))) m else (if x0 = (nI 62) then K (some (.int (nI 1))) m else K (some (.int (nI 0))) m))))) else (if x0 ≤ (nI 47) then K (some (.int (nI 1))) m else (if x0 = (nI 91) then K (some (.int (nI 1))) m else (if x0 = (nI 93) then K (some (.int (nI 1))) m else (if x0 = (nI 61) then K (some (.int (nI 1))) m else (if x0 = (nI 60) then K (some (.int (nI 1))) m else (if x0 = (nI 62) then K (some (.int (nI 1))) m else K (some (.int (nI 0))) m)))))))) : WP d 137 [.int x0] m K := by
  have e_0 : sm_lk (lv_args 0 [.int x0]) 0 = some (.int x0) := rfl
  show sm_wp d 137 0 (lv_args 0 [.int x0]) [] (hp m) (WQ K)
  generalize lv_args 0 [.int x0] = lv0 at *
  refine wl_ild_n (pc' := 1) rfl e_0 rfl ?_
  refine wp_p (pc' := 3) (lv' := lv0) (st' := [.int (nI 40), .int x0]) rfl rfl ?_
  refine wp_ic_lt (pc' := 6) rfl rfl (fun c1 => ?_) (fun c1 => ?_)
  · replace k := it_t (c := x0 < (nI 40)) c1 k
    refine wl_ild_n (pc' := 13) rfl e_0 rfl ?_
    refine wp_p (pc' := 15) (lv' := lv0) (st' := [.int (nI 91), .int x0]) rfl rfl ?_
    refine wp_ic_eq (pc' := 18) rfl rfl (fun c2 => ?_) (fun c2 => ?_)
    · replace k := it_t (c := x0 = (nI 91)) c2 k
      refine wp_p (pc' := 43) (lv' := lv0) (st' := [.int (nI 1)]) rfl rfl ?_
      refine wp_p (pc' := 47) (lv' := lv0) (st' := [.int (nI 1)]) rfl rfl ?_
      exact wl_ret rfl rfl ⟨_, rfl, k⟩
    · replace k := it_f (c := x0 = (nI 91)) c2 k
      refine wl_ild_n (pc' := 19) rfl e_0 rfl ?_
      refine wp_p (pc' := 21) (lv' := lv0) (st' := [.int (nI 93), .int x0]) rfl rfl ?_
      refine wp_ic_eq (pc' := 24) rfl rfl (fun c3 => ?_) (fun c3 => ?_)
      · replace k := it_t (c := x0 = (nI 93)) c3 k
        refine wp_p (pc' := 43) (lv' := lv0) (st' := [.int (nI 1)]) rfl rfl ?_
        refine wp_p (pc' := 47) (lv' := lv0) (st' := [.int (nI 1)]) rfl rfl ?_
        exact wl_ret rfl rfl ⟨_, rfl, k⟩
      · replace k := it_f (c := x0 = (nI 93)) c3 k
        refine wl_ild_n (pc' := 25) rfl e_0 rfl ?_
        refine wp_p (pc' := 27) (lv' := lv0) (st' := [.int (nI 61), .int x0]) rfl rfl ?_
        refine wp_ic_eq (pc' := 30) rfl rfl (fun c4 => ?_) (fun c4 => ?_)
        · replace k := it_t (c := x0 = (nI 61)) c4 k
          refine wp_p (pc' := 43) (lv' := lv0) (st' := [.int (nI 1)]) rfl rfl ?_
          refine wp_p (pc' := 47) (lv' := lv0) (st' := [.int (nI 1)]) rfl rfl ?_
          exact wl_ret rfl rfl ⟨_, rfl, k⟩
        · replace k := it_f (c := x0 = (nI 61)) c4 k
          refine wl_ild_n (pc' := 31) rfl e_0 rfl ?_
          refine wp_p (pc' := 33) (lv' := lv0) (st' := [.int (nI 60), .int x0]) rfl rfl ?_
          refine wp_ic_eq (pc' := 36) rfl rfl (fun c5 => ?_) (fun c5 => ?_)
          · replace k := it_t (c := x0 = (nI 60)) c5 k
            refine wp_p (pc' := 43) (lv' := lv0) (st' := [.int (nI 1)]) rfl rfl ?_
            refine wp_p (pc' := 47) (lv' := lv0) (st' := [.int (nI 1)]) rfl rfl ?_
            exact wl_ret rfl rfl ⟨_, rfl, k⟩
          · replace k := it_f (c := x0 = (nI 60)) c5 k
            refine wl_ild_n (pc' := 37) rfl e_0 rfl ?_
            refine wp_p (pc' := 39) (lv' := lv0) (st' := [.int (nI 62), .int x0]) rfl rfl ?_
            refine wp_ic_ne (pc' := 42) rfl rfl (fun c6 => ?_) (fun c6 => ?_)
            · replace k := it_f (c := x0 = (nI 62)) c6 k
              refine wp_p (pc' := 47) (lv' := lv0) (st' := [.int (nI 0)]) rfl rfl ?_
              exact wl_ret rfl rfl ⟨_, rfl, k⟩
            · replace k := it_t (c := x0 = (nI 62)) c6 k
              refine wp_p (pc' := 43) (lv' := lv0) (st' := [.int (nI 1)]) rfl rfl ?_
              refine wp_p (pc' := 47) (lv' := lv0) (st' := [.int (nI 1)]) rfl rfl ?_
              exact wl_ret rfl rfl ⟨_, rfl, k⟩
  · replace k := it_f (c := x0 < (nI 40)) c1 k
    refine wl_ild_n (pc' := 7) rfl e_0 rfl ?_
    refine wp_p (pc' := 9) (lv' := lv0) (st' := [.int (nI 47), .int x0]) rfl rfl ?_
    refine wp_ic_le (pc' := 12) rfl rfl (fun c7 => ?_) (fun c7 => ?_)
    · replace k := it_t (c := x0 ≤ (nI 47)) c7 k
      refine wp_p (pc' := 43) (lv' := lv0) (st' := [.int (nI 1)]) rfl rfl ?_
      refine wp_p (pc' := 47) (lv' := lv0) (st' := [.int (nI 1)]) rfl rfl ?_
      exact wl_ret rfl rfl ⟨_, rfl, k⟩
    · replace k := it_f (c := x0 ≤ (nI 47)) c7 k
      refine wl_ild_n (pc' := 13) rfl e_0 rfl ?_
      refine wp_p (pc' := 15) (lv' := lv0) (st' := [.int (nI 91), .int x0]) rfl rfl ?_
      refine wp_ic_eq (pc' := 18) rfl rfl (fun c8 => ?_) (fun c8 => ?_)
      · replace k := it_t (c := x0 = (nI 91)) c8 k
        refine wp_p (pc' := 43) (lv' := lv0) (st' := [.int (nI 1)]) rfl rfl ?_
        refine wp_p (pc' := 47) (lv' := lv0) (st' := [.int (nI 1)]) rfl rfl ?_
        exact wl_ret rfl rfl ⟨_, rfl, k⟩
      · replace k := it_f (c := x0 = (nI 91)) c8 k
        refine wl_ild_n (pc' := 19) rfl e_0 rfl ?_
        refine wp_p (pc' := 21) (lv' := lv0) (st' := [.int (nI 93), .int x0]) rfl rfl ?_
        refine wp_ic_eq (pc' := 24) rfl rfl (fun c9 => ?_) (fun c9 => ?_)
        · replace k := it_t (c := x0 = (nI 93)) c9 k
          refine wp_p (pc' := 43) (lv' := lv0) (st' := [.int (nI 1)]) rfl rfl ?_
          refine wp_p (pc' := 47) (lv' := lv0) (st' := [.int (nI 1)]) rfl rfl ?_
          exact wl_ret rfl rfl ⟨_, rfl, k⟩
        · replace k := it_f (c := x0 = (nI 93)) c9 k
          refine wl_ild_n (pc' := 25) rfl e_0 rfl ?_
          refine wp_p (pc' := 27) (lv' := lv0) (st' := [.int (nI 61), .int x0]) rfl rfl ?_
          refine wp_ic_eq (pc' := 30) rfl rfl (fun c10 => ?_) (fun c10 => ?_)
          · replace k := it_t (c := x0 = (nI 61)) c10 k
            refine wp_p (pc' := 43) (lv' := lv0) (st' := [.int (nI 1)]) rfl rfl ?_
            refine wp_p (pc' := 47) (lv' := lv0) (st' := [.int (nI 1)]) rfl rfl ?_
            exact wl_ret rfl rfl ⟨_, rfl, k⟩
          · replace k := it_f (c := x0 = (nI 61)) c10 k
            refine wl_ild_n (pc' := 31) rfl e_0 rfl ?_
            refine wp_p (pc' := 33) (lv' := lv0) (st' := [.int (nI 60), .int x0]) rfl rfl ?_
            refine wp_ic_eq (pc' := 36) rfl rfl (fun c11 => ?_) (fun c11 => ?_)
            · replace k := it_t (c := x0 = (nI 60)) c11 k
              refine wp_p (pc' := 43) (lv' := lv0) (st' := [.int (nI 1)]) rfl rfl ?_
              refine wp_p (pc' := 47) (lv' := lv0) (st' := [.int (nI 1)]) rfl rfl ?_
              exact wl_ret rfl rfl ⟨_, rfl, k⟩
            · replace k := it_f (c := x0 = (nI 60)) c11 k
              refine wl_ild_n (pc' := 37) rfl e_0 rfl ?_
              refine wp_p (pc' := 39) (lv' := lv0) (st' := [.int (nI 62), .int x0]) rfl rfl ?_
              refine wp_ic_ne (pc' := 42) rfl rfl (fun c12 => ?_) (fun c12 => ?_)
              · replace k := it_f (c := x0 = (nI 62)) c12 k
                refine wp_p (pc' := 47) (lv' := lv0) (st' := [.int (nI 0)]) rfl rfl ?_
                exact wl_ret rfl rfl ⟨_, rfl, k⟩
              · replace k := it_t (c := x0 = (nI 62)) c12 k
                refine wp_p (pc' := 43) (lv' := lv0) (st' := [.int (nI 1)]) rfl rfl ?_
                refine wp_p (pc' := 47) (lv' := lv0) (st' := [.int (nI 1)]) rfl rfl ?_
                exact wl_ret rfl rfl ⟨_, rfl, k⟩
