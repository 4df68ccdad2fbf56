/-! SEGMENTS of the methods 55 to 78 (by program, wip/whole/gen25.py): what must hold of a way from one place to the next -/
/-! 55: QueryTables$Code.joined -/
set_option maxRecDepth 20000 in
theorem sp_55 {d : Nat} {m : Mm} {K : Option Value → Mm → Prop} (x0 : Int32) (y1 : Int64) (y3 : Int64) (k : (if x0 = (nI 17) then K (some (.long (mnL y1 y3))) m else (if x0 = (nI 16) then K (some (.long (mxL y1 y3))) m else (if x0 = (nI 61) then (if (lg_cmp y1 1099511627776) = (nI 0) then K (some (.long 1)) m else (if (lg_cmp y3 1099511627776) = (nI 0) then K (some (.long 1)) m else WP d 56 [.int x0, .long y1, .long y3] m (fun v m12 => ∃ w13, v = some (.long w13) ∧ K (some (.long w13)) m12))) else (if x0 = (nI 60) then (if (lg_cmp y1 1099511627776) = (nI 0) then K (some (.long 1)) m else (if (lg_cmp y3 1099511627776) = (nI 0) then K (some (.long 1)) m else WP d 56 [.int x0, .long y1, .long y3] m (fun v m23 => ∃ w24, v = some (.long w24) ∧ K (some (.long w24)) m23))) else (if x0 = (nI 62) then (if (lg_cmp y1 1099511627776) = (nI 0) then K (some (.long 1)) m else (if (lg_cmp y3 1099511627776) = (nI 0) then K (some (.long 1)) m else WP d 56 [.int x0, .long y1, .long y3] m (fun v m44 => ∃ w45, v = some (.long w45) ∧ K (some (.long w45)) m44))) else (if (lg_cmp y1 1099511627776) = (nI 0) then K (some (.long 1099511627776)) m else (if (lg_cmp y3 1099511627776) = (nI 0) then K (some (.long 1099511627776)) m else WP d 57 [.int x0, .int y1.toInt32, .int y3.toInt32] m (fun v m34 => ∃ w35, v = some (.long w35) ∧ K (some (.long w35)) m34))))))))) : WP (d + 1) 55 [.int x0, .long y1, .long y3] m K := by
  have e_0 : sm_lk (lv_args 0 [.int x0, .long y1, .long y3]) 0 = some (.int x0) := rfl
  have e_1 : sm_lk (lv_args 0 [.int x0, .long y1, .long y3]) 1 = some (.long y1) := rfl
  have e_3 : sm_lk (lv_args 0 [.int x0, .long y1, .long y3]) 3 = some (.long y3) := rfl
  show sm_wp (d + 1) 55 0 (lv_args 0 [.int x0, .long y1, .long y3]) [] (hp m) (WQ K)
  generalize lv_args 0 [.int x0, .long y1, .long y3] = lv0 at *
  refine wl_ild_n (pc' := 1) rfl e_0 rfl ?_
  refine wp_p (pc' := 3) (lv' := lv0) (st' := [.int (nI 17), .int x0]) rfl rfl ?_
  refine wp_ic_ne (pc' := 6) rfl rfl (fun c1 => ?_) (fun c1 => ?_)
  · replace k := it_f (c := x0 = (nI 17)) c1 k
    refine wl_ild_n (pc' := 13) rfl e_0 rfl ?_
    refine wp_p (pc' := 15) (lv' := lv0) (st' := [.int (nI 16), .int x0]) rfl rfl ?_
    refine wp_ic_ne (pc' := 18) rfl rfl (fun c2 => ?_) (fun c2 => ?_)
    · replace k := it_f (c := x0 = (nI 16)) c2 k
      refine wl_ild_n (pc' := 25) rfl e_0 rfl ?_
      refine wp_p (pc' := 27) (lv' := lv0) (st' := [.int (nI 61), .int x0]) rfl rfl ?_
      refine wp_ic_eq (pc' := 30) rfl rfl (fun c3 => ?_) (fun c3 => ?_)
      · replace k := it_t (c := x0 = (nI 61)) c3 k
        refine wp_p (pc' := 43) (lv' := lv0) (st' := [.int (nI 1)]) rfl rfl ?_
        refine wp_p (pc' := 47) (lv' := lv0) (st' := [.int (nI 1)]) rfl rfl ?_
        refine wl_st1 (pc' := 49) (k0 := 5) (v := .int (nI 1)) (r := []) rfl rfl (fun lv4 e5 f6 => ?_)
        have e7 := f6 0 _ e_0 (by decide) rfl
        have e8 := f6 1 _ e_1 (by decide) rfl
        have e9 := f6 3 _ e_3 (by decide) rfl
        refine wl_lld_n (pc' := 50) rfl e8 rfl ?_
        refine wp_p (pc' := 53) (lv' := lv4) (st' := [.long 1099511627776, .long y1]) rfl rfl ?_
        refine wp_lcmp (v := lg_cmp y1 1099511627776) (pc' := 54) rfl rfl rfl ?_
        refine wp_if_eq (pc' := 57) rfl rfl (fun c10 => ?_) (fun c10 => ?_)
        · replace k := it_t (c := (lg_cmp y1 1099511627776) = (nI 0)) c10 k
          refine wl_ild (pc' := 67) rfl e5 rfl ?_
          refine wp_p (pc' := 70) (lv' := lv4) (st' := []) rfl rfl ?_
          refine wp_p (pc' := 71) (lv' := lv4) (st' := [.long 1]) rfl rfl ?_
          refine wp_p (pc' := 77) (lv' := lv4) (st' := [.long 1]) rfl rfl ?_
          exact wp_r rfl rfl ⟨_, rfl, k⟩
        · replace k := it_f (c := (lg_cmp y1 1099511627776) = (nI 0)) c10 k
          refine wl_lld_n (pc' := 58) rfl e9 rfl ?_
          refine wp_p (pc' := 61) (lv' := lv4) (st' := [.long 1099511627776, .long y3]) rfl rfl ?_
          refine wp_lcmp (v := lg_cmp y3 1099511627776) (pc' := 62) rfl rfl rfl ?_
          refine wp_if_ne (pc' := 65) rfl rfl (fun c11 => ?_) (fun c11 => ?_)
          · replace k := it_f (c := (lg_cmp y3 1099511627776) = (nI 0)) c11 k
            refine wl_ild (pc' := 80) rfl e5 rfl ?_
            refine wp_p (pc' := 83) (lv' := lv4) (st' := []) rfl rfl ?_
            refine wl_ild_n (pc' := 84) rfl e7 rfl ?_
            refine wl_lld_n (pc' := 85) rfl e8 rfl ?_
            refine wl_lld_n (pc' := 86) rfl e9 rfl ?_
            refine wl_cs (As := [.int x0, .long y1, .long y3]) (r := []) (pc' := 89) rfl rfl rfl rfl k ?_
            rintro _ m12 ⟨w13, rfl, k⟩
            show sm_wp (d + 1) 55 89 lv4 [.long w13] (hp m12) (WQ K)
            refine wp_p (pc' := 100) (lv' := lv4) (st' := [.long w13]) rfl rfl ?_
            exact wp_r rfl rfl ⟨_, rfl, k⟩
          · replace k := it_t (c := (lg_cmp y3 1099511627776) = (nI 0)) c11 k
            refine wl_ild (pc' := 67) rfl e5 rfl ?_
            refine wp_p (pc' := 70) (lv' := lv4) (st' := []) rfl rfl ?_
            refine wp_p (pc' := 71) (lv' := lv4) (st' := [.long 1]) rfl rfl ?_
            refine wp_p (pc' := 77) (lv' := lv4) (st' := [.long 1]) rfl rfl ?_
            exact wp_r rfl rfl ⟨_, rfl, k⟩
      · replace k := it_f (c := x0 = (nI 61)) c3 k
        refine wl_ild_n (pc' := 31) rfl e_0 rfl ?_
        refine wp_p (pc' := 33) (lv' := lv0) (st' := [.int (nI 60), .int x0]) rfl rfl ?_
        refine wp_ic_eq (pc' := 36) rfl rfl (fun c14 => ?_) (fun c14 => ?_)
        · replace k := it_t (c := x0 = (nI 60)) c14 k
          refine wp_p (pc' := 43) (lv' := lv0) (st' := [.int (nI 1)]) rfl rfl ?_
          refine wp_p (pc' := 47) (lv' := lv0) (st' := [.int (nI 1)]) rfl rfl ?_
          refine wl_st1 (pc' := 49) (k0 := 5) (v := .int (nI 1)) (r := []) rfl rfl (fun lv15 e16 f17 => ?_)
          have e18 := f17 0 _ e_0 (by decide) rfl
          have e19 := f17 1 _ e_1 (by decide) rfl
          have e20 := f17 3 _ e_3 (by decide) rfl
          refine wl_lld_n (pc' := 50) rfl e19 rfl ?_
          refine wp_p (pc' := 53) (lv' := lv15) (st' := [.long 1099511627776, .long y1]) rfl rfl ?_
          refine wp_lcmp (v := lg_cmp y1 1099511627776) (pc' := 54) rfl rfl rfl ?_
          refine wp_if_eq (pc' := 57) rfl rfl (fun c21 => ?_) (fun c21 => ?_)
          · replace k := it_t (c := (lg_cmp y1 1099511627776) = (nI 0)) c21 k
            refine wl_ild (pc' := 67) rfl e16 rfl ?_
            refine wp_p (pc' := 70) (lv' := lv15) (st' := []) rfl rfl ?_
            refine wp_p (pc' := 71) (lv' := lv15) (st' := [.long 1]) rfl rfl ?_
            refine wp_p (pc' := 77) (lv' := lv15) (st' := [.long 1]) rfl rfl ?_
            exact wp_r rfl rfl ⟨_, rfl, k⟩
          · replace k := it_f (c := (lg_cmp y1 1099511627776) = (nI 0)) c21 k
            refine wl_lld_n (pc' := 58) rfl e20 rfl ?_
            refine wp_p (pc' := 61) (lv' := lv15) (st' := [.long 1099511627776, .long y3]) rfl rfl ?_
            refine wp_lcmp (v := lg_cmp y3 1099511627776) (pc' := 62) rfl rfl rfl ?_
            refine wp_if_ne (pc' := 65) rfl rfl (fun c22 => ?_) (fun c22 => ?_)
            · replace k := it_f (c := (lg_cmp y3 1099511627776) = (nI 0)) c22 k
              refine wl_ild (pc' := 80) rfl e16 rfl ?_
              refine wp_p (pc' := 83) (lv' := lv15) (st' := []) rfl rfl ?_
              refine wl_ild_n (pc' := 84) rfl e18 rfl ?_
              refine wl_lld_n (pc' := 85) rfl e19 rfl ?_
              refine wl_lld_n (pc' := 86) rfl e20 rfl ?_
              refine wl_cs (As := [.int x0, .long y1, .long y3]) (r := []) (pc' := 89) rfl rfl rfl rfl k ?_
              rintro _ m23 ⟨w24, rfl, k⟩
              show sm_wp (d + 1) 55 89 lv15 [.long w24] (hp m23) (WQ K)
              refine wp_p (pc' := 100) (lv' := lv15) (st' := [.long w24]) rfl rfl ?_
              exact wp_r rfl rfl ⟨_, rfl, k⟩
            · replace k := it_t (c := (lg_cmp y3 1099511627776) = (nI 0)) c22 k
              refine wl_ild (pc' := 67) rfl e16 rfl ?_
              refine wp_p (pc' := 70) (lv' := lv15) (st' := []) rfl rfl ?_
              refine wp_p (pc' := 71) (lv' := lv15) (st' := [.long 1]) rfl rfl ?_
              refine wp_p (pc' := 77) (lv' := lv15) (st' := [.long 1]) rfl rfl ?_
              exact wp_r rfl rfl ⟨_, rfl, k⟩
        · replace k := it_f (c := x0 = (nI 60)) c14 k
          refine wl_ild_n (pc' := 37) rfl e_0 rfl ?_
          refine wp_p (pc' := 39) (lv' := lv0) (st' := [.int (nI 62), .int x0]) rfl rfl ?_
          refine wp_ic_ne (pc' := 42) rfl rfl (fun c25 => ?_) (fun c25 => ?_)
          · replace k := it_f (c := x0 = (nI 62)) c25 k
            refine wp_p (pc' := 47) (lv' := lv0) (st' := [.int (nI 0)]) rfl rfl ?_
            refine wl_st1 (pc' := 49) (k0 := 5) (v := .int (nI 0)) (r := []) rfl rfl (fun lv26 e27 f28 => ?_)
            have e29 := f28 0 _ e_0 (by decide) rfl
            have e30 := f28 1 _ e_1 (by decide) rfl
            have e31 := f28 3 _ e_3 (by decide) rfl
            refine wl_lld_n (pc' := 50) rfl e30 rfl ?_
            refine wp_p (pc' := 53) (lv' := lv26) (st' := [.long 1099511627776, .long y1]) rfl rfl ?_
            refine wp_lcmp (v := lg_cmp y1 1099511627776) (pc' := 54) rfl rfl rfl ?_
            refine wp_if_eq (pc' := 57) rfl rfl (fun c32 => ?_) (fun c32 => ?_)
            · replace k := it_t (c := (lg_cmp y1 1099511627776) = (nI 0)) c32 k
              refine wl_ild (pc' := 67) rfl e27 rfl ?_
              refine wp_p (pc' := 74) (lv' := lv26) (st' := []) rfl rfl ?_
              refine wp_p (pc' := 77) (lv' := lv26) (st' := [.long 1099511627776]) rfl rfl ?_
              exact wp_r rfl rfl ⟨_, rfl, k⟩
            · replace k := it_f (c := (lg_cmp y1 1099511627776) = (nI 0)) c32 k
              refine wl_lld_n (pc' := 58) rfl e31 rfl ?_
              refine wp_p (pc' := 61) (lv' := lv26) (st' := [.long 1099511627776, .long y3]) rfl rfl ?_
              refine wp_lcmp (v := lg_cmp y3 1099511627776) (pc' := 62) rfl rfl rfl ?_
              refine wp_if_ne (pc' := 65) rfl rfl (fun c33 => ?_) (fun c33 => ?_)
              · replace k := it_f (c := (lg_cmp y3 1099511627776) = (nI 0)) c33 k
                refine wl_ild (pc' := 80) rfl e27 rfl ?_
                refine wp_p (pc' := 92) (lv' := lv26) (st' := []) rfl rfl ?_
                refine wl_ild_n (pc' := 93) rfl e29 rfl ?_
                refine wl_lld_n (pc' := 94) rfl e30 rfl ?_
                refine wp_l2i (v := y1.toInt32) (pc' := 95) rfl rfl rfl ?_
                refine wl_lld_n (pc' := 96) rfl e31 rfl ?_
                refine wp_l2i (v := y3.toInt32) (pc' := 97) rfl rfl rfl ?_
                refine wl_cs (As := [.int x0, .int y1.toInt32, .int y3.toInt32]) (r := []) (pc' := 100) rfl rfl rfl rfl k ?_
                rintro _ m34 ⟨w35, rfl, k⟩
                show sm_wp (d + 1) 55 100 lv26 [.long w35] (hp m34) (WQ K)
                exact wp_r rfl rfl ⟨_, rfl, k⟩
              · replace k := it_t (c := (lg_cmp y3 1099511627776) = (nI 0)) c33 k
                refine wl_ild (pc' := 67) rfl e27 rfl ?_
                refine wp_p (pc' := 74) (lv' := lv26) (st' := []) rfl rfl ?_
                refine wp_p (pc' := 77) (lv' := lv26) (st' := [.long 1099511627776]) rfl rfl ?_
                exact wp_r rfl rfl ⟨_, rfl, k⟩
          · replace k := it_t (c := x0 = (nI 62)) c25 k
            refine wp_p (pc' := 43) (lv' := lv0) (st' := [.int (nI 1)]) rfl rfl ?_
            refine wp_p (pc' := 47) (lv' := lv0) (st' := [.int (nI 1)]) rfl rfl ?_
            refine wl_st1 (pc' := 49) (k0 := 5) (v := .int (nI 1)) (r := []) rfl rfl (fun lv36 e37 f38 => ?_)
            have e39 := f38 0 _ e_0 (by decide) rfl
            have e40 := f38 1 _ e_1 (by decide) rfl
            have e41 := f38 3 _ e_3 (by decide) rfl
            refine wl_lld_n (pc' := 50) rfl e40 rfl ?_
            refine wp_p (pc' := 53) (lv' := lv36) (st' := [.long 1099511627776, .long y1]) rfl rfl ?_
            refine wp_lcmp (v := lg_cmp y1 1099511627776) (pc' := 54) rfl rfl rfl ?_
            refine wp_if_eq (pc' := 57) rfl rfl (fun c42 => ?_) (fun c42 => ?_)
            · replace k := it_t (c := (lg_cmp y1 1099511627776) = (nI 0)) c42 k
              refine wl_ild (pc' := 67) rfl e37 rfl ?_
              refine wp_p (pc' := 70) (lv' := lv36) (st' := []) rfl rfl ?_
              refine wp_p (pc' := 71) (lv' := lv36) (st' := [.long 1]) rfl rfl ?_
              refine wp_p (pc' := 77) (lv' := lv36) (st' := [.long 1]) rfl rfl ?_
              exact wp_r rfl rfl ⟨_, rfl, k⟩
            · replace k := it_f (c := (lg_cmp y1 1099511627776) = (nI 0)) c42 k
              refine wl_lld_n (pc' := 58) rfl e41 rfl ?_
              refine wp_p (pc' := 61) (lv' := lv36) (st' := [.long 1099511627776, .long y3]) rfl rfl ?_
              refine wp_lcmp (v := lg_cmp y3 1099511627776) (pc' := 62) rfl rfl rfl ?_
              refine wp_if_ne (pc' := 65) rfl rfl (fun c43 => ?_) (fun c43 => ?_)
              · replace k := it_f (c := (lg_cmp y3 1099511627776) = (nI 0)) c43 k
                refine wl_ild (pc' := 80) rfl e37 rfl ?_
                refine wp_p (pc' := 83) (lv' := lv36) (st' := []) rfl rfl ?_
                refine wl_ild_n (pc' := 84) rfl e39 rfl ?_
                refine wl_lld_n (pc' := 85) rfl e40 rfl ?_
                refine wl_lld_n (pc' := 86) rfl e41 rfl ?_
                refine wl_cs (As := [.int x0, .long y1, .long y3]) (r := []) (pc' := 89) rfl rfl rfl rfl k ?_
                rintro _ m44 ⟨w45, rfl, k⟩
                show sm_wp (d + 1) 55 89 lv36 [.long w45] (hp m44) (WQ K)
                refine wp_p (pc' := 100) (lv' := lv36) (st' := [.long w45]) rfl rfl ?_
                exact wp_r rfl rfl ⟨_, rfl, k⟩
              · replace k := it_t (c := (lg_cmp y3 1099511627776) = (nI 0)) c43 k
                refine wl_ild (pc' := 67) rfl e37 rfl ?_
                refine wp_p (pc' := 70) (lv' := lv36) (st' := []) rfl rfl ?_
                refine wp_p (pc' := 71) (lv' := lv36) (st' := [.long 1]) rfl rfl ?_
                refine wp_p (pc' := 77) (lv' := lv36) (st' := [.long 1]) rfl rfl ?_
                exact wp_r rfl rfl ⟨_, rfl, k⟩
    · replace k := it_t (c := x0 = (nI 16)) c2 k
      refine wl_lld_n (pc' := 19) rfl e_1 rfl ?_
      refine wl_lld_n (pc' := 20) rfl e_3 rfl ?_
      refine wp_mm (st' := [.long (mxL y1 y3)]) (pc' := 23) rfl rfl rfl rfl rfl ?_
      exact wp_r rfl rfl ⟨_, rfl, k⟩
  · replace k := it_t (c := x0 = (nI 17)) c1 k
    refine wl_lld_n (pc' := 7) rfl e_1 rfl ?_
    refine wl_lld_n (pc' := 8) rfl e_3 rfl ?_
    refine wp_mm (st' := [.long (mnL y1 y3)]) (pc' := 11) rfl rfl rfl rfl rfl ?_
    exact wp_r rfl rfl ⟨_, rfl, k⟩
/-! 56: QueryTables$Code.compared -/
set_option maxRecDepth 20000 in
theorem sp_56 {d : Nat} {m : Mm} {K : Option Value → Mm → Prop} (x0 : Int32) (y1 : Int64) (y3 : Int64) (k : (if x0 = (nI 61) then (if (lg_cmp y1 y3) = (nI 0) then K (some (.long 2)) m else K (some (.long 0)) m) else (if x0 = (nI 60) then (if (nI 0) ≤ (lg_cmp y1 y3) then K (some (.long 0)) m else K (some (.long 2)) m) else (if (lg_cmp y1 y3) ≤ (nI 0) then K (some (.long 0)) m else K (some (.long 2)) m)))) : WP d 56 [.int x0, .long y1, .long y3] m K := by
  have e_0 : sm_lk (lv_args 0 [.int x0, .long y1, .long y3]) 0 = some (.int x0) := rfl
  have e_1 : sm_lk (lv_args 0 [.int x0, .long y1, .long y3]) 1 = some (.long y1) := rfl
  have e_3 : sm_lk (lv_args 0 [.int x0, .long y1, .long y3]) 3 = some (.long y3) := rfl
  show sm_wp d 56 0 (lv_args 0 [.int x0, .long y1, .long y3]) [] (hp m) (WQ K)
  generalize lv_args 0 [.int x0, .long y1, .long y3] = lv0 at *
  refine wl_ild_n (pc' := 1) rfl e_0 rfl ?_
  refine wp_p (pc' := 3) (lv' := lv0) (st' := [.int (nI 61), .int x0]) rfl rfl ?_
  refine wp_ic_ne (pc' := 6) rfl rfl (fun c1 => ?_) (fun c1 => ?_)
  · replace k := it_f (c := x0 = (nI 61)) c1 k
    refine wl_ild_n (pc' := 21) rfl e_0 rfl ?_
    refine wp_p (pc' := 23) (lv' := lv0) (st' := [.int (nI 60), .int x0]) rfl rfl ?_
    refine wp_ic_ne (pc' := 26) rfl rfl (fun c2 => ?_) (fun c2 => ?_)
    · replace k := it_f (c := x0 = (nI 60)) c2 k
      refine wl_lld_n (pc' := 41) rfl e_1 rfl ?_
      refine wl_lld_n (pc' := 42) rfl e_3 rfl ?_
      refine wp_lcmp (v := lg_cmp y1 y3) (pc' := 43) rfl rfl rfl ?_
      refine wp_if_le (pc' := 46) rfl rfl (fun c3 => ?_) (fun c3 => ?_)
      · replace k := it_t (c := (lg_cmp y1 y3) ≤ (nI 0)) c3 k
        refine wp_p (pc' := 51) (lv' := lv0) (st' := [.int (nI 0)]) rfl rfl ?_
        refine wl_st1 (pc' := 53) (k0 := 5) (v := .int (nI 0)) (r := []) rfl rfl (fun lv4 e5 f6 => ?_)
        have e7 := f6 0 _ e_0 (by decide) rfl
        have e8 := f6 1 _ e_1 (by decide) rfl
        have e9 := f6 3 _ e_3 (by decide) rfl
        refine wl_ild (pc' := 55) rfl e5 rfl ?_
        refine wp_p (pc' := 64) (lv' := lv4) (st' := []) rfl rfl ?_
        refine wp_p (pc' := 65) (lv' := lv4) (st' := [.long 0]) rfl rfl ?_
        exact wp_r rfl rfl ⟨_, rfl, k⟩
      · replace k := it_f (c := (lg_cmp y1 y3) ≤ (nI 0)) c3 k
        refine wp_p (pc' := 47) (lv' := lv0) (st' := [.int (nI 1)]) rfl rfl ?_
        refine wp_p (pc' := 51) (lv' := lv0) (st' := [.int (nI 1)]) rfl rfl ?_
        refine wl_st1 (pc' := 53) (k0 := 5) (v := .int (nI 1)) (r := []) rfl rfl (fun lv10 e11 f12 => ?_)
        have e13 := f12 0 _ e_0 (by decide) rfl
        have e14 := f12 1 _ e_1 (by decide) rfl
        have e15 := f12 3 _ e_3 (by decide) rfl
        refine wl_ild (pc' := 55) rfl e11 rfl ?_
        refine wp_p (pc' := 58) (lv' := lv10) (st' := []) rfl rfl ?_
        refine wp_p (pc' := 61) (lv' := lv10) (st' := [.long 2]) rfl rfl ?_
        refine wp_p (pc' := 65) (lv' := lv10) (st' := [.long 2]) rfl rfl ?_
        exact wp_r rfl rfl ⟨_, rfl, k⟩
    · replace k := it_t (c := x0 = (nI 60)) c2 k
      refine wl_lld_n (pc' := 27) rfl e_1 rfl ?_
      refine wl_lld_n (pc' := 28) rfl e_3 rfl ?_
      refine wp_lcmp (v := lg_cmp y1 y3) (pc' := 29) rfl rfl rfl ?_
      refine wp_if_ge (pc' := 32) rfl rfl (fun c16 => ?_) (fun c16 => ?_)
      · replace k := it_t (c := (nI 0) ≤ (lg_cmp y1 y3)) c16 k
        refine wp_p (pc' := 37) (lv' := lv0) (st' := [.int (nI 0)]) rfl rfl ?_
        refine wp_p (pc' := 51) (lv' := lv0) (st' := [.int (nI 0)]) rfl rfl ?_
        refine wl_st1 (pc' := 53) (k0 := 5) (v := .int (nI 0)) (r := []) rfl rfl (fun lv17 e18 f19 => ?_)
        have e20 := f19 0 _ e_0 (by decide) rfl
        have e21 := f19 1 _ e_1 (by decide) rfl
        have e22 := f19 3 _ e_3 (by decide) rfl
        refine wl_ild (pc' := 55) rfl e18 rfl ?_
        refine wp_p (pc' := 64) (lv' := lv17) (st' := []) rfl rfl ?_
        refine wp_p (pc' := 65) (lv' := lv17) (st' := [.long 0]) rfl rfl ?_
        exact wp_r rfl rfl ⟨_, rfl, k⟩
      · replace k := it_f (c := (nI 0) ≤ (lg_cmp y1 y3)) c16 k
        refine wp_p (pc' := 33) (lv' := lv0) (st' := [.int (nI 1)]) rfl rfl ?_
        refine wp_p (pc' := 51) (lv' := lv0) (st' := [.int (nI 1)]) rfl rfl ?_
        refine wl_st1 (pc' := 53) (k0 := 5) (v := .int (nI 1)) (r := []) rfl rfl (fun lv23 e24 f25 => ?_)
        have e26 := f25 0 _ e_0 (by decide) rfl
        have e27 := f25 1 _ e_1 (by decide) rfl
        have e28 := f25 3 _ e_3 (by decide) rfl
        refine wl_ild (pc' := 55) rfl e24 rfl ?_
        refine wp_p (pc' := 58) (lv' := lv23) (st' := []) rfl rfl ?_
        refine wp_p (pc' := 61) (lv' := lv23) (st' := [.long 2]) rfl rfl ?_
        refine wp_p (pc' := 65) (lv' := lv23) (st' := [.long 2]) rfl rfl ?_
        exact wp_r rfl rfl ⟨_, rfl, k⟩
  · replace k := it_t (c := x0 = (nI 61)) c1 k
    refine wl_lld_n (pc' := 7) rfl e_1 rfl ?_
    refine wl_lld_n (pc' := 8) rfl e_3 rfl ?_
    refine wp_lcmp (v := lg_cmp y1 y3) (pc' := 9) rfl rfl rfl ?_
    refine wp_if_ne (pc' := 12) rfl rfl (fun c29 => ?_) (fun c29 => ?_)
    · replace k := it_f (c := (lg_cmp y1 y3) = (nI 0)) c29 k
      refine wp_p (pc' := 17) (lv' := lv0) (st' := [.int (nI 0)]) rfl rfl ?_
      refine wp_p (pc' := 51) (lv' := lv0) (st' := [.int (nI 0)]) rfl rfl ?_
      refine wl_st1 (pc' := 53) (k0 := 5) (v := .int (nI 0)) (r := []) rfl rfl (fun lv30 e31 f32 => ?_)
      have e33 := f32 0 _ e_0 (by decide) rfl
      have e34 := f32 1 _ e_1 (by decide) rfl
      have e35 := f32 3 _ e_3 (by decide) rfl
      refine wl_ild (pc' := 55) rfl e31 rfl ?_
      refine wp_p (pc' := 64) (lv' := lv30) (st' := []) rfl rfl ?_
      refine wp_p (pc' := 65) (lv' := lv30) (st' := [.long 0]) rfl rfl ?_
      exact wp_r rfl rfl ⟨_, rfl, k⟩
    · replace k := it_t (c := (lg_cmp y1 y3) = (nI 0)) c29 k
      refine wp_p (pc' := 13) (lv' := lv0) (st' := [.int (nI 1)]) rfl rfl ?_
      refine wp_p (pc' := 51) (lv' := lv0) (st' := [.int (nI 1)]) rfl rfl ?_
      refine wl_st1 (pc' := 53) (k0 := 5) (v := .int (nI 1)) (r := []) rfl rfl (fun lv36 e37 f38 => ?_)
      have e39 := f38 0 _ e_0 (by decide) rfl
      have e40 := f38 1 _ e_1 (by decide) rfl
      have e41 := f38 3 _ e_3 (by decide) rfl
      refine wl_ild (pc' := 55) rfl e37 rfl ?_
      refine wp_p (pc' := 58) (lv' := lv36) (st' := []) rfl rfl ?_
      refine wp_p (pc' := 61) (lv' := lv36) (st' := [.long 2]) rfl rfl ?_
      refine wp_p (pc' := 65) (lv' := lv36) (st' := [.long 2]) rfl rfl ?_
      exact wp_r rfl rfl ⟨_, rfl, k⟩
/-! 57: QueryTables$Code.reckoned -/
set_option maxRecDepth 20000 in
theorem sp_57 {d : Nat} {m : Mm} {K : Option Value → Mm → Prop} (x0 : Int32) (x1 : Int32) (x2 : Int32) (k : (if x0 = nI 42 then K (some (.long ((x1 * x2).toInt64))) m else (if x0 = nI 43 then K (some (.long ((x1 + x2).toInt64))) m else (if x0 = nI 45 then K (some (.long ((x1 - x2).toInt64))) m else (if x2 = (nI 0) then K (some (.long 1099511627776)) m else ¬ x2 = 0 ∧ K (some (.long ((x1 / x2).toInt64))) m))))) : WP d 57 [.int x0, .int x1, .int x2] m K := by
  have e_0 : sm_lk (lv_args 0 [.int x0, .int x1, .int x2]) 0 = some (.int x0) := rfl
  have e_1 : sm_lk (lv_args 0 [.int x0, .int x1, .int x2]) 1 = some (.int x1) := rfl
  have e_2 : sm_lk (lv_args 0 [.int x0, .int x1, .int x2]) 2 = some (.int x2) := rfl
  show sm_wp d 57 0 (lv_args 0 [.int x0, .int x1, .int x2]) [] (hp m) (WQ K)
  generalize lv_args 0 [.int x0, .int x1, .int x2] = lv0 at *
  refine wl_ild_n (pc' := 1) rfl e_0 rfl ?_
  by_cases c1 : x0 = nI 42
  · replace k := it_t (c := x0 = nI 42) c1 k
    refine wl_sw (pc' := 42) (r := []) c1 rfl rfl ?_
    refine wl_ild_n (pc' := 43) rfl e_1 rfl ?_
    refine wl_ild_n (pc' := 44) rfl e_2 rfl ?_
    refine wp_imul (v := x1 * x2) (pc' := 45) rfl rfl rfl ?_
    refine wp_i2l (v := (x1 * x2).toInt64) (pc' := 46) rfl rfl rfl ?_
    exact wp_r rfl rfl ⟨_, rfl, k⟩
  replace k := it_f (c := x0 = nI 42) c1 k
  by_cases c2 : x0 = nI 43
  · replace k := it_t (c := x0 = nI 43) c2 k
    refine wl_sw (pc' := 32) (r := []) c2 rfl rfl ?_
    refine wl_ild_n (pc' := 33) rfl e_1 rfl ?_
    refine wl_ild_n (pc' := 34) rfl e_2 rfl ?_
    refine wp_iadd (v := x1 + x2) (pc' := 35) rfl rfl rfl ?_
    refine wp_i2l (v := (x1 + x2).toInt64) (pc' := 36) rfl rfl rfl ?_
    exact wp_r rfl rfl ⟨_, rfl, k⟩
  replace k := it_f (c := x0 = nI 43) c2 k
  by_cases c3 : x0 = nI 45
  · replace k := it_t (c := x0 = nI 45) c3 k
    refine wl_sw (pc' := 37) (r := []) c3 rfl rfl ?_
    refine wl_ild_n (pc' := 38) rfl e_1 rfl ?_
    refine wl_ild_n (pc' := 39) rfl e_2 rfl ?_
    refine wp_isub (v := x1 - x2) (pc' := 40) rfl rfl rfl ?_
    refine wp_i2l (v := (x1 - x2).toInt64) (pc' := 41) rfl rfl rfl ?_
    exact wp_r rfl rfl ⟨_, rfl, k⟩
  replace k := it_f (c := x0 = nI 45) c3 k
  by_cases c4 : x0 = nI 44
  · refine wl_sw (pc' := 47) (r := []) c4 rfl rfl ?_
    refine wl_ild_n (pc' := 48) rfl e_2 rfl ?_
    refine wp_if_ne (pc' := 51) rfl rfl (fun c5 => ?_) (fun c5 => ?_)
    · replace k := it_f (c := x2 = (nI 0)) c5 k
      refine wl_ild_n (pc' := 58) rfl e_1 rfl ?_
      refine wl_ild_n (pc' := 59) rfl e_2 rfl ?_
      obtain ⟨k6, k⟩ := k
      refine wp_idiv (v := x1 / x2) (pc' := 60) rfl k6 rfl rfl ?_
      refine wp_i2l (v := (x1 / x2).toInt64) (pc' := 61) rfl rfl rfl ?_
      exact wp_r rfl rfl ⟨_, rfl, k⟩
    · replace k := it_t (c := x2 = (nI 0)) c5 k
      refine wp_p (pc' := 54) (lv' := lv0) (st' := [.long 1099511627776]) rfl rfl ?_
      refine wp_p (pc' := 61) (lv' := lv0) (st' := [.long 1099511627776]) rfl rfl ?_
      exact wp_r rfl rfl ⟨_, rfl, k⟩
  have nc1 := sw_ne (n := 42) (by decide) c1
  have nc2 := sw_ne (n := 43) (by decide) c2
  have nc3 := sw_ne (n := 45) (by decide) c3
  have nc4 := sw_ne (n := 44) (by decide) c4
  refine wl_td (pc' := 47) (r := []) rfl (by omega) rfl ?_
  refine wl_ild_n (pc' := 48) rfl e_2 rfl ?_
  refine wp_if_ne (pc' := 51) rfl rfl (fun c7 => ?_) (fun c7 => ?_)
  · replace k := it_f (c := x2 = (nI 0)) c7 k
    refine wl_ild_n (pc' := 58) rfl e_1 rfl ?_
    refine wl_ild_n (pc' := 59) rfl e_2 rfl ?_
    obtain ⟨k8, k⟩ := k
    refine wp_idiv (v := x1 / x2) (pc' := 60) rfl k8 rfl rfl ?_
    refine wp_i2l (v := (x1 / x2).toInt64) (pc' := 61) rfl rfl rfl ?_
    exact wp_r rfl rfl ⟨_, rfl, k⟩
  · replace k := it_t (c := x2 = (nI 0)) c7 k
    refine wp_p (pc' := 54) (lv' := lv0) (st' := [.long 1099511627776]) rfl rfl ?_
    refine wp_p (pc' := 61) (lv' := lv0) (st' := [.long 1099511627776]) rfl rfl ?_
    exact wp_r rfl rfl ⟨_, rfl, k⟩
/-! 59: QueryTables$Statement.clear -/
set_option maxRecDepth 20000 in
theorem sp_59 {d : Nat} {m : Mm} {K : Option Value → Mm → Prop} (k : K none (((((((((((((m.uF 12 4 (nI 0)).uF 12 5 (nI 0)).uF 12 6 (-1)).uF 12 7 (nI 0)).uF 12 8 (nI 0)).uF 12 9 (nI 0)).uF 12 10 (nI 0)).uF 12 11 (nI 0)).uF 12 12 (nI 0)).uF 12 13 (nI 0)).uF 12 14 (nI 0)).uF 12 15 (nI 2147483647)).uF 12 16 (nI 0))) : WP d 59 [.ref 12] m K := by
  have e_0 : sm_lk (lv_args 0 [.ref 12]) 0 = some (.ref 12) := rfl
  show sm_wp d 59 0 (lv_args 0 [.ref 12]) [] (hp m) (WQ K)
  generalize lv_args 0 [.ref 12] = lv0 at *
  refine wl_ald_n (pc' := 1) rfl e_0 rfl ?_
  refine wp_p (pc' := 2) (lv' := lv0) (st' := [.int (nI 0), .ref 12]) rfl rfl ?_
  refine wl_put (pc' := 5) (h2 := hp (m.uF 12 4 (nI 0))) rfl (hq_12 _) rfl rfl rfl (pf_12_4 _ _) ?_
  refine wl_ald_n (pc' := 6) rfl e_0 rfl ?_
  refine wp_p (pc' := 7) (lv' := lv0) (st' := [.int (nI 0), .ref 12]) rfl rfl ?_
  refine wl_put (pc' := 10) (h2 := hp ((m.uF 12 4 (nI 0)).uF 12 5 (nI 0))) rfl (hq_12 _) rfl rfl rfl (pf_12_5 _ _) ?_
  refine wl_ald_n (pc' := 11) rfl e_0 rfl ?_
  refine wp_p (pc' := 12) (lv' := lv0) (st' := [.int (-1), .ref 12]) rfl rfl ?_
  refine wl_put (pc' := 15) (h2 := hp (((m.uF 12 4 (nI 0)).uF 12 5 (nI 0)).uF 12 6 (-1))) rfl (hq_12 _) rfl rfl rfl (pf_12_6 _ _) ?_
  refine wl_ald_n (pc' := 16) rfl e_0 rfl ?_
  refine wp_p (pc' := 17) (lv' := lv0) (st' := [.int (nI 0), .ref 12]) rfl rfl ?_
  refine wl_put (pc' := 20) (h2 := hp ((((m.uF 12 4 (nI 0)).uF 12 5 (nI 0)).uF 12 6 (-1)).uF 12 7 (nI 0))) rfl (hq_12 _) rfl rfl rfl (pf_12_7 _ _) ?_
  refine wl_ald_n (pc' := 21) rfl e_0 rfl ?_
  refine wp_p (pc' := 22) (lv' := lv0) (st' := [.int (nI 0), .ref 12]) rfl rfl ?_
  refine wl_put (pc' := 25) (h2 := hp (((((m.uF 12 4 (nI 0)).uF 12 5 (nI 0)).uF 12 6 (-1)).uF 12 7 (nI 0)).uF 12 8 (nI 0))) rfl (hq_12 _) rfl rfl rfl (pf_12_8 _ _) ?_
  refine wl_ald_n (pc' := 26) rfl e_0 rfl ?_
  refine wp_p (pc' := 27) (lv' := lv0) (st' := [.int (nI 0), .ref 12]) rfl rfl ?_
  refine wl_put (pc' := 30) (h2 := hp ((((((m.uF 12 4 (nI 0)).uF 12 5 (nI 0)).uF 12 6 (-1)).uF 12 7 (nI 0)).uF 12 8 (nI 0)).uF 12 9 (nI 0))) rfl (hq_12 _) rfl rfl rfl (pf_12_9 _ _) ?_
  refine wl_ald_n (pc' := 31) rfl e_0 rfl ?_
  refine wp_p (pc' := 32) (lv' := lv0) (st' := [.int (nI 0), .ref 12]) rfl rfl ?_
  refine wl_put (pc' := 35) (h2 := hp (((((((m.uF 12 4 (nI 0)).uF 12 5 (nI 0)).uF 12 6 (-1)).uF 12 7 (nI 0)).uF 12 8 (nI 0)).uF 12 9 (nI 0)).uF 12 10 (nI 0))) rfl (hq_12 _) rfl rfl rfl (pf_12_10 _ _) ?_
  refine wl_ald_n (pc' := 36) rfl e_0 rfl ?_
  refine wp_p (pc' := 37) (lv' := lv0) (st' := [.int (nI 0), .ref 12]) rfl rfl ?_
  refine wl_put (pc' := 40) (h2 := hp ((((((((m.uF 12 4 (nI 0)).uF 12 5 (nI 0)).uF 12 6 (-1)).uF 12 7 (nI 0)).uF 12 8 (nI 0)).uF 12 9 (nI 0)).uF 12 10 (nI 0)).uF 12 11 (nI 0))) rfl (hq_12 _) rfl rfl rfl (pf_12_11 _ _) ?_
  refine wl_ald_n (pc' := 41) rfl e_0 rfl ?_
  refine wp_p (pc' := 42) (lv' := lv0) (st' := [.int (nI 0), .ref 12]) rfl rfl ?_
  refine wl_put (pc' := 45) (h2 := hp (((((((((m.uF 12 4 (nI 0)).uF 12 5 (nI 0)).uF 12 6 (-1)).uF 12 7 (nI 0)).uF 12 8 (nI 0)).uF 12 9 (nI 0)).uF 12 10 (nI 0)).uF 12 11 (nI 0)).uF 12 12 (nI 0))) rfl (hq_12 _) rfl rfl rfl (pf_12_12 _ _) ?_
  refine wl_ald_n (pc' := 46) rfl e_0 rfl ?_
  refine wp_p (pc' := 47) (lv' := lv0) (st' := [.int (nI 0), .ref 12]) rfl rfl ?_
  refine wl_put (pc' := 50) (h2 := hp ((((((((((m.uF 12 4 (nI 0)).uF 12 5 (nI 0)).uF 12 6 (-1)).uF 12 7 (nI 0)).uF 12 8 (nI 0)).uF 12 9 (nI 0)).uF 12 10 (nI 0)).uF 12 11 (nI 0)).uF 12 12 (nI 0)).uF 12 13 (nI 0))) rfl (hq_12 _) rfl rfl rfl (pf_12_13 _ _) ?_
  refine wl_ald_n (pc' := 51) rfl e_0 rfl ?_
  refine wp_p (pc' := 52) (lv' := lv0) (st' := [.int (nI 0), .ref 12]) rfl rfl ?_
  refine wl_put (pc' := 55) (h2 := hp (((((((((((m.uF 12 4 (nI 0)).uF 12 5 (nI 0)).uF 12 6 (-1)).uF 12 7 (nI 0)).uF 12 8 (nI 0)).uF 12 9 (nI 0)).uF 12 10 (nI 0)).uF 12 11 (nI 0)).uF 12 12 (nI 0)).uF 12 13 (nI 0)).uF 12 14 (nI 0))) rfl (hq_12 _) rfl rfl rfl (pf_12_14 _ _) ?_
  refine wl_ald_n (pc' := 56) rfl e_0 rfl ?_
  refine wp_p (pc' := 58) (lv' := lv0) (st' := [.int (nI 2147483647), .ref 12]) rfl rfl ?_
  refine wl_put (pc' := 61) (h2 := hp ((((((((((((m.uF 12 4 (nI 0)).uF 12 5 (nI 0)).uF 12 6 (-1)).uF 12 7 (nI 0)).uF 12 8 (nI 0)).uF 12 9 (nI 0)).uF 12 10 (nI 0)).uF 12 11 (nI 0)).uF 12 12 (nI 0)).uF 12 13 (nI 0)).uF 12 14 (nI 0)).uF 12 15 (nI 2147483647))) rfl (hq_12 _) rfl rfl rfl (pf_12_15 _ _) ?_
  refine wl_ald_n (pc' := 62) rfl e_0 rfl ?_
  refine wp_p (pc' := 63) (lv' := lv0) (st' := [.int (nI 0), .ref 12]) rfl rfl ?_
  refine wl_put (pc' := 66) (h2 := hp (((((((((((((m.uF 12 4 (nI 0)).uF 12 5 (nI 0)).uF 12 6 (-1)).uF 12 7 (nI 0)).uF 12 8 (nI 0)).uF 12 9 (nI 0)).uF 12 10 (nI 0)).uF 12 11 (nI 0)).uF 12 12 (nI 0)).uF 12 13 (nI 0)).uF 12 14 (nI 0)).uF 12 15 (nI 2147483647)).uF 12 16 (nI 0))) rfl (hq_12 _) rfl rfl rfl (pf_12_16 _ _) ?_
  exact wp_r rfl rfl ⟨_, rfl, k⟩
/-! 60: QueryTables$Statement.addListed -/
set_option maxRecDepth 20000 in
theorem sp_60 {d : Nat} {m : Mm} {K : Option Value → Mm → Prop} (x1 : Int32) (k : (if (nI 80) ≤ (m.F 12 9) then K none m else ok (m.A 13).length (m.F 12 9) ∧ K none ((m.uA 13 ((m.A 13).set (ix (m.F 12 9)) x1)).uF 12 9 ((m.F 12 9) + (nI 1))))) : WP d 60 [.ref 12, .int x1] m K := by
  have e_0 : sm_lk (lv_args 0 [.ref 12, .int x1]) 0 = some (.ref 12) := rfl
  have e_1 : sm_lk (lv_args 0 [.ref 12, .int x1]) 1 = some (.int x1) := rfl
  show sm_wp d 60 0 (lv_args 0 [.ref 12, .int x1]) [] (hp m) (WQ K)
  generalize lv_args 0 [.ref 12, .int x1] = lv0 at *
  refine wl_ald_n (pc' := 1) rfl e_0 rfl ?_
  refine wp_get (v := .int (m.F 12 9)) (pc' := 4) rfl (hq_12 _) rfl rfl ?_
  refine wp_p (pc' := 6) (lv' := lv0) (st' := [.int (nI 80), .int (m.F 12 9)]) rfl rfl ?_
  refine wp_ic_ge (pc' := 9) rfl rfl (fun c1 => ?_) (fun c1 => ?_)
  · replace k := it_t (c := (nI 80) ≤ (m.F 12 9)) c1 k
    exact wp_r rfl rfl ⟨_, rfl, k⟩
  · replace k := it_f (c := (nI 80) ≤ (m.F 12 9)) c1 k
    refine wl_ald_n (pc' := 10) rfl e_0 rfl ?_
    refine wp_get (v := .ref 13) (pc' := 13) rfl (hq_12 _) rfl rfl ?_
    refine wl_ald_n (pc' := 14) rfl e_0 rfl ?_
    refine wp_get (v := .int (m.F 12 9)) (pc' := 17) rfl (hq_12 _) rfl rfl ?_
    refine wl_ild_n (pc' := 18) rfl e_1 rfl ?_
    obtain ⟨k2, k⟩ := k
    refine wl_iastore (g := m.A 13) (pc' := 19) (h2 := hp (m.uA 13 ((m.A 13).set (ix (m.F 12 9)) x1))) rfl (hq_13 _) k2 rfl (pa_13 _ _) ?_
    refine wl_ald_n (pc' := 20) rfl e_0 rfl ?_
    refine wp_p (pc' := 21) (lv' := lv0) (st' := [.ref 12, .ref 12]) rfl rfl ?_
    refine wp_get (v := .int (m.F 12 9)) (pc' := 24) rfl (hq_12 _) rfl rfl ?_
    refine wp_p (pc' := 25) (lv' := lv0) (st' := [.int (nI 1), .int (m.F 12 9), .ref 12]) rfl rfl ?_
    refine wp_iadd (v := (m.F 12 9) + (nI 1)) (pc' := 26) rfl rfl rfl ?_
    refine wl_put (pc' := 29) (h2 := hp ((m.uA 13 ((m.A 13).set (ix (m.F 12 9)) x1)).uF 12 9 ((m.F 12 9) + (nI 1)))) rfl (hq_12 _) rfl rfl rfl (pf_12_9 _ _) ?_
    exact wp_r rfl rfl ⟨_, rfl, k⟩
/-! 61: QueryTables$Statement.listFrom -/
set_option maxRecDepth 20000 in
theorem sp_61 {d : Nat} {m : Mm} {K : Option Value → Mm → Prop} (x1 : Int32) (k : (if x1 ≤ (nI 0) then K (some (.int (nI 0))) m else (if (m.F 12 9) < x1 then K (some (.int (nI 0))) m else ok (m.A 13).length (x1 - (nI 1)) ∧ K (some (.int ((m.A 13).getD (ix (x1 - (nI 1))) 0))) m))) : WP d 61 [.ref 12, .int x1] m K := by
  have e_0 : sm_lk (lv_args 0 [.ref 12, .int x1]) 0 = some (.ref 12) := rfl
  have e_1 : sm_lk (lv_args 0 [.ref 12, .int x1]) 1 = some (.int x1) := rfl
  show sm_wp d 61 0 (lv_args 0 [.ref 12, .int x1]) [] (hp m) (WQ K)
  generalize lv_args 0 [.ref 12, .int x1] = lv0 at *
  refine wl_ild_n (pc' := 1) rfl e_1 rfl ?_
  refine wp_if_le (pc' := 4) rfl rfl (fun c1 => ?_) (fun c1 => ?_)
  · replace k := it_t (c := x1 ≤ (nI 0)) c1 k
    refine wp_p (pc' := 24) (lv' := lv0) (st' := [.int (nI 0)]) rfl rfl ?_
    exact wl_ret rfl rfl ⟨_, rfl, k⟩
  · replace k := it_f (c := x1 ≤ (nI 0)) c1 k
    refine wl_ild_n (pc' := 5) rfl e_1 rfl ?_
    refine wl_ald_n (pc' := 6) rfl e_0 rfl ?_
    refine wp_get (v := .int (m.F 12 9)) (pc' := 9) rfl (hq_12 _) rfl rfl ?_
    refine wp_ic_gt (pc' := 12) rfl rfl (fun c2 => ?_) (fun c2 => ?_)
    · replace k := it_t (c := (m.F 12 9) < x1) c2 k
      refine wp_p (pc' := 24) (lv' := lv0) (st' := [.int (nI 0)]) rfl rfl ?_
      exact wl_ret rfl rfl ⟨_, rfl, k⟩
    · replace k := it_f (c := (m.F 12 9) < x1) c2 k
      refine wl_ald_n (pc' := 13) rfl e_0 rfl ?_
      refine wp_get (v := .ref 13) (pc' := 16) rfl (hq_12 _) rfl rfl ?_
      refine wl_ild_n (pc' := 17) rfl e_1 rfl ?_
      refine wp_p (pc' := 18) (lv' := lv0) (st' := [.int (nI 1), .int x1, .ref 13]) rfl rfl ?_
      refine wp_isub (v := x1 - (nI 1)) (pc' := 19) rfl rfl rfl ?_
      obtain ⟨k3, k⟩ := k
      refine wl_iaload (g := m.A 13) (pc' := 20) rfl (hq_13 _) k3 rfl ?_
      refine wp_p (pc' := 24) (lv' := lv0) (st' := [.int ((m.A 13).getD (ix (x1 - (nI 1))) 0)]) rfl rfl ?_
      exact wl_ret rfl rfl ⟨_, rfl, k⟩
/-! 62: QueryTables$Statement.listTo -/
set_option maxRecDepth 20000 in
theorem sp_62 {d : Nat} {m : Mm} {K : Option Value → Mm → Prop} (x1 : Int32) (k : (if x1 < (nI 0) then K (some (.int (nI 0))) m else (if (m.F 12 9) ≤ x1 then K (some (.int (nI 0))) m else ok (m.A 13).length x1 ∧ K (some (.int ((m.A 13).getD (ix x1) 0))) m))) : WP d 62 [.ref 12, .int x1] m K := by
  have e_0 : sm_lk (lv_args 0 [.ref 12, .int x1]) 0 = some (.ref 12) := rfl
  have e_1 : sm_lk (lv_args 0 [.ref 12, .int x1]) 1 = some (.int x1) := rfl
  show sm_wp d 62 0 (lv_args 0 [.ref 12, .int x1]) [] (hp m) (WQ K)
  generalize lv_args 0 [.ref 12, .int x1] = lv0 at *
  refine wl_ild_n (pc' := 1) rfl e_1 rfl ?_
  refine wp_if_lt (pc' := 4) rfl rfl (fun c1 => ?_) (fun c1 => ?_)
  · replace k := it_t (c := x1 < (nI 0)) c1 k
    refine wp_p (pc' := 22) (lv' := lv0) (st' := [.int (nI 0)]) rfl rfl ?_
    exact wl_ret rfl rfl ⟨_, rfl, k⟩
  · replace k := it_f (c := x1 < (nI 0)) c1 k
    refine wl_ild_n (pc' := 5) rfl e_1 rfl ?_
    refine wl_ald_n (pc' := 6) rfl e_0 rfl ?_
    refine wp_get (v := .int (m.F 12 9)) (pc' := 9) rfl (hq_12 _) rfl rfl ?_
    refine wp_ic_ge (pc' := 12) rfl rfl (fun c2 => ?_) (fun c2 => ?_)
    · replace k := it_t (c := (m.F 12 9) ≤ x1) c2 k
      refine wp_p (pc' := 22) (lv' := lv0) (st' := [.int (nI 0)]) rfl rfl ?_
      exact wl_ret rfl rfl ⟨_, rfl, k⟩
    · replace k := it_f (c := (m.F 12 9) ≤ x1) c2 k
      refine wl_ald_n (pc' := 13) rfl e_0 rfl ?_
      refine wp_get (v := .ref 13) (pc' := 16) rfl (hq_12 _) rfl rfl ?_
      refine wl_ild_n (pc' := 17) rfl e_1 rfl ?_
      obtain ⟨k3, k⟩ := k
      refine wl_iaload (g := m.A 13) (pc' := 18) rfl (hq_13 _) k3 rfl ?_
      refine wp_p (pc' := 22) (lv' := lv0) (st' := [.int ((m.A 13).getD (ix x1) 0)]) rfl rfl ?_
      exact wl_ret rfl rfl ⟨_, rfl, k⟩
/-! 63: QueryTables$Statement.addPart -/
set_option maxRecDepth 20000 in
theorem sp_63 {d : Nat} {m : Mm} {K : Option Value → Mm → Prop} (x1 : Int32) (x2 : Int32) (x3 : Int32) (k : (if (nI 80) ≤ (m.F 12 16) then K none m else ok (m.A 14).length (m.F 12 16) ∧ ok (m.A 15).length (m.F 12 16) ∧ ok (m.A 16).length (m.F 12 16) ∧ K none ((((m.uA 14 ((m.A 14).set (ix (m.F 12 16)) x1)).uA 15 ((m.A 15).set (ix (m.F 12 16)) x2)).uA 16 ((m.A 16).set (ix (m.F 12 16)) x3)).uF 12 16 ((m.F 12 16) + (nI 1))))) : WP d 63 [.ref 12, .int x1, .int x2, .int x3] m K := by
  have e_0 : sm_lk (lv_args 0 [.ref 12, .int x1, .int x2, .int x3]) 0 = some (.ref 12) := rfl
  have e_1 : sm_lk (lv_args 0 [.ref 12, .int x1, .int x2, .int x3]) 1 = some (.int x1) := rfl
  have e_2 : sm_lk (lv_args 0 [.ref 12, .int x1, .int x2, .int x3]) 2 = some (.int x2) := rfl
  have e_3 : sm_lk (lv_args 0 [.ref 12, .int x1, .int x2, .int x3]) 3 = some (.int x3) := rfl
  show sm_wp d 63 0 (lv_args 0 [.ref 12, .int x1, .int x2, .int x3]) [] (hp m) (WQ K)
  generalize lv_args 0 [.ref 12, .int x1, .int x2, .int x3] = lv0 at *
  refine wl_ald_n (pc' := 1) rfl e_0 rfl ?_
  refine wp_get (v := .int (m.F 12 16)) (pc' := 4) rfl (hq_12 _) rfl rfl ?_
  refine wp_p (pc' := 6) (lv' := lv0) (st' := [.int (nI 80), .int (m.F 12 16)]) rfl rfl ?_
  refine wp_ic_ge (pc' := 9) rfl rfl (fun c1 => ?_) (fun c1 => ?_)
  · replace k := it_t (c := (nI 80) ≤ (m.F 12 16)) c1 k
    exact wp_r rfl rfl ⟨_, rfl, k⟩
  · replace k := it_f (c := (nI 80) ≤ (m.F 12 16)) c1 k
    refine wl_ald_n (pc' := 10) rfl e_0 rfl ?_
    refine wp_get (v := .ref 14) (pc' := 13) rfl (hq_12 _) rfl rfl ?_
    refine wl_ald_n (pc' := 14) rfl e_0 rfl ?_
    refine wp_get (v := .int (m.F 12 16)) (pc' := 17) rfl (hq_12 _) rfl rfl ?_
    refine wl_ild_n (pc' := 18) rfl e_1 rfl ?_
    obtain ⟨k2, k⟩ := k
    refine wl_iastore (g := m.A 14) (pc' := 19) (h2 := hp (m.uA 14 ((m.A 14).set (ix (m.F 12 16)) x1))) rfl (hq_14 _) k2 rfl (pa_14 _ _) ?_
    refine wl_ald_n (pc' := 20) rfl e_0 rfl ?_
    refine wp_get (v := .ref 15) (pc' := 23) rfl (hq_12 _) rfl rfl ?_
    refine wl_ald_n (pc' := 24) rfl e_0 rfl ?_
    refine wp_get (v := .int (m.F 12 16)) (pc' := 27) rfl (hq_12 _) rfl rfl ?_
    refine wl_ild_n (pc' := 28) rfl e_2 rfl ?_
    obtain ⟨k3, k⟩ := k
    refine wl_iastore (g := m.A 15) (pc' := 29) (h2 := hp ((m.uA 14 ((m.A 14).set (ix (m.F 12 16)) x1)).uA 15 ((m.A 15).set (ix (m.F 12 16)) x2))) rfl (hq_15 _) k3 rfl (pa_15 _ _) ?_
    refine wl_ald_n (pc' := 30) rfl e_0 rfl ?_
    refine wp_get (v := .ref 16) (pc' := 33) rfl (hq_12 _) rfl rfl ?_
    refine wl_ald_n (pc' := 34) rfl e_0 rfl ?_
    refine wp_get (v := .int (m.F 12 16)) (pc' := 37) rfl (hq_12 _) rfl rfl ?_
    refine wl_ild_n (pc' := 38) rfl e_3 rfl ?_
    obtain ⟨k4, k⟩ := k
    refine wl_iastore (g := m.A 16) (pc' := 39) (h2 := hp (((m.uA 14 ((m.A 14).set (ix (m.F 12 16)) x1)).uA 15 ((m.A 15).set (ix (m.F 12 16)) x2)).uA 16 ((m.A 16).set (ix (m.F 12 16)) x3))) rfl (hq_16 _) k4 rfl (pa_16 _ _) ?_
    refine wl_ald_n (pc' := 40) rfl e_0 rfl ?_
    refine wp_p (pc' := 41) (lv' := lv0) (st' := [.ref 12, .ref 12]) rfl rfl ?_
    refine wp_get (v := .int (m.F 12 16)) (pc' := 44) rfl (hq_12 _) rfl rfl ?_
    refine wp_p (pc' := 45) (lv' := lv0) (st' := [.int (nI 1), .int (m.F 12 16), .ref 12]) rfl rfl ?_
    refine wp_iadd (v := (m.F 12 16) + (nI 1)) (pc' := 46) rfl rfl rfl ?_
    refine wl_put (pc' := 49) (h2 := hp ((((m.uA 14 ((m.A 14).set (ix (m.F 12 16)) x1)).uA 15 ((m.A 15).set (ix (m.F 12 16)) x2)).uA 16 ((m.A 16).set (ix (m.F 12 16)) x3)).uF 12 16 ((m.F 12 16) + (nI 1)))) rfl (hq_12 _) rfl rfl rfl (pf_12_16 _ _) ?_
    exact wp_r rfl rfl ⟨_, rfl, k⟩
/-! 64: QueryTables$Statement.setOnlyPart -/
set_option maxRecDepth 20000 in
theorem sp_64 {d : Nat} {m : Mm} {K : Option Value → Mm → Prop} (x1 : Int32) (x2 : Int32) (k : WP d 63 [.ref 12, .int x1, .int (-1), .int x2] (m.uF 12 16 (nI 0)) (fun v m1 => v = none ∧ K none m1)) : WP (d + 1) 64 [.ref 12, .int x1, .int x2] m K := by
  have e_0 : sm_lk (lv_args 0 [.ref 12, .int x1, .int x2]) 0 = some (.ref 12) := rfl
  have e_1 : sm_lk (lv_args 0 [.ref 12, .int x1, .int x2]) 1 = some (.int x1) := rfl
  have e_2 : sm_lk (lv_args 0 [.ref 12, .int x1, .int x2]) 2 = some (.int x2) := rfl
  show sm_wp (d + 1) 64 0 (lv_args 0 [.ref 12, .int x1, .int x2]) [] (hp m) (WQ K)
  generalize lv_args 0 [.ref 12, .int x1, .int x2] = lv0 at *
  refine wl_ald_n (pc' := 1) rfl e_0 rfl ?_
  refine wp_p (pc' := 2) (lv' := lv0) (st' := [.int (nI 0), .ref 12]) rfl rfl ?_
  refine wl_put (pc' := 5) (h2 := hp (m.uF 12 16 (nI 0))) rfl (hq_12 _) rfl rfl rfl (pf_12_16 _ _) ?_
  refine wl_ald_n (pc' := 6) rfl e_0 rfl ?_
  refine wl_ild_n (pc' := 7) rfl e_1 rfl ?_
  refine wp_p (pc' := 8) (lv' := lv0) (st' := [.int (-1), .int x1, .ref 12]) rfl rfl ?_
  refine wl_ild_n (pc' := 9) rfl e_2 rfl ?_
  refine wl_cv (As := [.ref 12, .int x1, .int (-1), .int x2]) (r := []) (pc' := 12) rfl rfl rfl k ?_
  rintro _ m1 ⟨rfl, k⟩
  show sm_wp (d + 1) 64 12 lv0 [] (hp m1) (WQ K)
  exact wp_r rfl rfl ⟨_, rfl, k⟩
/-! 65: QueryTables$Statement.hasPlan -/
set_option maxRecDepth 20000 in
theorem sp_65 {d : Nat} {m : Mm} {K : Option Value → Mm → Prop} (k : (if (m.F 12 4) = (nI 7) then K (some (.int (nI 1))) m else (if (m.F 12 4) = (nI 8) then K (some (.int (nI 1))) m else (if (m.F 12 4) = (nI 9) then K (some (.int (nI 1))) m else K (some (.int (nI 0))) m)))) : WP d 65 [.ref 12] m K := by
  have e_0 : sm_lk (lv_args 0 [.ref 12]) 0 = some (.ref 12) := rfl
  show sm_wp d 65 0 (lv_args 0 [.ref 12]) [] (hp m) (WQ K)
  generalize lv_args 0 [.ref 12] = lv0 at *
  refine wl_ald_n (pc' := 1) rfl e_0 rfl ?_
  refine wp_get (v := .int (m.F 12 4)) (pc' := 4) rfl (hq_12 _) rfl rfl ?_
  refine wp_p (pc' := 6) (lv' := lv0) (st' := [.int (nI 7), .int (m.F 12 4)]) rfl rfl ?_
  refine wp_ic_eq (pc' := 9) rfl rfl (fun c1 => ?_) (fun c1 => ?_)
  · replace k := it_t (c := (m.F 12 4) = (nI 7)) c1 k
    refine wp_p (pc' := 28) (lv' := lv0) (st' := [.int (nI 1)]) rfl rfl ?_
    refine wp_p (pc' := 32) (lv' := lv0) (st' := [.int (nI 1)]) rfl rfl ?_
    exact wl_ret rfl rfl ⟨_, rfl, k⟩
  · replace k := it_f (c := (m.F 12 4) = (nI 7)) c1 k
    refine wl_ald_n (pc' := 10) rfl e_0 rfl ?_
    refine wp_get (v := .int (m.F 12 4)) (pc' := 13) rfl (hq_12 _) rfl rfl ?_
    refine wp_p (pc' := 15) (lv' := lv0) (st' := [.int (nI 8), .int (m.F 12 4)]) rfl rfl ?_
    refine wp_ic_eq (pc' := 18) rfl rfl (fun c2 => ?_) (fun c2 => ?_)
    · replace k := it_t (c := (m.F 12 4) = (nI 8)) c2 k
      refine wp_p (pc' := 28) (lv' := lv0) (st' := [.int (nI 1)]) rfl rfl ?_
      refine wp_p (pc' := 32) (lv' := lv0) (st' := [.int (nI 1)]) rfl rfl ?_
      exact wl_ret rfl rfl ⟨_, rfl, k⟩
    · replace k := it_f (c := (m.F 12 4) = (nI 8)) c2 k
      refine wl_ald_n (pc' := 19) rfl e_0 rfl ?_
      refine wp_get (v := .int (m.F 12 4)) (pc' := 22) rfl (hq_12 _) rfl rfl ?_
      refine wp_p (pc' := 24) (lv' := lv0) (st' := [.int (nI 9), .int (m.F 12 4)]) rfl rfl ?_
      refine wp_ic_ne (pc' := 27) rfl rfl (fun c3 => ?_) (fun c3 => ?_)
      · replace k := it_f (c := (m.F 12 4) = (nI 9)) c3 k
        refine wp_p (pc' := 32) (lv' := lv0) (st' := [.int (nI 0)]) rfl rfl ?_
        exact wl_ret rfl rfl ⟨_, rfl, k⟩
      · replace k := it_t (c := (m.F 12 4) = (nI 9)) c3 k
        refine wp_p (pc' := 28) (lv' := lv0) (st' := [.int (nI 1)]) rfl rfl ?_
        refine wp_p (pc' := 32) (lv' := lv0) (st' := [.int (nI 1)]) rfl rfl ?_
        exact wl_ret rfl rfl ⟨_, rfl, k⟩
/-! 66: QueryTables$Statement.hasWhere -/
set_option maxRecDepth 20000 in
theorem sp_66 {d : Nat} {m : Mm} {K : Option Value → Mm → Prop} (k : (if (m.F 12 11) ≤ (m.F 12 10) then K (some (.int (nI 0))) m else K (some (.int (nI 1))) m)) : WP d 66 [.ref 12] m K := by
  have e_0 : sm_lk (lv_args 0 [.ref 12]) 0 = some (.ref 12) := rfl
  show sm_wp d 66 0 (lv_args 0 [.ref 12]) [] (hp m) (WQ K)
  generalize lv_args 0 [.ref 12] = lv0 at *
  refine wl_ald_n (pc' := 1) rfl e_0 rfl ?_
  refine wp_get (v := .int (m.F 12 11)) (pc' := 4) rfl (hq_12 _) rfl rfl ?_
  refine wl_ald_n (pc' := 5) rfl e_0 rfl ?_
  refine wp_get (v := .int (m.F 12 10)) (pc' := 8) rfl (hq_12 _) rfl rfl ?_
  refine wp_ic_le (pc' := 11) rfl rfl (fun c1 => ?_) (fun c1 => ?_)
  · replace k := it_t (c := (m.F 12 11) ≤ (m.F 12 10)) c1 k
    refine wp_p (pc' := 16) (lv' := lv0) (st' := [.int (nI 0)]) rfl rfl ?_
    exact wl_ret rfl rfl ⟨_, rfl, k⟩
  · replace k := it_f (c := (m.F 12 11) ≤ (m.F 12 10)) c1 k
    refine wp_p (pc' := 12) (lv' := lv0) (st' := [.int (nI 1)]) rfl rfl ?_
    refine wp_p (pc' := 16) (lv' := lv0) (st' := [.int (nI 1)]) rfl rfl ?_
    exact wl_ret rfl rfl ⟨_, rfl, k⟩
/-! 67: QueryTables$Statement.hasOrder -/
set_option maxRecDepth 20000 in
theorem sp_67 {d : Nat} {m : Mm} {K : Option Value → Mm → Prop} (k : (if (m.F 12 13) ≤ (m.F 12 12) then K (some (.int (nI 0))) m else K (some (.int (nI 1))) m)) : WP d 67 [.ref 12] m K := by
  have e_0 : sm_lk (lv_args 0 [.ref 12]) 0 = some (.ref 12) := rfl
  show sm_wp d 67 0 (lv_args 0 [.ref 12]) [] (hp m) (WQ K)
  generalize lv_args 0 [.ref 12] = lv0 at *
  refine wl_ald_n (pc' := 1) rfl e_0 rfl ?_
  refine wp_get (v := .int (m.F 12 13)) (pc' := 4) rfl (hq_12 _) rfl rfl ?_
  refine wl_ald_n (pc' := 5) rfl e_0 rfl ?_
  refine wp_get (v := .int (m.F 12 12)) (pc' := 8) rfl (hq_12 _) rfl rfl ?_
  refine wp_ic_le (pc' := 11) rfl rfl (fun c1 => ?_) (fun c1 => ?_)
  · replace k := it_t (c := (m.F 12 13) ≤ (m.F 12 12)) c1 k
    refine wp_p (pc' := 16) (lv' := lv0) (st' := [.int (nI 0)]) rfl rfl ?_
    exact wl_ret rfl rfl ⟨_, rfl, k⟩
  · replace k := it_f (c := (m.F 12 13) ≤ (m.F 12 12)) c1 k
    refine wp_p (pc' := 12) (lv' := lv0) (st' := [.int (nI 1)]) rfl rfl ?_
    refine wp_p (pc' := 16) (lv' := lv0) (st' := [.int (nI 1)]) rfl rfl ?_
    exact wl_ret rfl rfl ⟨_, rfl, k⟩
/-! 69: QueryTables$Tokens.split -/
set_option maxRecDepth 20000 in
theorem sp_69 {d : Nat} {m : Mm} {K : Option Value → Mm → Prop} (x2 : Int32) (k : WH d 69 12 [(0, .ref 26), (1, .ref 1), (2, .int x2), (3, .int (nI 0))] [] ((m.uF 26 2 (nI 0)).uF 26 3 (nI 0)) K) : WP d 69 [.ref 26, .ref 1, .int x2] m K := by
  have e_0 : sm_lk (lv_args 0 [.ref 26, .ref 1, .int x2]) 0 = some (.ref 26) := rfl
  have e_1 : sm_lk (lv_args 0 [.ref 26, .ref 1, .int x2]) 1 = some (.ref 1) := rfl
  have e_2 : sm_lk (lv_args 0 [.ref 26, .ref 1, .int x2]) 2 = some (.int x2) := rfl
  show sm_wp d 69 0 (lv_args 0 [.ref 26, .ref 1, .int x2]) [] (hp m) (WQ K)
  generalize lv_args 0 [.ref 26, .ref 1, .int x2] = lv0 at *
  refine wl_ald_n (pc' := 1) rfl e_0 rfl ?_
  refine wp_p (pc' := 2) (lv' := lv0) (st' := [.int (nI 0), .ref 26]) rfl rfl ?_
  refine wl_put (pc' := 5) (h2 := hp (m.uF 26 2 (nI 0))) rfl (hq_26 _) rfl rfl rfl (pf_26_2 _ _) ?_
  refine wl_ald_n (pc' := 6) rfl e_0 rfl ?_
  refine wp_p (pc' := 7) (lv' := lv0) (st' := [.int (nI 0), .ref 26]) rfl rfl ?_
  refine wl_put (pc' := 10) (h2 := hp ((m.uF 26 2 (nI 0)).uF 26 3 (nI 0))) rfl (hq_26 _) rfl rfl rfl (pf_26_3 _ _) ?_
  refine wp_p (pc' := 11) (lv' := lv0) (st' := [.int (nI 0)]) rfl rfl ?_
  refine wl_st1 (pc' := 12) (k0 := 3) (v := .int (nI 0)) (r := []) rfl rfl (fun lv1 e2 f3 => ?_)
  have e4 := f3 0 _ e_0 (by decide) rfl
  have e5 := f3 1 _ e_1 (by decide) rfl
  have e6 := f3 2 _ e_2 (by decide) rfl
  exact k _ ⟨e4, e5, e6, e2, trivial⟩
set_option maxRecDepth 20000 in
theorem sg_69_12 {d : Nat} {m : Mm} {K : Option Value → Mm → Prop} (x2 : Int32) (x3 : Int32) (k : (if x2 ≤ x3 then K (some (.int (nI 1))) m else ok (m.A 1).length x3 ∧ (if ((m.A 1).getD (ix x3) 0) = (nI 32) then WH (d + 1) 69 12 [(0, .ref 26), (1, .ref 1), (2, .int x2), (3, .int (x3 + nI 1))] [] m K else WP d 75 [.ref 1, .int x3] m (fun v m10 => ∃ w11, v = some (.int w11) ∧ (if w11 = (nI 0) then WP d 76 [.ref 26, .ref 1, .int x3, .int x2] m10 (fun v m19 => ∃ w20, v = some (.int w20) ∧ (if w20 = (nI 0) then K (some (.int (nI 0))) m19 else WH (d + 1) 69 12 [(0, .ref 26), (1, .ref 1), (2, .int x2), (3, .int (x3 + nI 1))] [] m19 K)) else WH (d + 1) 69 12 [(0, .ref 26), (1, .ref 1), (2, .int x2), (3, .int (x3 + nI 1))] [] m10 K))))) : WH (d + 1) 69 12 [(0, .ref 26), (1, .ref 1), (2, .int x2), (3, .int x3)] [] m K := by
  intro lv0 el
  obtain ⟨e_0, e_1, e_2, e_3, _⟩ := el
  refine wl_ild_n (pc' := 13) rfl e_3 rfl ?_
  refine wl_ild_n (pc' := 14) rfl e_2 rfl ?_
  refine wp_ic_ge (pc' := 17) rfl rfl (fun c1 => ?_) (fun c1 => ?_)
  · replace k := it_t (c := x2 ≤ x3) c1 k
    refine wp_p (pc' := 52) (lv' := lv0) (st' := [.int (nI 1)]) rfl rfl ?_
    exact wl_ret rfl rfl ⟨_, rfl, k⟩
  · replace k := it_f (c := x2 ≤ x3) c1 k
    refine wl_ald_n (pc' := 18) rfl e_1 rfl ?_
    refine wl_ild_n (pc' := 19) rfl e_3 rfl ?_
    obtain ⟨k2, k⟩ := k
    refine wl_caload (g := m.A 1) (pc' := 20) rfl (hq_1 _) k2 rfl ?_
    refine wp_p (pc' := 22) (lv' := lv0) (st' := [.int (nI 32), .int ((m.A 1).getD (ix x3) 0)]) rfl rfl ?_
    refine wp_ic_eq (pc' := 25) rfl rfl (fun c3 => ?_) (fun c3 => ?_)
    · replace k := it_t (c := ((m.A 1).getD (ix x3) 0) = (nI 32)) c3 k
      refine wl_iinc (pc' := 48) (v := x3 + nI 1) rfl e_3 rfl rfl rfl (fun lv4 e5 f6 => ?_)
      have e7 := f6 0 _ e_0 (by decide) rfl
      have e8 := f6 1 _ e_1 (by decide) rfl
      have e9 := f6 2 _ e_2 (by decide) rfl
      refine wp_p (pc' := 12) (lv' := lv4) (st' := []) rfl rfl ?_
      exact k _ ⟨e7, e8, e9, e5, trivial⟩
    · replace k := it_f (c := ((m.A 1).getD (ix x3) 0) = (nI 32)) c3 k
      refine wl_ald_n (pc' := 26) rfl e_1 rfl ?_
      refine wl_ild_n (pc' := 27) rfl e_3 rfl ?_
      refine wl_cs (As := [.ref 1, .int x3]) (r := []) (pc' := 30) rfl rfl rfl rfl k ?_
      rintro _ m10 ⟨w11, rfl, k⟩
      show sm_wp (d + 1) 69 30 lv0 [.int w11] (hp m10) (WQ K)
      refine wp_if_ne (pc' := 33) rfl rfl (fun c12 => ?_) (fun c12 => ?_)
      · replace k := it_f (c := w11 = (nI 0)) c12 k
        refine wl_iinc (pc' := 48) (v := x3 + nI 1) rfl e_3 rfl rfl rfl (fun lv13 e14 f15 => ?_)
        have e16 := f15 0 _ e_0 (by decide) rfl
        have e17 := f15 1 _ e_1 (by decide) rfl
        have e18 := f15 2 _ e_2 (by decide) rfl
        refine wp_p (pc' := 12) (lv' := lv13) (st' := []) rfl rfl ?_
        exact k _ ⟨e16, e17, e18, e14, trivial⟩
      · replace k := it_t (c := w11 = (nI 0)) c12 k
        refine wl_ald_n (pc' := 34) rfl e_0 rfl ?_
        refine wl_ald_n (pc' := 35) rfl e_1 rfl ?_
        refine wl_ild_n (pc' := 36) rfl e_3 rfl ?_
        refine wl_ild_n (pc' := 37) rfl e_2 rfl ?_
        refine wl_cv (As := [.ref 26, .ref 1, .int x3, .int x2]) (r := []) (pc' := 40) rfl rfl rfl k ?_
        rintro _ m19 ⟨w20, rfl, k⟩
        show sm_wp (d + 1) 69 40 lv0 [.int w20] (hp m19) (WQ K)
        refine wp_if_ne (pc' := 43) rfl rfl (fun c21 => ?_) (fun c21 => ?_)
        · replace k := it_f (c := w20 = (nI 0)) c21 k
          refine wl_iinc (pc' := 48) (v := x3 + nI 1) rfl e_3 rfl rfl rfl (fun lv22 e23 f24 => ?_)
          have e25 := f24 0 _ e_0 (by decide) rfl
          have e26 := f24 1 _ e_1 (by decide) rfl
          have e27 := f24 2 _ e_2 (by decide) rfl
          refine wp_p (pc' := 12) (lv' := lv22) (st' := []) rfl rfl ?_
          exact k _ ⟨e25, e26, e27, e23, trivial⟩
        · replace k := it_t (c := w20 = (nI 0)) c21 k
          refine wp_p (pc' := 44) (lv' := lv0) (st' := [.int (nI 0)]) rfl rfl ?_
          exact wl_ret rfl rfl ⟨_, rfl, k⟩
/-! 70: QueryTables$Tokens.next -/
set_option maxRecDepth 20000 in
theorem sp_70 {d : Nat} {m : Mm} {K : Option Value → Mm → Prop} (k : (if (m.F 26 2) ≤ (m.F 26 3) then K (some (.int (nI 0))) m else ok (m.A 27).length (m.F 26 3) ∧ K (some (.int ((m.A 27).getD (ix (m.F 26 3)) 0))) m)) : WP d 70 [.ref 26] m K := by
  have e_0 : sm_lk (lv_args 0 [.ref 26]) 0 = some (.ref 26) := rfl
  show sm_wp d 70 0 (lv_args 0 [.ref 26]) [] (hp m) (WQ K)
  generalize lv_args 0 [.ref 26] = lv0 at *
  refine wl_ald_n (pc' := 1) rfl e_0 rfl ?_
  refine wp_get (v := .int (m.F 26 3)) (pc' := 4) rfl (hq_26 _) rfl rfl ?_
  refine wl_ald_n (pc' := 5) rfl e_0 rfl ?_
  refine wp_get (v := .int (m.F 26 2)) (pc' := 8) rfl (hq_26 _) rfl rfl ?_
  refine wp_ic_ge (pc' := 11) rfl rfl (fun c1 => ?_) (fun c1 => ?_)
  · replace k := it_t (c := (m.F 26 2) ≤ (m.F 26 3)) c1 k
    refine wp_p (pc' := 24) (lv' := lv0) (st' := [.int (nI 0)]) rfl rfl ?_
    exact wl_ret rfl rfl ⟨_, rfl, k⟩
  · replace k := it_f (c := (m.F 26 2) ≤ (m.F 26 3)) c1 k
    refine wl_ald_n (pc' := 12) rfl e_0 rfl ?_
    refine wp_get (v := .ref 27) (pc' := 15) rfl (hq_26 _) rfl rfl ?_
    refine wl_ald_n (pc' := 16) rfl e_0 rfl ?_
    refine wp_get (v := .int (m.F 26 3)) (pc' := 19) rfl (hq_26 _) rfl rfl ?_
    obtain ⟨k2, k⟩ := k
    refine wl_iaload (g := m.A 27) (pc' := 20) rfl (hq_27 _) k2 rfl ?_
    refine wp_p (pc' := 24) (lv' := lv0) (st' := [.int ((m.A 27).getD (ix (m.F 26 3)) 0)]) rfl rfl ?_
    exact wl_ret rfl rfl ⟨_, rfl, k⟩
/-! 71: QueryTables$Tokens.accept -/
set_option maxRecDepth 20000 in
theorem sp_71 {d : Nat} {m : Mm} {K : Option Value → Mm → Prop} (x1 : Int32) (k : (if (m.F 26 2) ≤ (m.F 26 3) then K (some (.int (nI 0))) m else ok (m.A 27).length (m.F 26 3) ∧ (if ((m.A 27).getD (ix (m.F 26 3)) 0) = x1 then K (some (.int (nI 1))) (m.uF 26 3 ((m.F 26 3) + (nI 1))) else K (some (.int (nI 0))) m))) : WP d 71 [.ref 26, .int x1] m K := by
  have e_0 : sm_lk (lv_args 0 [.ref 26, .int x1]) 0 = some (.ref 26) := rfl
  have e_1 : sm_lk (lv_args 0 [.ref 26, .int x1]) 1 = some (.int x1) := rfl
  show sm_wp d 71 0 (lv_args 0 [.ref 26, .int x1]) [] (hp m) (WQ K)
  generalize lv_args 0 [.ref 26, .int x1] = lv0 at *
  refine wl_ald_n (pc' := 1) rfl e_0 rfl ?_
  refine wp_get (v := .int (m.F 26 3)) (pc' := 4) rfl (hq_26 _) rfl rfl ?_
  refine wl_ald_n (pc' := 5) rfl e_0 rfl ?_
  refine wp_get (v := .int (m.F 26 2)) (pc' := 8) rfl (hq_26 _) rfl rfl ?_
  refine wp_ic_ge (pc' := 11) rfl rfl (fun c1 => ?_) (fun c1 => ?_)
  · replace k := it_t (c := (m.F 26 2) ≤ (m.F 26 3)) c1 k
    refine wp_p (pc' := 25) (lv' := lv0) (st' := [.int (nI 0)]) rfl rfl ?_
    exact wl_ret rfl rfl ⟨_, rfl, k⟩
  · replace k := it_f (c := (m.F 26 2) ≤ (m.F 26 3)) c1 k
    refine wl_ald_n (pc' := 12) rfl e_0 rfl ?_
    refine wp_get (v := .ref 27) (pc' := 15) rfl (hq_26 _) rfl rfl ?_
    refine wl_ald_n (pc' := 16) rfl e_0 rfl ?_
    refine wp_get (v := .int (m.F 26 3)) (pc' := 19) rfl (hq_26 _) rfl rfl ?_
    obtain ⟨k2, k⟩ := k
    refine wl_iaload (g := m.A 27) (pc' := 20) rfl (hq_27 _) k2 rfl ?_
    refine wl_ild_n (pc' := 21) rfl e_1 rfl ?_
    refine wp_ic_eq (pc' := 24) rfl rfl (fun c3 => ?_) (fun c3 => ?_)
    · replace k := it_t (c := ((m.A 27).getD (ix (m.F 26 3)) 0) = x1) c3 k
      refine wl_ald_n (pc' := 27) rfl e_0 rfl ?_
      refine wp_p (pc' := 28) (lv' := lv0) (st' := [.ref 26, .ref 26]) rfl rfl ?_
      refine wp_get (v := .int (m.F 26 3)) (pc' := 31) rfl (hq_26 _) rfl rfl ?_
      refine wp_p (pc' := 32) (lv' := lv0) (st' := [.int (nI 1), .int (m.F 26 3), .ref 26]) rfl rfl ?_
      refine wp_iadd (v := (m.F 26 3) + (nI 1)) (pc' := 33) rfl rfl rfl ?_
      refine wl_put (pc' := 36) (h2 := hp (m.uF 26 3 ((m.F 26 3) + (nI 1)))) rfl (hq_26 _) rfl rfl rfl (pf_26_3 _ _) ?_
      refine wp_p (pc' := 37) (lv' := lv0) (st' := [.int (nI 1)]) rfl rfl ?_
      exact wl_ret rfl rfl ⟨_, rfl, k⟩
    · replace k := it_f (c := ((m.A 27).getD (ix (m.F 26 3)) 0) = x1) c3 k
      refine wp_p (pc' := 25) (lv' := lv0) (st' := [.int (nI 0)]) rfl rfl ?_
      exact wl_ret rfl rfl ⟨_, rfl, k⟩
/-! 72: QueryTables$Tokens.taken -/
set_option maxRecDepth 20000 in
theorem sp_72 {d : Nat} {m : Mm} {K : Option Value → Mm → Prop} (k : (if (m.F 26 3) ≤ (nI 0) then K (some (.int (nI 0))) m else ok (m.A 28).length ((m.F 26 3) - (nI 1)) ∧ K (some (.int ((m.A 28).getD (ix ((m.F 26 3) - (nI 1))) 0))) m)) : WP d 72 [.ref 26] m K := by
  have e_0 : sm_lk (lv_args 0 [.ref 26]) 0 = some (.ref 26) := rfl
  show sm_wp d 72 0 (lv_args 0 [.ref 26]) [] (hp m) (WQ K)
  generalize lv_args 0 [.ref 26] = lv0 at *
  refine wl_ald_n (pc' := 1) rfl e_0 rfl ?_
  refine wp_get (v := .int (m.F 26 3)) (pc' := 4) rfl (hq_26 _) rfl rfl ?_
  refine wp_if_le (pc' := 7) rfl rfl (fun c1 => ?_) (fun c1 => ?_)
  · replace k := it_t (c := (m.F 26 3) ≤ (nI 0)) c1 k
    refine wp_p (pc' := 22) (lv' := lv0) (st' := [.int (nI 0)]) rfl rfl ?_
    exact wl_ret rfl rfl ⟨_, rfl, k⟩
  · replace k := it_f (c := (m.F 26 3) ≤ (nI 0)) c1 k
    refine wl_ald_n (pc' := 8) rfl e_0 rfl ?_
    refine wp_get (v := .ref 28) (pc' := 11) rfl (hq_26 _) rfl rfl ?_
    refine wl_ald_n (pc' := 12) rfl e_0 rfl ?_
    refine wp_get (v := .int (m.F 26 3)) (pc' := 15) rfl (hq_26 _) rfl rfl ?_
    refine wp_p (pc' := 16) (lv' := lv0) (st' := [.int (nI 1), .int (m.F 26 3), .ref 28]) rfl rfl ?_
    refine wp_isub (v := (m.F 26 3) - (nI 1)) (pc' := 17) rfl rfl rfl ?_
    obtain ⟨k2, k⟩ := k
    refine wl_iaload (g := m.A 28) (pc' := 18) rfl (hq_28 _) k2 rfl ?_
    refine wp_p (pc' := 22) (lv' := lv0) (st' := [.int ((m.A 28).getD (ix ((m.F 26 3) - (nI 1))) 0)]) rfl rfl ?_
    exact wl_ret rfl rfl ⟨_, rfl, k⟩
/-! 73: QueryTables$Tokens.isLetter -/
set_option maxRecDepth 20000 in
theorem sp_73 {d : Nat} {m : Mm} {K : Option Value → Mm → Prop} (x0 : Int32) (k : (if x0 < (nI 97) then K (some (.int (nI 0))) m else (if (nI 122) < x0 then K (some (.int (nI 0))) m else K (some (.int (nI 1))) m))) : WP d 73 [.int x0] m K := by
  have e_0 : sm_lk (lv_args 0 [.int x0]) 0 = some (.int x0) := rfl
  show sm_wp d 73 0 (lv_args 0 [.int x0]) [] (hp m) (WQ K)
  generalize lv_args 0 [.int x0] = lv0 at *
  refine wl_ild_n (pc' := 1) rfl e_0 rfl ?_
  refine wp_p (pc' := 3) (lv' := lv0) (st' := [.int (nI 97), .int x0]) rfl rfl ?_
  refine wp_ic_lt (pc' := 6) rfl rfl (fun c1 => ?_) (fun c1 => ?_)
  · replace k := it_t (c := x0 < (nI 97)) c1 k
    refine wp_p (pc' := 17) (lv' := lv0) (st' := [.int (nI 0)]) rfl rfl ?_
    exact wl_ret rfl rfl ⟨_, rfl, k⟩
  · replace k := it_f (c := x0 < (nI 97)) c1 k
    refine wl_ild_n (pc' := 7) rfl e_0 rfl ?_
    refine wp_p (pc' := 9) (lv' := lv0) (st' := [.int (nI 122), .int x0]) rfl rfl ?_
    refine wp_ic_gt (pc' := 12) rfl rfl (fun c2 => ?_) (fun c2 => ?_)
    · replace k := it_t (c := (nI 122) < x0) c2 k
      refine wp_p (pc' := 17) (lv' := lv0) (st' := [.int (nI 0)]) rfl rfl ?_
      exact wl_ret rfl rfl ⟨_, rfl, k⟩
    · replace k := it_f (c := (nI 122) < x0) c2 k
      refine wp_p (pc' := 13) (lv' := lv0) (st' := [.int (nI 1)]) rfl rfl ?_
      refine wp_p (pc' := 17) (lv' := lv0) (st' := [.int (nI 1)]) rfl rfl ?_
      exact wl_ret rfl rfl ⟨_, rfl, k⟩
/-! 74: QueryTables$Tokens.isDigit -/
set_option maxRecDepth 20000 in
theorem sp_74 {d : Nat} {m : Mm} {K : Option Value → Mm → Prop} (x0 : Int32) (k : (if x0 < (nI 48) then K (some (.int (nI 0))) m else (if (nI 57) < x0 then K (some (.int (nI 0))) m else K (some (.int (nI 1))) m))) : WP d 74 [.int x0] m K := by
  have e_0 : sm_lk (lv_args 0 [.int x0]) 0 = some (.int x0) := rfl
  show sm_wp d 74 0 (lv_args 0 [.int x0]) [] (hp m) (WQ K)
  generalize lv_args 0 [.int x0] = lv0 at *
  refine wl_ild_n (pc' := 1) rfl e_0 rfl ?_
  refine wp_p (pc' := 3) (lv' := lv0) (st' := [.int (nI 48), .int x0]) rfl rfl ?_
  refine wp_ic_lt (pc' := 6) rfl rfl (fun c1 => ?_) (fun c1 => ?_)
  · replace k := it_t (c := x0 < (nI 48)) c1 k
    refine wp_p (pc' := 17) (lv' := lv0) (st' := [.int (nI 0)]) rfl rfl ?_
    exact wl_ret rfl rfl ⟨_, rfl, k⟩
  · replace k := it_f (c := x0 < (nI 48)) c1 k
    refine wl_ild_n (pc' := 7) rfl e_0 rfl ?_
    refine wp_p (pc' := 9) (lv' := lv0) (st' := [.int (nI 57), .int x0]) rfl rfl ?_
    refine wp_ic_gt (pc' := 12) rfl rfl (fun c2 => ?_) (fun c2 => ?_)
    · replace k := it_t (c := (nI 57) < x0) c2 k
      refine wp_p (pc' := 17) (lv' := lv0) (st' := [.int (nI 0)]) rfl rfl ?_
      exact wl_ret rfl rfl ⟨_, rfl, k⟩
    · replace k := it_f (c := (nI 57) < x0) c2 k
      refine wp_p (pc' := 13) (lv' := lv0) (st' := [.int (nI 1)]) rfl rfl ?_
      refine wp_p (pc' := 17) (lv' := lv0) (st' := [.int (nI 1)]) rfl rfl ?_
      exact wl_ret rfl rfl ⟨_, rfl, k⟩
/-! 75: QueryTables$Tokens.goesOn -/
set_option maxRecDepth 20000 in
theorem sp_75 {d : Nat} {m : Mm} {K : Option Value → Mm → Prop} (x1 : Int32) (k : (if x1 = (nI 0) then K (some (.int (nI 0))) m else ok (m.A 1).length x1 ∧ WP d 73 [.int ((m.A 1).getD (ix x1) 0)] m (fun v m3 => ∃ w4, v = some (.int w4) ∧ (if w4 = (nI 0) then ok (m3.A 1).length x1 ∧ WP d 74 [.int ((m3.A 1).getD (ix x1) 0)] m3 (fun v m7 => ∃ w8, v = some (.int w8) ∧ (if w8 = (nI 0) then K (some (.int (nI 0))) m7 else ok (m7.A 1).length (x1 - (nI 1)) ∧ WP d 74 [.int ((m7.A 1).getD (ix (x1 - (nI 1))) 0)] m7 (fun v m11 => ∃ w12, v = some (.int w12) ∧ (if w12 = (nI 0) then K (some (.int (nI 0))) m11 else K (some (.int (nI 1))) m11)))) else ok (m3.A 1).length (x1 - (nI 1)) ∧ WP d 73 [.int ((m3.A 1).getD (ix (x1 - (nI 1))) 0)] m3 (fun v m15 => ∃ w16, v = some (.int w16) ∧ (if w16 = (nI 0) then ok (m15.A 1).length x1 ∧ WP d 74 [.int ((m15.A 1).getD (ix x1) 0)] m15 (fun v m19 => ∃ w20, v = some (.int w20) ∧ (if w20 = (nI 0) then K (some (.int (nI 0))) m19 else ok (m19.A 1).length (x1 - (nI 1)) ∧ WP d 74 [.int ((m19.A 1).getD (ix (x1 - (nI 1))) 0)] m19 (fun v m23 => ∃ w24, v = some (.int w24) ∧ (if w24 = (nI 0) then K (some (.int (nI 0))) m23 else K (some (.int (nI 1))) m23)))) else K (some (.int (nI 1))) m15)))))) : WP (d + 1) 75 [.ref 1, .int x1] m K := by
  have e_0 : sm_lk (lv_args 0 [.ref 1, .int x1]) 0 = some (.ref 1) := rfl
  have e_1 : sm_lk (lv_args 0 [.ref 1, .int x1]) 1 = some (.int x1) := rfl
  show sm_wp (d + 1) 75 0 (lv_args 0 [.ref 1, .int x1]) [] (hp m) (WQ K)
  generalize lv_args 0 [.ref 1, .int x1] = lv0 at *
  refine wl_ild_n (pc' := 1) rfl e_1 rfl ?_
  refine wp_if_ne (pc' := 4) rfl rfl (fun c1 => ?_) (fun c1 => ?_)
  · replace k := it_f (c := x1 = (nI 0)) c1 k
    refine wl_ald_n (pc' := 7) rfl e_0 rfl ?_
    refine wl_ild_n (pc' := 8) rfl e_1 rfl ?_
    obtain ⟨k2, k⟩ := k
    refine wl_caload (g := m.A 1) (pc' := 9) rfl (hq_1 _) k2 rfl ?_
    refine wl_cs (As := [.int ((m.A 1).getD (ix x1) 0)]) (r := []) (pc' := 12) rfl rfl rfl rfl k ?_
    rintro _ m3 ⟨w4, rfl, k⟩
    show sm_wp (d + 1) 75 12 lv0 [.int w4] (hp m3) (WQ K)
    refine wp_if_eq (pc' := 15) rfl rfl (fun c5 => ?_) (fun c5 => ?_)
    · replace k := it_t (c := w4 = (nI 0)) c5 k
      refine wl_ald_n (pc' := 27) rfl e_0 rfl ?_
      refine wl_ild_n (pc' := 28) rfl e_1 rfl ?_
      obtain ⟨k6, k⟩ := k
      refine wl_caload (g := m3.A 1) (pc' := 29) rfl (hq_1 _) k6 rfl ?_
      refine wl_cs (As := [.int ((m3.A 1).getD (ix x1) 0)]) (r := []) (pc' := 32) rfl rfl rfl rfl k ?_
      rintro _ m7 ⟨w8, rfl, k⟩
      show sm_wp (d + 1) 75 32 lv0 [.int w8] (hp m7) (WQ K)
      refine wp_if_eq (pc' := 35) rfl rfl (fun c9 => ?_) (fun c9 => ?_)
      · replace k := it_t (c := w8 = (nI 0)) c9 k
        refine wp_p (pc' := 51) (lv' := lv0) (st' := [.int (nI 0)]) rfl rfl ?_
        exact wl_ret rfl rfl ⟨_, rfl, k⟩
      · replace k := it_f (c := w8 = (nI 0)) c9 k
        refine wl_ald_n (pc' := 36) rfl e_0 rfl ?_
        refine wl_ild_n (pc' := 37) rfl e_1 rfl ?_
        refine wp_p (pc' := 38) (lv' := lv0) (st' := [.int (nI 1), .int x1, .ref 1]) rfl rfl ?_
        refine wp_isub (v := x1 - (nI 1)) (pc' := 39) rfl rfl rfl ?_
        obtain ⟨k10, k⟩ := k
        refine wl_caload (g := m7.A 1) (pc' := 40) rfl (hq_1 _) k10 rfl ?_
        refine wl_cs (As := [.int ((m7.A 1).getD (ix (x1 - (nI 1))) 0)]) (r := []) (pc' := 43) rfl rfl rfl rfl k ?_
        rintro _ m11 ⟨w12, rfl, k⟩
        show sm_wp (d + 1) 75 43 lv0 [.int w12] (hp m11) (WQ K)
        refine wp_if_eq (pc' := 46) rfl rfl (fun c13 => ?_) (fun c13 => ?_)
        · replace k := it_t (c := w12 = (nI 0)) c13 k
          refine wp_p (pc' := 51) (lv' := lv0) (st' := [.int (nI 0)]) rfl rfl ?_
          exact wl_ret rfl rfl ⟨_, rfl, k⟩
        · replace k := it_f (c := w12 = (nI 0)) c13 k
          refine wp_p (pc' := 47) (lv' := lv0) (st' := [.int (nI 1)]) rfl rfl ?_
          refine wp_p (pc' := 51) (lv' := lv0) (st' := [.int (nI 1)]) rfl rfl ?_
          exact wl_ret rfl rfl ⟨_, rfl, k⟩
    · replace k := it_f (c := w4 = (nI 0)) c5 k
      refine wl_ald_n (pc' := 16) rfl e_0 rfl ?_
      refine wl_ild_n (pc' := 17) rfl e_1 rfl ?_
      refine wp_p (pc' := 18) (lv' := lv0) (st' := [.int (nI 1), .int x1, .ref 1]) rfl rfl ?_
      refine wp_isub (v := x1 - (nI 1)) (pc' := 19) rfl rfl rfl ?_
      obtain ⟨k14, k⟩ := k
      refine wl_caload (g := m3.A 1) (pc' := 20) rfl (hq_1 _) k14 rfl ?_
      refine wl_cs (As := [.int ((m3.A 1).getD (ix (x1 - (nI 1))) 0)]) (r := []) (pc' := 23) rfl rfl rfl rfl k ?_
      rintro _ m15 ⟨w16, rfl, k⟩
      show sm_wp (d + 1) 75 23 lv0 [.int w16] (hp m15) (WQ K)
      refine wp_if_ne (pc' := 26) rfl rfl (fun c17 => ?_) (fun c17 => ?_)
      · replace k := it_f (c := w16 = (nI 0)) c17 k
        refine wp_p (pc' := 47) (lv' := lv0) (st' := [.int (nI 1)]) rfl rfl ?_
        refine wp_p (pc' := 51) (lv' := lv0) (st' := [.int (nI 1)]) rfl rfl ?_
        exact wl_ret rfl rfl ⟨_, rfl, k⟩
      · replace k := it_t (c := w16 = (nI 0)) c17 k
        refine wl_ald_n (pc' := 27) rfl e_0 rfl ?_
        refine wl_ild_n (pc' := 28) rfl e_1 rfl ?_
        obtain ⟨k18, k⟩ := k
        refine wl_caload (g := m15.A 1) (pc' := 29) rfl (hq_1 _) k18 rfl ?_
        refine wl_cs (As := [.int ((m15.A 1).getD (ix x1) 0)]) (r := []) (pc' := 32) rfl rfl rfl rfl k ?_
        rintro _ m19 ⟨w20, rfl, k⟩
        show sm_wp (d + 1) 75 32 lv0 [.int w20] (hp m19) (WQ K)
        refine wp_if_eq (pc' := 35) rfl rfl (fun c21 => ?_) (fun c21 => ?_)
        · replace k := it_t (c := w20 = (nI 0)) c21 k
          refine wp_p (pc' := 51) (lv' := lv0) (st' := [.int (nI 0)]) rfl rfl ?_
          exact wl_ret rfl rfl ⟨_, rfl, k⟩
        · replace k := it_f (c := w20 = (nI 0)) c21 k
          refine wl_ald_n (pc' := 36) rfl e_0 rfl ?_
          refine wl_ild_n (pc' := 37) rfl e_1 rfl ?_
          refine wp_p (pc' := 38) (lv' := lv0) (st' := [.int (nI 1), .int x1, .ref 1]) rfl rfl ?_
          refine wp_isub (v := x1 - (nI 1)) (pc' := 39) rfl rfl rfl ?_
          obtain ⟨k22, k⟩ := k
          refine wl_caload (g := m19.A 1) (pc' := 40) rfl (hq_1 _) k22 rfl ?_
          refine wl_cs (As := [.int ((m19.A 1).getD (ix (x1 - (nI 1))) 0)]) (r := []) (pc' := 43) rfl rfl rfl rfl k ?_
          rintro _ m23 ⟨w24, rfl, k⟩
          show sm_wp (d + 1) 75 43 lv0 [.int w24] (hp m23) (WQ K)
          refine wp_if_eq (pc' := 46) rfl rfl (fun c25 => ?_) (fun c25 => ?_)
          · replace k := it_t (c := w24 = (nI 0)) c25 k
            refine wp_p (pc' := 51) (lv' := lv0) (st' := [.int (nI 0)]) rfl rfl ?_
            exact wl_ret rfl rfl ⟨_, rfl, k⟩
          · replace k := it_f (c := w24 = (nI 0)) c25 k
            refine wp_p (pc' := 47) (lv' := lv0) (st' := [.int (nI 1)]) rfl rfl ?_
            refine wp_p (pc' := 51) (lv' := lv0) (st' := [.int (nI 1)]) rfl rfl ?_
            exact wl_ret rfl rfl ⟨_, rfl, k⟩
  · replace k := it_t (c := x1 = (nI 0)) c1 k
    refine wp_p (pc' := 5) (lv' := lv0) (st' := [.int (nI 0)]) rfl rfl ?_
    exact wl_ret rfl rfl ⟨_, rfl, k⟩
/-! 76: QueryTables$Tokens.addToken -/
set_option maxRecDepth 20000 in
theorem sp_76 {d : Nat} {m : Mm} {K : Option Value → Mm → Prop} (x2 : Int32) (x3 : Int32) (k : ok (m.A 1).length x2 ∧ WP d 73 [.int ((m.A 1).getD (ix x2) 0)] m (fun v m9 => ∃ w10, v = some (.int w10) ∧ (if w10 = (nI 0) then WP d 74 [.int ((m.A 1).getD (ix x2) 0)] m9 (fun v m12 => ∃ w13, v = some (.int w13) ∧ (if w13 = (nI 0) then (if ((m.A 1).getD (ix x2) 0) < (nI 65) then WP d 200 [.float 31, .int ((m.A 1).getD (ix x2) 0)] m12 (fun v m16 => ∃ w17, v = some (.int w17) ∧ (if w17 < (nI 0) then K (some (.int (nI 0))) m16 else WP d 79 [.ref 26, .int ((m.A 1).getD (ix x2) 0), .int (nI 0)] m16 (fun v m19 => ∃ w20, v = some (.int w20) ∧ (if w20 = (nI 0) then K (some (.int (nI 0))) m19 else K (some (.int (nI 1))) m19)))) else (if (nI 67) < ((m.A 1).getD (ix x2) 0) then WP d 200 [.float 31, .int ((m.A 1).getD (ix x2) 0)] m12 (fun v m23 => ∃ w24, v = some (.int w24) ∧ (if w24 < (nI 0) then K (some (.int (nI 0))) m23 else WP d 79 [.ref 26, .int ((m.A 1).getD (ix x2) 0), .int (nI 0)] m23 (fun v m26 => ∃ w27, v = some (.int w27) ∧ (if w27 = (nI 0) then K (some (.int (nI 0))) m26 else K (some (.int (nI 1))) m26)))) else WP d 79 [.ref 26, .int (nI 1), .int (((m.A 1).getD (ix x2) 0) - (nI 65))] m12 (fun v m29 => ∃ w30, v = some (.int w30) ∧ isB w30 ∧ K (some (.int w30)) m29))) else WP d 77 [.ref 26, .ref 1, .int x2, .int x3] m12 (fun v m32 => ∃ w33, v = some (.int w33) ∧ isB w33 ∧ K (some (.int w33)) m32))) else WP d 78 [.ref 26, .ref 1, .int x2, .int x3] m9 (fun v m35 => ∃ w36, v = some (.int w36) ∧ isB w36 ∧ K (some (.int w36)) m35)))) : WP (d + 1) 76 [.ref 26, .ref 1, .int x2, .int x3] m K := by
  have e_0 : sm_lk (lv_args 0 [.ref 26, .ref 1, .int x2, .int x3]) 0 = some (.ref 26) := rfl
  have e_1 : sm_lk (lv_args 0 [.ref 26, .ref 1, .int x2, .int x3]) 1 = some (.ref 1) := rfl
  have e_2 : sm_lk (lv_args 0 [.ref 26, .ref 1, .int x2, .int x3]) 2 = some (.int x2) := rfl
  have e_3 : sm_lk (lv_args 0 [.ref 26, .ref 1, .int x2, .int x3]) 3 = some (.int x3) := rfl
  show sm_wp (d + 1) 76 0 (lv_args 0 [.ref 26, .ref 1, .int x2, .int x3]) [] (hp m) (WQ K)
  generalize lv_args 0 [.ref 26, .ref 1, .int x2, .int x3] = lv0 at *
  refine wl_ald_n (pc' := 1) rfl e_1 rfl ?_
  refine wl_ild_n (pc' := 2) rfl e_2 rfl ?_
  obtain ⟨k1, k⟩ := k
  refine wl_caload (g := m.A 1) (pc' := 3) rfl (hq_1 _) k1 rfl ?_
  refine wl_st1 (pc' := 5) (k0 := 4) (v := .int ((m.A 1).getD (ix x2) 0)) (r := []) rfl rfl (fun lv2 e3 f4 => ?_)
  have e5 := f4 0 _ e_0 (by decide) rfl
  have e6 := f4 1 _ e_1 (by decide) rfl
  have e7 := f4 2 _ e_2 (by decide) rfl
  have e8 := f4 3 _ e_3 (by decide) rfl
  refine wl_ild (pc' := 7) rfl e3 rfl ?_
  refine wl_cs (As := [.int ((m.A 1).getD (ix x2) 0)]) (r := []) (pc' := 10) rfl rfl rfl rfl k ?_
  rintro _ m9 ⟨w10, rfl, k⟩
  show sm_wp (d + 1) 76 10 lv2 [.int w10] (hp m9) (WQ K)
  refine wp_if_eq (pc' := 13) rfl rfl (fun c11 => ?_) (fun c11 => ?_)
  · replace k := it_t (c := w10 = (nI 0)) c11 k
    refine wl_ild (pc' := 23) rfl e3 rfl ?_
    refine wl_cs (As := [.int ((m.A 1).getD (ix x2) 0)]) (r := []) (pc' := 26) rfl rfl rfl rfl k ?_
    rintro _ m12 ⟨w13, rfl, k⟩
    show sm_wp (d + 1) 76 26 lv2 [.int w13] (hp m12) (WQ K)
    refine wp_if_eq (pc' := 29) rfl rfl (fun c14 => ?_) (fun c14 => ?_)
    · replace k := it_t (c := w13 = (nI 0)) c14 k
      refine wl_ild (pc' := 39) rfl e3 rfl ?_
      refine wp_p (pc' := 41) (lv' := lv2) (st' := [.int (nI 65), .int ((m.A 1).getD (ix x2) 0)]) rfl rfl ?_
      refine wp_ic_lt (pc' := 44) rfl rfl (fun c15 => ?_) (fun c15 => ?_)
      · replace k := it_t (c := ((m.A 1).getD (ix x2) 0) < (nI 65)) c15 k
        refine wp_p (pc' := 64) (lv' := lv2) (st' := [.float 31]) rfl rfl ?_
        refine wl_ild (pc' := 66) rfl e3 rfl ?_
        refine wl_cv (As := [.float 31, .int ((m.A 1).getD (ix x2) 0)]) (r := []) (pc' := 69) rfl rfl rfl k ?_
        rintro _ m16 ⟨w17, rfl, k⟩
        show sm_wp (d + 1) 76 69 lv2 [.int w17] (hp m16) (WQ K)
        refine wp_if_lt (pc' := 72) rfl rfl (fun c18 => ?_) (fun c18 => ?_)
        · replace k := it_t (c := w17 < (nI 0)) c18 k
          refine wp_p (pc' := 87) (lv' := lv2) (st' := [.int (nI 0)]) rfl rfl ?_
          exact wl_ret rfl rfl ⟨_, rfl, k⟩
        · replace k := it_f (c := w17 < (nI 0)) c18 k
          refine wl_ald_n (pc' := 73) rfl e5 rfl ?_
          refine wl_ild (pc' := 75) rfl e3 rfl ?_
          refine wp_p (pc' := 76) (lv' := lv2) (st' := [.int (nI 0), .int ((m.A 1).getD (ix x2) 0), .ref 26]) rfl rfl ?_
          refine wl_cv (As := [.ref 26, .int ((m.A 1).getD (ix x2) 0), .int (nI 0)]) (r := []) (pc' := 79) rfl rfl rfl k ?_
          rintro _ m19 ⟨w20, rfl, k⟩
          show sm_wp (d + 1) 76 79 lv2 [.int w20] (hp m19) (WQ K)
          refine wp_if_eq (pc' := 82) rfl rfl (fun c21 => ?_) (fun c21 => ?_)
          · replace k := it_t (c := w20 = (nI 0)) c21 k
            refine wp_p (pc' := 87) (lv' := lv2) (st' := [.int (nI 0)]) rfl rfl ?_
            exact wl_ret rfl rfl ⟨_, rfl, k⟩
          · replace k := it_f (c := w20 = (nI 0)) c21 k
            refine wp_p (pc' := 83) (lv' := lv2) (st' := [.int (nI 1)]) rfl rfl ?_
            refine wp_p (pc' := 87) (lv' := lv2) (st' := [.int (nI 1)]) rfl rfl ?_
            exact wl_ret rfl rfl ⟨_, rfl, k⟩
      · replace k := it_f (c := ((m.A 1).getD (ix x2) 0) < (nI 65)) c15 k
        refine wl_ild (pc' := 46) rfl e3 rfl ?_
        refine wp_p (pc' := 48) (lv' := lv2) (st' := [.int (nI 67), .int ((m.A 1).getD (ix x2) 0)]) rfl rfl ?_
        refine wp_ic_gt (pc' := 51) rfl rfl (fun c22 => ?_) (fun c22 => ?_)
        · replace k := it_t (c := (nI 67) < ((m.A 1).getD (ix x2) 0)) c22 k
          refine wp_p (pc' := 64) (lv' := lv2) (st' := [.float 31]) rfl rfl ?_
          refine wl_ild (pc' := 66) rfl e3 rfl ?_
          refine wl_cv (As := [.float 31, .int ((m.A 1).getD (ix x2) 0)]) (r := []) (pc' := 69) rfl rfl rfl k ?_
          rintro _ m23 ⟨w24, rfl, k⟩
          show sm_wp (d + 1) 76 69 lv2 [.int w24] (hp m23) (WQ K)
          refine wp_if_lt (pc' := 72) rfl rfl (fun c25 => ?_) (fun c25 => ?_)
          · replace k := it_t (c := w24 < (nI 0)) c25 k
            refine wp_p (pc' := 87) (lv' := lv2) (st' := [.int (nI 0)]) rfl rfl ?_
            exact wl_ret rfl rfl ⟨_, rfl, k⟩
          · replace k := it_f (c := w24 < (nI 0)) c25 k
            refine wl_ald_n (pc' := 73) rfl e5 rfl ?_
            refine wl_ild (pc' := 75) rfl e3 rfl ?_
            refine wp_p (pc' := 76) (lv' := lv2) (st' := [.int (nI 0), .int ((m.A 1).getD (ix x2) 0), .ref 26]) rfl rfl ?_
            refine wl_cv (As := [.ref 26, .int ((m.A 1).getD (ix x2) 0), .int (nI 0)]) (r := []) (pc' := 79) rfl rfl rfl k ?_
            rintro _ m26 ⟨w27, rfl, k⟩
            show sm_wp (d + 1) 76 79 lv2 [.int w27] (hp m26) (WQ K)
            refine wp_if_eq (pc' := 82) rfl rfl (fun c28 => ?_) (fun c28 => ?_)
            · replace k := it_t (c := w27 = (nI 0)) c28 k
              refine wp_p (pc' := 87) (lv' := lv2) (st' := [.int (nI 0)]) rfl rfl ?_
              exact wl_ret rfl rfl ⟨_, rfl, k⟩
            · replace k := it_f (c := w27 = (nI 0)) c28 k
              refine wp_p (pc' := 83) (lv' := lv2) (st' := [.int (nI 1)]) rfl rfl ?_
              refine wp_p (pc' := 87) (lv' := lv2) (st' := [.int (nI 1)]) rfl rfl ?_
              exact wl_ret rfl rfl ⟨_, rfl, k⟩
        · replace k := it_f (c := (nI 67) < ((m.A 1).getD (ix x2) 0)) c22 k
          refine wl_ald_n (pc' := 52) rfl e5 rfl ?_
          refine wp_p (pc' := 53) (lv' := lv2) (st' := [.int (nI 1), .ref 26]) rfl rfl ?_
          refine wl_ild (pc' := 55) rfl e3 rfl ?_
          refine wp_p (pc' := 57) (lv' := lv2) (st' := [.int (nI 65), .int ((m.A 1).getD (ix x2) 0), .int (nI 1), .ref 26]) rfl rfl ?_
          refine wp_isub (v := ((m.A 1).getD (ix x2) 0) - (nI 65)) (pc' := 58) rfl rfl rfl ?_
          refine wl_cv (As := [.ref 26, .int (nI 1), .int (((m.A 1).getD (ix x2) 0) - (nI 65))]) (r := []) (pc' := 61) rfl rfl rfl k ?_
          rintro _ m29 ⟨w30, rfl, k⟩
          show sm_wp (d + 1) 76 61 lv2 [.int w30] (hp m29) (WQ K)
          obtain ⟨k31, k⟩ := k
          exact wl_ret rfl k31 ⟨_, rfl, k⟩
    · replace k := it_f (c := w13 = (nI 0)) c14 k
      refine wl_ald_n (pc' := 30) rfl e5 rfl ?_
      refine wl_ald_n (pc' := 31) rfl e6 rfl ?_
      refine wl_ild_n (pc' := 32) rfl e7 rfl ?_
      refine wl_ild_n (pc' := 33) rfl e8 rfl ?_
      refine wl_cv (As := [.ref 26, .ref 1, .int x2, .int x3]) (r := []) (pc' := 36) rfl rfl rfl k ?_
      rintro _ m32 ⟨w33, rfl, k⟩
      show sm_wp (d + 1) 76 36 lv2 [.int w33] (hp m32) (WQ K)
      obtain ⟨k34, k⟩ := k
      exact wl_ret rfl k34 ⟨_, rfl, k⟩
  · replace k := it_f (c := w10 = (nI 0)) c11 k
    refine wl_ald_n (pc' := 14) rfl e5 rfl ?_
    refine wl_ald_n (pc' := 15) rfl e6 rfl ?_
    refine wl_ild_n (pc' := 16) rfl e7 rfl ?_
    refine wl_ild_n (pc' := 17) rfl e8 rfl ?_
    refine wl_cv (As := [.ref 26, .ref 1, .int x2, .int x3]) (r := []) (pc' := 20) rfl rfl rfl k ?_
    rintro _ m35 ⟨w36, rfl, k⟩
    show sm_wp (d + 1) 76 20 lv2 [.int w36] (hp m35) (WQ K)
    obtain ⟨k37, k⟩ := k
    exact wl_ret rfl k37 ⟨_, rfl, k⟩
/-! 77: QueryTables$Tokens.addNumber -/
set_option maxRecDepth 20000 in
theorem sp_77 {d : Nat} {m : Mm} {K : Option Value → Mm → Prop} (x2 : Int32) (x3 : Int32) (k : WH d 77 6 [(0, .ref 26), (1, .ref 1), (2, .int x2), (3, .int x3), (4, .int (nI 0)), (5, .int x2)] [] m K) : WP d 77 [.ref 26, .ref 1, .int x2, .int x3] m K := by
  have e_0 : sm_lk (lv_args 0 [.ref 26, .ref 1, .int x2, .int x3]) 0 = some (.ref 26) := rfl
  have e_1 : sm_lk (lv_args 0 [.ref 26, .ref 1, .int x2, .int x3]) 1 = some (.ref 1) := rfl
  have e_2 : sm_lk (lv_args 0 [.ref 26, .ref 1, .int x2, .int x3]) 2 = some (.int x2) := rfl
  have e_3 : sm_lk (lv_args 0 [.ref 26, .ref 1, .int x2, .int x3]) 3 = some (.int x3) := rfl
  show sm_wp d 77 0 (lv_args 0 [.ref 26, .ref 1, .int x2, .int x3]) [] (hp m) (WQ K)
  generalize lv_args 0 [.ref 26, .ref 1, .int x2, .int x3] = lv0 at *
  refine wp_p (pc' := 1) (lv' := lv0) (st' := [.int (nI 0)]) rfl rfl ?_
  refine wl_st1 (pc' := 3) (k0 := 4) (v := .int (nI 0)) (r := []) rfl rfl (fun lv1 e2 f3 => ?_)
  have e4 := f3 0 _ e_0 (by decide) rfl
  have e5 := f3 1 _ e_1 (by decide) rfl
  have e6 := f3 2 _ e_2 (by decide) rfl
  have e7 := f3 3 _ e_3 (by decide) rfl
  refine wl_ild_n (pc' := 4) rfl e6 rfl ?_
  refine wl_st1 (pc' := 6) (k0 := 5) (v := .int x2) (r := []) rfl rfl (fun lv8 e9 f10 => ?_)
  have e11 := f10 0 _ e4 (by decide) rfl
  have e12 := f10 1 _ e5 (by decide) rfl
  have e13 := f10 2 _ e6 (by decide) rfl
  have e14 := f10 3 _ e7 (by decide) rfl
  have e15 := f10 4 _ e2 (by decide) rfl
  exact k _ ⟨e11, e12, e13, e14, e15, e9, trivial⟩
set_option maxRecDepth 20000 in
theorem sg_77_6 {d : Nat} {m : Mm} {K : Option Value → Mm → Prop} (x2 : Int32) (x3 : Int32) (x4 : Int32) (x5 : Int32) (k : (if x3 ≤ x5 then (if (nI 9) < (x5 - x2) then K (some (.int (nI 0))) m else WP d 79 [.ref 26, .int (nI 2), .int x4] m (fun v m3 => ∃ w4, v = some (.int w4) ∧ (if w4 = (nI 0) then K (some (.int (nI 0))) m3 else K (some (.int (nI 1))) m3))) else ok (m.A 1).length x5 ∧ WP d 74 [.int ((m.A 1).getD (ix x5) 0)] m (fun v m7 => ∃ w8, v = some (.int w8) ∧ (if w8 = (nI 0) then (if (nI 9) < (x5 - x2) then K (some (.int (nI 0))) m7 else WP d 79 [.ref 26, .int (nI 2), .int x4] m7 (fun v m11 => ∃ w12, v = some (.int w12) ∧ (if w12 = (nI 0) then K (some (.int (nI 0))) m11 else K (some (.int (nI 1))) m11))) else ok (m7.A 1).length x5 ∧ WH (d + 1) 77 6 [(0, .ref 26), (1, .ref 1), (2, .int x2), (3, .int x3), (4, .int ((x4 * (nI 10)) + (((m7.A 1).getD (ix x5) 0) - (nI 48)))), (5, .int (x5 + nI 1))] [] m7 K)))) : WH (d + 1) 77 6 [(0, .ref 26), (1, .ref 1), (2, .int x2), (3, .int x3), (4, .int x4), (5, .int x5)] [] m K := by
  intro lv0 el
  obtain ⟨e_0, e_1, e_2, e_3, e_4, e_5, _⟩ := el
  refine wl_ild (pc' := 8) rfl e_5 rfl ?_
  refine wl_ild_n (pc' := 9) rfl e_3 rfl ?_
  refine wp_ic_ge (pc' := 12) rfl rfl (fun c1 => ?_) (fun c1 => ?_)
  · replace k := it_t (c := x3 ≤ x5) c1 k
    refine wl_ild (pc' := 45) rfl e_5 rfl ?_
    refine wl_ild_n (pc' := 46) rfl e_2 rfl ?_
    refine wp_isub (v := x5 - x2) (pc' := 47) rfl rfl rfl ?_
    refine wp_p (pc' := 49) (lv' := lv0) (st' := [.int (nI 9), .int (x5 - x2)]) rfl rfl ?_
    refine wp_ic_gt (pc' := 52) rfl rfl (fun c2 => ?_) (fun c2 => ?_)
    · replace k := it_t (c := (nI 9) < (x5 - x2)) c2 k
      refine wp_p (pc' := 67) (lv' := lv0) (st' := [.int (nI 0)]) rfl rfl ?_
      exact wl_ret rfl rfl ⟨_, rfl, k⟩
    · replace k := it_f (c := (nI 9) < (x5 - x2)) c2 k
      refine wl_ald_n (pc' := 53) rfl e_0 rfl ?_
      refine wp_p (pc' := 54) (lv' := lv0) (st' := [.int (nI 2), .ref 26]) rfl rfl ?_
      refine wl_ild (pc' := 56) rfl e_4 rfl ?_
      refine wl_cv (As := [.ref 26, .int (nI 2), .int x4]) (r := []) (pc' := 59) rfl rfl rfl k ?_
      rintro _ m3 ⟨w4, rfl, k⟩
      show sm_wp (d + 1) 77 59 lv0 [.int w4] (hp m3) (WQ K)
      refine wp_if_eq (pc' := 62) rfl rfl (fun c5 => ?_) (fun c5 => ?_)
      · replace k := it_t (c := w4 = (nI 0)) c5 k
        refine wp_p (pc' := 67) (lv' := lv0) (st' := [.int (nI 0)]) rfl rfl ?_
        exact wl_ret rfl rfl ⟨_, rfl, k⟩
      · replace k := it_f (c := w4 = (nI 0)) c5 k
        refine wp_p (pc' := 63) (lv' := lv0) (st' := [.int (nI 1)]) rfl rfl ?_
        refine wp_p (pc' := 67) (lv' := lv0) (st' := [.int (nI 1)]) rfl rfl ?_
        exact wl_ret rfl rfl ⟨_, rfl, k⟩
  · replace k := it_f (c := x3 ≤ x5) c1 k
    refine wl_ald_n (pc' := 13) rfl e_1 rfl ?_
    refine wl_ild (pc' := 15) rfl e_5 rfl ?_
    obtain ⟨k6, k⟩ := k
    refine wl_caload (g := m.A 1) (pc' := 16) rfl (hq_1 _) k6 rfl ?_
    refine wl_cs (As := [.int ((m.A 1).getD (ix x5) 0)]) (r := []) (pc' := 19) rfl rfl rfl rfl k ?_
    rintro _ m7 ⟨w8, rfl, k⟩
    show sm_wp (d + 1) 77 19 lv0 [.int w8] (hp m7) (WQ K)
    refine wp_if_eq (pc' := 22) rfl rfl (fun c9 => ?_) (fun c9 => ?_)
    · replace k := it_t (c := w8 = (nI 0)) c9 k
      refine wl_ild (pc' := 45) rfl e_5 rfl ?_
      refine wl_ild_n (pc' := 46) rfl e_2 rfl ?_
      refine wp_isub (v := x5 - x2) (pc' := 47) rfl rfl rfl ?_
      refine wp_p (pc' := 49) (lv' := lv0) (st' := [.int (nI 9), .int (x5 - x2)]) rfl rfl ?_
      refine wp_ic_gt (pc' := 52) rfl rfl (fun c10 => ?_) (fun c10 => ?_)
      · replace k := it_t (c := (nI 9) < (x5 - x2)) c10 k
        refine wp_p (pc' := 67) (lv' := lv0) (st' := [.int (nI 0)]) rfl rfl ?_
        exact wl_ret rfl rfl ⟨_, rfl, k⟩
      · replace k := it_f (c := (nI 9) < (x5 - x2)) c10 k
        refine wl_ald_n (pc' := 53) rfl e_0 rfl ?_
        refine wp_p (pc' := 54) (lv' := lv0) (st' := [.int (nI 2), .ref 26]) rfl rfl ?_
        refine wl_ild (pc' := 56) rfl e_4 rfl ?_
        refine wl_cv (As := [.ref 26, .int (nI 2), .int x4]) (r := []) (pc' := 59) rfl rfl rfl k ?_
        rintro _ m11 ⟨w12, rfl, k⟩
        show sm_wp (d + 1) 77 59 lv0 [.int w12] (hp m11) (WQ K)
        refine wp_if_eq (pc' := 62) rfl rfl (fun c13 => ?_) (fun c13 => ?_)
        · replace k := it_t (c := w12 = (nI 0)) c13 k
          refine wp_p (pc' := 67) (lv' := lv0) (st' := [.int (nI 0)]) rfl rfl ?_
          exact wl_ret rfl rfl ⟨_, rfl, k⟩
        · replace k := it_f (c := w12 = (nI 0)) c13 k
          refine wp_p (pc' := 63) (lv' := lv0) (st' := [.int (nI 1)]) rfl rfl ?_
          refine wp_p (pc' := 67) (lv' := lv0) (st' := [.int (nI 1)]) rfl rfl ?_
          exact wl_ret rfl rfl ⟨_, rfl, k⟩
    · replace k := it_f (c := w8 = (nI 0)) c9 k
      refine wl_ild (pc' := 24) rfl e_4 rfl ?_
      refine wp_p (pc' := 26) (lv' := lv0) (st' := [.int (nI 10), .int x4]) rfl rfl ?_
      refine wp_imul (v := x4 * (nI 10)) (pc' := 27) rfl rfl rfl ?_
      refine wl_ald_n (pc' := 28) rfl e_1 rfl ?_
      refine wl_ild (pc' := 30) rfl e_5 rfl ?_
      obtain ⟨k14, k⟩ := k
      refine wl_caload (g := m7.A 1) (pc' := 31) rfl (hq_1 _) k14 rfl ?_
      refine wp_p (pc' := 33) (lv' := lv0) (st' := [.int (nI 48), .int ((m7.A 1).getD (ix x5) 0), .int (x4 * (nI 10))]) rfl rfl ?_
      refine wp_isub (v := ((m7.A 1).getD (ix x5) 0) - (nI 48)) (pc' := 34) rfl rfl rfl ?_
      refine wp_iadd (v := (x4 * (nI 10)) + (((m7.A 1).getD (ix x5) 0) - (nI 48))) (pc' := 35) rfl rfl rfl ?_
      refine wl_st1 (pc' := 37) (k0 := 4) (v := .int ((x4 * (nI 10)) + (((m7.A 1).getD (ix x5) 0) - (nI 48)))) (r := []) rfl rfl (fun lv15 e16 f17 => ?_)
      have e18 := f17 0 _ e_0 (by decide) rfl
      have e19 := f17 1 _ e_1 (by decide) rfl
      have e20 := f17 2 _ e_2 (by decide) rfl
      have e21 := f17 3 _ e_3 (by decide) rfl
      have e22 := f17 5 _ e_5 (by decide) rfl
      refine wl_iinc (pc' := 40) (v := x5 + nI 1) rfl e22 rfl rfl rfl (fun lv23 e24 f25 => ?_)
      have e26 := f25 0 _ e18 (by decide) rfl
      have e27 := f25 1 _ e19 (by decide) rfl
      have e28 := f25 2 _ e20 (by decide) rfl
      have e29 := f25 3 _ e21 (by decide) rfl
      have e30 := f25 4 _ e16 (by decide) rfl
      refine wp_p (pc' := 6) (lv' := lv23) (st' := []) rfl rfl ?_
      exact k _ ⟨e26, e27, e28, e29, e30, e24, trivial⟩
/-! 78: QueryTables$Tokens.addWord -/
set_option maxRecDepth 20000 in
theorem sp_78 {d : Nat} {m : Mm} {K : Option Value → Mm → Prop} (x2 : Int32) (x3 : Int32) (k : WH d 78 3 [(0, .ref 26), (1, .ref 1), (2, .int x2), (3, .int x3), (4, .int x2)] [] m K) : WP d 78 [.ref 26, .ref 1, .int x2, .int x3] m K := by
  have e_0 : sm_lk (lv_args 0 [.ref 26, .ref 1, .int x2, .int x3]) 0 = some (.ref 26) := rfl
  have e_1 : sm_lk (lv_args 0 [.ref 26, .ref 1, .int x2, .int x3]) 1 = some (.ref 1) := rfl
  have e_2 : sm_lk (lv_args 0 [.ref 26, .ref 1, .int x2, .int x3]) 2 = some (.int x2) := rfl
  have e_3 : sm_lk (lv_args 0 [.ref 26, .ref 1, .int x2, .int x3]) 3 = some (.int x3) := rfl
  show sm_wp d 78 0 (lv_args 0 [.ref 26, .ref 1, .int x2, .int x3]) [] (hp m) (WQ K)
  generalize lv_args 0 [.ref 26, .ref 1, .int x2, .int x3] = lv0 at *
  refine wl_ild_n (pc' := 1) rfl e_2 rfl ?_
  refine wl_st1 (pc' := 3) (k0 := 4) (v := .int x2) (r := []) rfl rfl (fun lv1 e2 f3 => ?_)
  have e4 := f3 0 _ e_0 (by decide) rfl
  have e5 := f3 1 _ e_1 (by decide) rfl
  have e6 := f3 2 _ e_2 (by decide) rfl
  have e7 := f3 3 _ e_3 (by decide) rfl
  exact k _ ⟨e4, e5, e6, e7, e2, trivial⟩
set_option maxRecDepth 20000 in
theorem sg_78_3 {d : Nat} {m : Mm} {K : Option Value → Mm → Prop} (x2 : Int32) (x3 : Int32) (x4 : Int32) (k : (if x3 ≤ x4 then WH (d + 1) 78 25 [(0, .ref 26), (1, .ref 1), (2, .int x2), (4, .int x4)] [] m K else ok (m.A 1).length x4 ∧ WP d 73 [.int ((m.A 1).getD (ix x4) 0)] m (fun v m3 => ∃ w4, v = some (.int w4) ∧ (if w4 = (nI 0) then WH (d + 1) 78 25 [(0, .ref 26), (1, .ref 1), (2, .int x2), (4, .int x4)] [] m3 K else WH (d + 1) 78 3 [(0, .ref 26), (1, .ref 1), (2, .int x2), (3, .int x3), (4, .int (x4 + nI 1))] [] m3 K)))) : WH (d + 1) 78 3 [(0, .ref 26), (1, .ref 1), (2, .int x2), (3, .int x3), (4, .int x4)] [] m K := by
  intro lv0 el
  obtain ⟨e_0, e_1, e_2, e_3, e_4, _⟩ := el
  refine wl_ild (pc' := 5) rfl e_4 rfl ?_
  refine wl_ild_n (pc' := 6) rfl e_3 rfl ?_
  refine wp_ic_ge (pc' := 9) rfl rfl (fun c1 => ?_) (fun c1 => ?_)
  · replace k := it_t (c := x3 ≤ x4) c1 k
    exact k _ ⟨e_0, e_1, e_2, e_4, trivial⟩
  · replace k := it_f (c := x3 ≤ x4) c1 k
    refine wl_ald_n (pc' := 10) rfl e_1 rfl ?_
    refine wl_ild (pc' := 12) rfl e_4 rfl ?_
    obtain ⟨k2, k⟩ := k
    refine wl_caload (g := m.A 1) (pc' := 13) rfl (hq_1 _) k2 rfl ?_
    refine wl_cs (As := [.int ((m.A 1).getD (ix x4) 0)]) (r := []) (pc' := 16) rfl rfl rfl rfl k ?_
    rintro _ m3 ⟨w4, rfl, k⟩
    show sm_wp (d + 1) 78 16 lv0 [.int w4] (hp m3) (WQ K)
    refine wp_if_eq (pc' := 19) rfl rfl (fun c5 => ?_) (fun c5 => ?_)
    · replace k := it_t (c := w4 = (nI 0)) c5 k
      exact k _ ⟨e_0, e_1, e_2, e_4, trivial⟩
    · replace k := it_f (c := w4 = (nI 0)) c5 k
      refine wl_iinc (pc' := 22) (v := x4 + nI 1) rfl e_4 rfl rfl rfl (fun lv6 e7 f8 => ?_)
      have e9 := f8 0 _ e_0 (by decide) rfl
      have e10 := f8 1 _ e_1 (by decide) rfl
      have e11 := f8 2 _ e_2 (by decide) rfl
      have e12 := f8 3 _ e_3 (by decide) rfl
      refine wp_p (pc' := 3) (lv' := lv6) (st' := []) rfl rfl ?_
      exact k _ ⟨e9, e10, e11, e12, e7, trivial⟩
set_option maxRecDepth 20000 in
theorem sg_78_25 {d : Nat} {m : Mm} {K : Option Value → Mm → Prop} (x2 : Int32) (x4 : Int32) (k : (if (x4 - x2) = (nI 1) then ok (m.A 1).length x2 ∧ (if (nI 100) < ((m.A 1).getD (ix x2) 0) then WH (d + 1) 78 59 [] [] m K else ok (m.A 1).length x2 ∧ WP d 79 [.ref 26, .int (nI 3), .int (((m.A 1).getD (ix x2) 0) - (nI 97))] m (fun v m24 => ∃ w25, v = some (.int w25) ∧ (if w25 = (nI 0) then WH (d + 1) 78 59 [] [] m24 K else K (some (.int (nI 1))) m24))) else WP d 80 [.ref 1, .int x2, .int x4] m (fun v m2 => ∃ w3, v = some (.int w3) ∧ (if w3 = (-1) then WP d 81 [.ref 1, .int x2, .int x4] m2 (fun v m12 => ∃ w13, v = some (.int w13) ∧ WH (d + 1) 78 85 [(0, .ref 26), (5, .int w13)] [] m12 K) else WH (d + 1) 78 85 [(0, .ref 26), (5, .int w3)] [] m2 K)))) : WH (d + 1) 78 25 [(0, .ref 26), (1, .ref 1), (2, .int x2), (4, .int x4)] [] m K := by
  intro lv0 el
  obtain ⟨e_0, e_1, e_2, e_4, _⟩ := el
  refine wl_ild (pc' := 27) rfl e_4 rfl ?_
  refine wl_ild_n (pc' := 28) rfl e_2 rfl ?_
  refine wp_isub (v := x4 - x2) (pc' := 29) rfl rfl rfl ?_
  refine wp_p (pc' := 30) (lv' := lv0) (st' := [.int (nI 1), .int (x4 - x2)]) rfl rfl ?_
  refine wp_ic_ne (pc' := 33) rfl rfl (fun c1 => ?_) (fun c1 => ?_)
  · replace k := it_f (c := (x4 - x2) = (nI 1)) c1 k
    refine wl_ald_n (pc' := 62) rfl e_1 rfl ?_
    refine wl_ild_n (pc' := 63) rfl e_2 rfl ?_
    refine wl_ild (pc' := 65) rfl e_4 rfl ?_
    refine wl_cs (As := [.ref 1, .int x2, .int x4]) (r := []) (pc' := 68) rfl rfl rfl rfl k ?_
    rintro _ m2 ⟨w3, rfl, k⟩
    show sm_wp (d + 1) 78 68 lv0 [.int w3] (hp m2) (WQ K)
    refine wl_st1 (pc' := 70) (k0 := 5) (v := .int w3) (r := []) rfl rfl (fun lv4 e5 f6 => ?_)
    have e7 := f6 0 _ e_0 (by decide) rfl
    have e8 := f6 1 _ e_1 (by decide) rfl
    have e9 := f6 2 _ e_2 (by decide) rfl
    have e10 := f6 4 _ e_4 (by decide) rfl
    refine wl_ild (pc' := 72) rfl e5 rfl ?_
    refine wp_p (pc' := 73) (lv' := lv4) (st' := [.int (-1), .int w3]) rfl rfl ?_
    refine wp_ic_ne (pc' := 76) rfl rfl (fun c11 => ?_) (fun c11 => ?_)
    · replace k := it_f (c := w3 = (-1)) c11 k
      exact k _ ⟨e7, e5, trivial⟩
    · replace k := it_t (c := w3 = (-1)) c11 k
      refine wl_ald_n (pc' := 77) rfl e8 rfl ?_
      refine wl_ild_n (pc' := 78) rfl e9 rfl ?_
      refine wl_ild (pc' := 80) rfl e10 rfl ?_
      refine wl_cs (As := [.ref 1, .int x2, .int x4]) (r := []) (pc' := 83) rfl rfl rfl rfl k ?_
      rintro _ m12 ⟨w13, rfl, k⟩
      show sm_wp (d + 1) 78 83 lv4 [.int w13] (hp m12) (WQ K)
      refine wl_st1 (pc' := 85) (k0 := 5) (v := .int w13) (r := []) rfl rfl (fun lv14 e15 f16 => ?_)
      have e17 := f16 0 _ e7 (by decide) rfl
      have e18 := f16 1 _ e8 (by decide) rfl
      have e19 := f16 2 _ e9 (by decide) rfl
      have e20 := f16 4 _ e10 (by decide) rfl
      exact k _ ⟨e17, e15, trivial⟩
  · replace k := it_t (c := (x4 - x2) = (nI 1)) c1 k
    refine wl_ald_n (pc' := 34) rfl e_1 rfl ?_
    refine wl_ild_n (pc' := 35) rfl e_2 rfl ?_
    obtain ⟨k21, k⟩ := k
    refine wl_caload (g := m.A 1) (pc' := 36) rfl (hq_1 _) k21 rfl ?_
    refine wp_p (pc' := 38) (lv' := lv0) (st' := [.int (nI 100), .int ((m.A 1).getD (ix x2) 0)]) rfl rfl ?_
    refine wp_ic_gt (pc' := 41) rfl rfl (fun c22 => ?_) (fun c22 => ?_)
    · replace k := it_t (c := (nI 100) < ((m.A 1).getD (ix x2) 0)) c22 k
      exact k _ trivial
    · replace k := it_f (c := (nI 100) < ((m.A 1).getD (ix x2) 0)) c22 k
      refine wl_ald_n (pc' := 42) rfl e_0 rfl ?_
      refine wp_p (pc' := 43) (lv' := lv0) (st' := [.int (nI 3), .ref 26]) rfl rfl ?_
      refine wl_ald_n (pc' := 44) rfl e_1 rfl ?_
      refine wl_ild_n (pc' := 45) rfl e_2 rfl ?_
      obtain ⟨k23, k⟩ := k
      refine wl_caload (g := m.A 1) (pc' := 46) rfl (hq_1 _) k23 rfl ?_
      refine wp_p (pc' := 48) (lv' := lv0) (st' := [.int (nI 97), .int ((m.A 1).getD (ix x2) 0), .int (nI 3), .ref 26]) rfl rfl ?_
      refine wp_isub (v := ((m.A 1).getD (ix x2) 0) - (nI 97)) (pc' := 49) rfl rfl rfl ?_
      refine wl_cv (As := [.ref 26, .int (nI 3), .int (((m.A 1).getD (ix x2) 0) - (nI 97))]) (r := []) (pc' := 52) rfl rfl rfl k ?_
      rintro _ m24 ⟨w25, rfl, k⟩
      show sm_wp (d + 1) 78 52 lv0 [.int w25] (hp m24) (WQ K)
      refine wp_if_eq (pc' := 55) rfl rfl (fun c26 => ?_) (fun c26 => ?_)
      · replace k := it_t (c := w25 = (nI 0)) c26 k
        exact k _ trivial
      · replace k := it_f (c := w25 = (nI 0)) c26 k
        refine wp_p (pc' := 56) (lv' := lv0) (st' := [.int (nI 1)]) rfl rfl ?_
        refine wp_p (pc' := 60) (lv' := lv0) (st' := [.int (nI 1)]) rfl rfl ?_
        exact wl_ret rfl rfl ⟨_, rfl, k⟩
set_option maxRecDepth 20000 in
theorem sg_78_85 {d : Nat} {m : Mm} {K : Option Value → Mm → Prop} (x5 : Int32) (k : (if x5 = (-1) then WH (d + 1) 78 105 [] [] m K else WP d 79 [.ref 26, .int x5, .int (nI 0)] m (fun v m2 => ∃ w3, v = some (.int w3) ∧ (if w3 = (nI 0) then WH (d + 1) 78 105 [] [] m2 K else K (some (.int (nI 1))) m2)))) : WH (d + 1) 78 85 [(0, .ref 26), (5, .int x5)] [] m K := by
  intro lv0 el
  obtain ⟨e_0, e_5, _⟩ := el
  refine wl_ild (pc' := 87) rfl e_5 rfl ?_
  refine wp_p (pc' := 88) (lv' := lv0) (st' := [.int (-1), .int x5]) rfl rfl ?_
  refine wp_ic_eq (pc' := 91) rfl rfl (fun c1 => ?_) (fun c1 => ?_)
  · replace k := it_t (c := x5 = (-1)) c1 k
    exact k _ trivial
  · replace k := it_f (c := x5 = (-1)) c1 k
    refine wl_ald_n (pc' := 92) rfl e_0 rfl ?_
    refine wl_ild (pc' := 94) rfl e_5 rfl ?_
    refine wp_p (pc' := 95) (lv' := lv0) (st' := [.int (nI 0), .int x5, .ref 26]) rfl rfl ?_
    refine wl_cv (As := [.ref 26, .int x5, .int (nI 0)]) (r := []) (pc' := 98) rfl rfl rfl k ?_
    rintro _ m2 ⟨w3, rfl, k⟩
    show sm_wp (d + 1) 78 98 lv0 [.int w3] (hp m2) (WQ K)
    refine wp_if_eq (pc' := 101) rfl rfl (fun c4 => ?_) (fun c4 => ?_)
    · replace k := it_t (c := w3 = (nI 0)) c4 k
      exact k _ trivial
    · replace k := it_f (c := w3 = (nI 0)) c4 k
      refine wp_p (pc' := 102) (lv' := lv0) (st' := [.int (nI 1)]) rfl rfl ?_
      refine wp_p (pc' := 106) (lv' := lv0) (st' := [.int (nI 1)]) rfl rfl ?_
      exact wl_ret rfl rfl ⟨_, rfl, k⟩
set_option maxRecDepth 20000 in
theorem sg_78_59 {d : Nat} {m : Mm} {K : Option Value → Mm → Prop} (k : K (some (.int (nI 0))) m) : WH d 78 59 [] [] m K := by
  intro lv0 el
  refine wp_p (pc' := 60) (lv' := lv0) (st' := [.int (nI 0)]) rfl rfl ?_
  exact wl_ret rfl rfl ⟨_, rfl, k⟩
set_option maxRecDepth 20000 in
theorem sg_78_105 {d : Nat} {m : Mm} {K : Option Value → Mm → Prop} (k : K (some (.int (nI 0))) m) : WH d 78 105 [] [] m K := by
  intro lv0 el
  refine wp_p (pc' := 106) (lv' := lv0) (st' := [.int (nI 0)]) rfl rfl ?_
  exact wl_ret rfl rfl ⟨_, rfl, k⟩
