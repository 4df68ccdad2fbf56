/-! SEGMENTS of the methods 99 to 116 (by program, wip/whole/gen25.py): what must hold of a way from one place to the next -/
/-! 99: QueryTables$Parser.columnOfTable -/
set_option maxRecDepth 20000 in
theorem sp_99 {d : Nat} {m : Mm} {K : Option Value → Mm → Prop} (k : WP d 71 [.ref 26, .int (nI 1)] m (fun v m5 => ∃ w6, v = some (.int w6) ∧ (if w6 = (nI 0) then WP d 71 [.ref 26, .int (nI 3)] m5 (fun v m8 => ∃ w9, v = some (.int w9) ∧ (if w9 = (nI 0) then K (some (.int (nI 0))) m8 else WP d 72 [.ref 26] m8 (fun v m11 => ∃ w12, v = some (.int w12) ∧ WP d 47 [.ref 17, .int (nI 3), .int w12, .int (-1)] m11 (fun v m13 => v = none ∧ K (some (.int (nI 1))) m13)))) else WP d 72 [.ref 26] m5 (fun v m14 => ∃ w15, v = some (.int w15) ∧ WP d 71 [.ref 26, .int (nI 46)] m14 (fun v m20 => ∃ w21, v = some (.int w21) ∧ (if w21 = (nI 0) then K (some (.int (nI 0))) m20 else WP d 71 [.ref 26, .int (nI 3)] m20 (fun v m23 => ∃ w24, v = some (.int w24) ∧ (if w24 = (nI 0) then K (some (.int (nI 0))) m23 else WP d 72 [.ref 26] m23 (fun v m26 => ∃ w27, v = some (.int w27) ∧ WP d 47 [.ref 17, .int (nI 3), .int w27, .int w15] m26 (fun v m28 => v = none ∧ K (some (.int (nI 1))) m28)))))))))) : WP (d + 1) 99 [.ref 25] m K := by
  have e_0 : sm_lk (lv_args 0 [.ref 25]) 0 = some (.ref 25) := rfl
  show sm_wp (d + 1) 99 0 (lv_args 0 [.ref 25]) [] (hp m) (WQ K)
  generalize lv_args 0 [.ref 25] = lv0 at *
  refine wp_p (pc' := 1) (lv' := lv0) (st' := [.int (-1)]) rfl rfl ?_
  refine wl_st1 (pc' := 2) (k0 := 1) (v := .int (-1)) (r := []) rfl rfl (fun lv1 e2 f3 => ?_)
  have e4 := f3 0 _ e_0 (by decide) rfl
  refine wl_ald_n (pc' := 3) rfl e4 rfl ?_
  refine wp_get (v := .ref 26) (pc' := 6) rfl (hq_25 _) rfl rfl ?_
  refine wp_p (pc' := 7) (lv' := lv1) (st' := [.int (nI 1), .ref 26]) rfl rfl ?_
  refine wl_cv (As := [.ref 26, .int (nI 1)]) (r := []) (pc' := 10) rfl rfl rfl k ?_
  rintro _ m5 ⟨w6, rfl, k⟩
  show sm_wp (d + 1) 99 10 lv1 [.int w6] (hp m5) (WQ K)
  refine wp_if_eq (pc' := 13) rfl rfl (fun c7 => ?_) (fun c7 => ?_)
  · replace k := it_t (c := w6 = (nI 0)) c7 k
    refine wl_ald_n (pc' := 36) rfl e4 rfl ?_
    refine wp_get (v := .ref 26) (pc' := 39) rfl (hq_25 _) rfl rfl ?_
    refine wp_p (pc' := 40) (lv' := lv1) (st' := [.int (nI 3), .ref 26]) rfl rfl ?_
    refine wl_cv (As := [.ref 26, .int (nI 3)]) (r := []) (pc' := 43) rfl rfl rfl k ?_
    rintro _ m8 ⟨w9, rfl, k⟩
    show sm_wp (d + 1) 99 43 lv1 [.int w9] (hp m8) (WQ K)
    refine wp_if_ne (pc' := 46) rfl rfl (fun c10 => ?_) (fun c10 => ?_)
    · replace k := it_f (c := w9 = (nI 0)) c10 k
      refine wl_ald_n (pc' := 49) rfl e4 rfl ?_
      refine wp_get (v := .ref 17) (pc' := 52) rfl (hq_25 _) rfl rfl ?_
      refine wp_p (pc' := 53) (lv' := lv1) (st' := [.int (nI 3), .ref 17]) rfl rfl ?_
      refine wl_ald_n (pc' := 54) rfl e4 rfl ?_
      refine wp_get (v := .ref 26) (pc' := 57) rfl (hq_25 _) rfl rfl ?_
      refine wl_cv (As := [.ref 26]) (r := [.int (nI 3), .ref 17]) (pc' := 60) rfl rfl rfl k ?_
      rintro _ m11 ⟨w12, rfl, k⟩
      show sm_wp (d + 1) 99 60 lv1 [.int w12, .int (nI 3), .ref 17] (hp m11) (WQ K)
      refine wl_ild_n (pc' := 61) rfl e2 rfl ?_
      refine wl_cv (As := [.ref 17, .int (nI 3), .int w12, .int (-1)]) (r := []) (pc' := 64) rfl rfl rfl k ?_
      rintro _ m13 ⟨rfl, k⟩
      show sm_wp (d + 1) 99 64 lv1 [] (hp m13) (WQ K)
      refine wp_p (pc' := 65) (lv' := lv1) (st' := [.int (nI 1)]) rfl rfl ?_
      exact wl_ret rfl rfl ⟨_, rfl, k⟩
    · replace k := it_t (c := w9 = (nI 0)) c10 k
      refine wp_p (pc' := 47) (lv' := lv1) (st' := [.int (nI 0)]) rfl rfl ?_
      exact wl_ret rfl rfl ⟨_, rfl, k⟩
  · replace k := it_f (c := w6 = (nI 0)) c7 k
    refine wl_ald_n (pc' := 14) rfl e4 rfl ?_
    refine wp_get (v := .ref 26) (pc' := 17) rfl (hq_25 _) rfl rfl ?_
    refine wl_cv (As := [.ref 26]) (r := []) (pc' := 20) rfl rfl rfl k ?_
    rintro _ m14 ⟨w15, rfl, k⟩
    show sm_wp (d + 1) 99 20 lv1 [.int w15] (hp m14) (WQ K)
    refine wl_st1 (pc' := 21) (k0 := 1) (v := .int w15) (r := []) rfl rfl (fun lv16 e17 f18 => ?_)
    have e19 := f18 0 _ e4 (by decide) rfl
    refine wl_ald_n (pc' := 22) rfl e19 rfl ?_
    refine wp_get (v := .ref 26) (pc' := 25) rfl (hq_25 _) rfl rfl ?_
    refine wp_p (pc' := 27) (lv' := lv16) (st' := [.int (nI 46), .ref 26]) rfl rfl ?_
    refine wl_cv (As := [.ref 26, .int (nI 46)]) (r := []) (pc' := 30) rfl rfl rfl k ?_
    rintro _ m20 ⟨w21, rfl, k⟩
    show sm_wp (d + 1) 99 30 lv16 [.int w21] (hp m20) (WQ K)
    refine wp_if_ne (pc' := 33) rfl rfl (fun c22 => ?_) (fun c22 => ?_)
    · replace k := it_f (c := w21 = (nI 0)) c22 k
      refine wl_ald_n (pc' := 36) rfl e19 rfl ?_
      refine wp_get (v := .ref 26) (pc' := 39) rfl (hq_25 _) rfl rfl ?_
      refine wp_p (pc' := 40) (lv' := lv16) (st' := [.int (nI 3), .ref 26]) rfl rfl ?_
      refine wl_cv (As := [.ref 26, .int (nI 3)]) (r := []) (pc' := 43) rfl rfl rfl k ?_
      rintro _ m23 ⟨w24, rfl, k⟩
      show sm_wp (d + 1) 99 43 lv16 [.int w24] (hp m23) (WQ K)
      refine wp_if_ne (pc' := 46) rfl rfl (fun c25 => ?_) (fun c25 => ?_)
      · replace k := it_f (c := w24 = (nI 0)) c25 k
        refine wl_ald_n (pc' := 49) rfl e19 rfl ?_
        refine wp_get (v := .ref 17) (pc' := 52) rfl (hq_25 _) rfl rfl ?_
        refine wp_p (pc' := 53) (lv' := lv16) (st' := [.int (nI 3), .ref 17]) rfl rfl ?_
        refine wl_ald_n (pc' := 54) rfl e19 rfl ?_
        refine wp_get (v := .ref 26) (pc' := 57) rfl (hq_25 _) rfl rfl ?_
        refine wl_cv (As := [.ref 26]) (r := [.int (nI 3), .ref 17]) (pc' := 60) rfl rfl rfl k ?_
        rintro _ m26 ⟨w27, rfl, k⟩
        show sm_wp (d + 1) 99 60 lv16 [.int w27, .int (nI 3), .ref 17] (hp m26) (WQ K)
        refine wl_ild_n (pc' := 61) rfl e17 rfl ?_
        refine wl_cv (As := [.ref 17, .int (nI 3), .int w27, .int w15]) (r := []) (pc' := 64) rfl rfl rfl k ?_
        rintro _ m28 ⟨rfl, k⟩
        show sm_wp (d + 1) 99 64 lv16 [] (hp m28) (WQ K)
        refine wp_p (pc' := 65) (lv' := lv16) (st' := [.int (nI 1)]) rfl rfl ?_
        exact wl_ret rfl rfl ⟨_, rfl, k⟩
      · replace k := it_t (c := w24 = (nI 0)) c25 k
        refine wp_p (pc' := 47) (lv' := lv16) (st' := [.int (nI 0)]) rfl rfl ?_
        exact wl_ret rfl rfl ⟨_, rfl, k⟩
    · replace k := it_t (c := w21 = (nI 0)) c22 k
      refine wp_p (pc' := 34) (lv' := lv16) (st' := [.int (nI 0)]) rfl rfl ?_
      exact wl_ret rfl rfl ⟨_, rfl, k⟩
/-! 100: QueryTables$Parser.condition -/
set_option maxRecDepth 20000 in
theorem sp_100 {d : Nat} {m : Mm} {K : Option Value → Mm → Prop} (x1 : Int32) (k : WP d 101 [.ref 25, .int x1] m (fun v m6 => ∃ w7, v = some (.int w7) ∧ (if w7 = (nI 0) then K (some (.int (nI 0))) m6 else WH (d + 1) 100 23 [(0, .ref 25), (1, .int x1), (2, .int (m.F 17 5)), (3, .int (nI 1)), (4, .int (nI 0))] [] m6 K))) : WP (d + 1) 100 [.ref 25, .int x1] m K := by
  have e_0 : sm_lk (lv_args 0 [.ref 25, .int x1]) 0 = some (.ref 25) := rfl
  have e_1 : sm_lk (lv_args 0 [.ref 25, .int x1]) 1 = some (.int x1) := rfl
  show sm_wp (d + 1) 100 0 (lv_args 0 [.ref 25, .int x1]) [] (hp m) (WQ K)
  generalize lv_args 0 [.ref 25, .int x1] = lv0 at *
  refine wl_ald_n (pc' := 1) rfl e_0 rfl ?_
  refine wp_get (v := .ref 17) (pc' := 4) rfl (hq_25 _) rfl rfl ?_
  refine wp_get (v := .int (m.F 17 5)) (pc' := 7) rfl (hq_17 _) rfl rfl ?_
  refine wl_st1 (pc' := 8) (k0 := 2) (v := .int (m.F 17 5)) (r := []) rfl rfl (fun lv1 e2 f3 => ?_)
  have e4 := f3 0 _ e_0 (by decide) rfl
  have e5 := f3 1 _ e_1 (by decide) rfl
  refine wl_ald_n (pc' := 9) rfl e4 rfl ?_
  refine wl_ild_n (pc' := 10) rfl e5 rfl ?_
  refine wl_cv (As := [.ref 25, .int x1]) (r := []) (pc' := 13) rfl rfl rfl k ?_
  rintro _ m6 ⟨w7, rfl, k⟩
  show sm_wp (d + 1) 100 13 lv1 [.int w7] (hp m6) (WQ K)
  refine wp_if_ne (pc' := 16) rfl rfl (fun c8 => ?_) (fun c8 => ?_)
  · replace k := it_f (c := w7 = (nI 0)) c8 k
    refine wp_p (pc' := 19) (lv' := lv1) (st' := [.int (nI 1)]) rfl rfl ?_
    refine wl_st1 (pc' := 20) (k0 := 3) (v := .int (nI 1)) (r := []) rfl rfl (fun lv9 e10 f11 => ?_)
    have e12 := f11 0 _ e4 (by decide) rfl
    have e13 := f11 1 _ e5 (by decide) rfl
    have e14 := f11 2 _ e2 (by decide) rfl
    refine wp_p (pc' := 21) (lv' := lv9) (st' := [.int (nI 0)]) rfl rfl ?_
    refine wl_st1 (pc' := 23) (k0 := 4) (v := .int (nI 0)) (r := []) rfl rfl (fun lv15 e16 f17 => ?_)
    have e18 := f17 0 _ e12 (by decide) rfl
    have e19 := f17 1 _ e13 (by decide) rfl
    have e20 := f17 2 _ e14 (by decide) rfl
    have e21 := f17 3 _ e10 (by decide) rfl
    exact k _ ⟨e18, e19, e20, e21, e16, trivial⟩
  · replace k := it_t (c := w7 = (nI 0)) c8 k
    refine wp_p (pc' := 17) (lv' := lv1) (st' := [.int (nI 0)]) rfl rfl ?_
    exact wl_ret rfl rfl ⟨_, rfl, k⟩
set_option maxRecDepth 20000 in
theorem sg_100_23 {d : Nat} {m : Mm} {K : Option Value → Mm → Prop} (x1 : Int32) (x2 : Int32) (x3 : Int32) (x4 : Int32) (k : (if (nI 80) ≤ x4 then (if x1 = (nI 0) then (if x3 = (nI 0) then WP d 64 [.ref 12, .int x2, .int (m.F 17 5)] m (fun v m4 => v = none ∧ K (some (.int (nI 1))) m4) else K (some (.int (nI 1))) m) else K (some (.int (nI 1))) m) else WP d 71 [.ref 26, .int (nI 16)] m (fun v m5 => ∃ w6, v = some (.int w6) ∧ (if w6 = (nI 0) then (if x1 = (nI 0) then (if x3 = (nI 0) then WP d 64 [.ref 12, .int x2, .int (m5.F 17 5)] m5 (fun v m10 => v = none ∧ K (some (.int (nI 1))) m10) else K (some (.int (nI 1))) m5) else K (some (.int (nI 1))) m5) else WP d 101 [.ref 25, .int x1] m5 (fun v m11 => ∃ w12, v = some (.int w12) ∧ (if w12 = (nI 0) then K (some (.int (nI 0))) m11 else WP d 46 [.ref 17, .int (nI 16)] m11 (fun v m14 => v = none ∧ WH (d + 1) 100 23 [(0, .ref 25), (1, .int x1), (2, .int x2), (3, .int (nI 0)), (4, .int (x4 + nI 1))] [] m14 K))))))) : WH (d + 1) 100 23 [(0, .ref 25), (1, .int x1), (2, .int x2), (3, .int x3), (4, .int x4)] [] m K := by
  intro lv0 el
  obtain ⟨e_0, e_1, e_2, e_3, e_4, _⟩ := el
  refine wl_ild (pc' := 25) rfl e_4 rfl ?_
  refine wp_p (pc' := 27) (lv' := lv0) (st' := [.int (nI 80), .int x4]) rfl rfl ?_
  refine wp_ic_ge (pc' := 30) rfl rfl (fun c1 => ?_) (fun c1 => ?_)
  · replace k := it_t (c := (nI 80) ≤ x4) c1 k
    refine wl_ild_n (pc' := 70) rfl e_1 rfl ?_
    refine wp_if_ne (pc' := 73) rfl rfl (fun c2 => ?_) (fun c2 => ?_)
    · replace k := it_f (c := x1 = (nI 0)) c2 k
      refine wp_p (pc' := 93) (lv' := lv0) (st' := [.int (nI 1)]) rfl rfl ?_
      exact wl_ret rfl rfl ⟨_, rfl, k⟩
    · replace k := it_t (c := x1 = (nI 0)) c2 k
      refine wl_ild_n (pc' := 74) rfl e_3 rfl ?_
      refine wp_if_ne (pc' := 77) rfl rfl (fun c3 => ?_) (fun c3 => ?_)
      · replace k := it_f (c := x3 = (nI 0)) c3 k
        refine wp_p (pc' := 93) (lv' := lv0) (st' := [.int (nI 1)]) rfl rfl ?_
        exact wl_ret rfl rfl ⟨_, rfl, k⟩
      · replace k := it_t (c := x3 = (nI 0)) c3 k
        refine wl_ald_n (pc' := 78) rfl e_0 rfl ?_
        refine wp_get (v := .ref 12) (pc' := 81) rfl (hq_25 _) rfl rfl ?_
        refine wl_ild_n (pc' := 82) rfl e_2 rfl ?_
        refine wl_ald_n (pc' := 83) rfl e_0 rfl ?_
        refine wp_get (v := .ref 17) (pc' := 86) rfl (hq_25 _) rfl rfl ?_
        refine wp_get (v := .int (m.F 17 5)) (pc' := 89) rfl (hq_17 _) rfl rfl ?_
        refine wl_cv (As := [.ref 12, .int x2, .int (m.F 17 5)]) (r := []) (pc' := 92) rfl rfl rfl k ?_
        rintro _ m4 ⟨rfl, k⟩
        show sm_wp (d + 1) 100 92 lv0 [] (hp m4) (WQ K)
        refine wp_p (pc' := 93) (lv' := lv0) (st' := [.int (nI 1)]) rfl rfl ?_
        exact wl_ret rfl rfl ⟨_, rfl, k⟩
  · replace k := it_f (c := (nI 80) ≤ x4) c1 k
    refine wl_ald_n (pc' := 31) rfl e_0 rfl ?_
    refine wp_get (v := .ref 26) (pc' := 34) rfl (hq_25 _) rfl rfl ?_
    refine wp_p (pc' := 36) (lv' := lv0) (st' := [.int (nI 16), .ref 26]) rfl rfl ?_
    refine wl_cv (As := [.ref 26, .int (nI 16)]) (r := []) (pc' := 39) rfl rfl rfl k ?_
    rintro _ m5 ⟨w6, rfl, k⟩
    show sm_wp (d + 1) 100 39 lv0 [.int w6] (hp m5) (WQ K)
    refine wp_if_eq (pc' := 42) rfl rfl (fun c7 => ?_) (fun c7 => ?_)
    · replace k := it_t (c := w6 = (nI 0)) c7 k
      refine wl_ild_n (pc' := 70) rfl e_1 rfl ?_
      refine wp_if_ne (pc' := 73) rfl rfl (fun c8 => ?_) (fun c8 => ?_)
      · replace k := it_f (c := x1 = (nI 0)) c8 k
        refine wp_p (pc' := 93) (lv' := lv0) (st' := [.int (nI 1)]) rfl rfl ?_
        exact wl_ret rfl rfl ⟨_, rfl, k⟩
      · replace k := it_t (c := x1 = (nI 0)) c8 k
        refine wl_ild_n (pc' := 74) rfl e_3 rfl ?_
        refine wp_if_ne (pc' := 77) rfl rfl (fun c9 => ?_) (fun c9 => ?_)
        · replace k := it_f (c := x3 = (nI 0)) c9 k
          refine wp_p (pc' := 93) (lv' := lv0) (st' := [.int (nI 1)]) rfl rfl ?_
          exact wl_ret rfl rfl ⟨_, rfl, k⟩
        · replace k := it_t (c := x3 = (nI 0)) c9 k
          refine wl_ald_n (pc' := 78) rfl e_0 rfl ?_
          refine wp_get (v := .ref 12) (pc' := 81) rfl (hq_25 _) rfl rfl ?_
          refine wl_ild_n (pc' := 82) rfl e_2 rfl ?_
          refine wl_ald_n (pc' := 83) rfl e_0 rfl ?_
          refine wp_get (v := .ref 17) (pc' := 86) rfl (hq_25 _) rfl rfl ?_
          refine wp_get (v := .int (m5.F 17 5)) (pc' := 89) rfl (hq_17 _) rfl rfl ?_
          refine wl_cv (As := [.ref 12, .int x2, .int (m5.F 17 5)]) (r := []) (pc' := 92) rfl rfl rfl k ?_
          rintro _ m10 ⟨rfl, k⟩
          show sm_wp (d + 1) 100 92 lv0 [] (hp m10) (WQ K)
          refine wp_p (pc' := 93) (lv' := lv0) (st' := [.int (nI 1)]) rfl rfl ?_
          exact wl_ret rfl rfl ⟨_, rfl, k⟩
    · replace k := it_f (c := w6 = (nI 0)) c7 k
      refine wl_ald_n (pc' := 43) rfl e_0 rfl ?_
      refine wl_ild_n (pc' := 44) rfl e_1 rfl ?_
      refine wl_cv (As := [.ref 25, .int x1]) (r := []) (pc' := 47) rfl rfl rfl k ?_
      rintro _ m11 ⟨w12, rfl, k⟩
      show sm_wp (d + 1) 100 47 lv0 [.int w12] (hp m11) (WQ K)
      refine wp_if_ne (pc' := 50) rfl rfl (fun c13 => ?_) (fun c13 => ?_)
      · replace k := it_f (c := w12 = (nI 0)) c13 k
        refine wl_ald_n (pc' := 53) rfl e_0 rfl ?_
        refine wp_get (v := .ref 17) (pc' := 56) rfl (hq_25 _) rfl rfl ?_
        refine wp_p (pc' := 58) (lv' := lv0) (st' := [.int (nI 16), .ref 17]) rfl rfl ?_
        refine wl_cv (As := [.ref 17, .int (nI 16)]) (r := []) (pc' := 61) rfl rfl rfl k ?_
        rintro _ m14 ⟨rfl, k⟩
        show sm_wp (d + 1) 100 61 lv0 [] (hp m14) (WQ K)
        refine wp_p (pc' := 62) (lv' := lv0) (st' := [.int (nI 0)]) rfl rfl ?_
        refine wl_st1 (pc' := 63) (k0 := 3) (v := .int (nI 0)) (r := []) rfl rfl (fun lv15 e16 f17 => ?_)
        have e18 := f17 0 _ e_0 (by decide) rfl
        have e19 := f17 1 _ e_1 (by decide) rfl
        have e20 := f17 2 _ e_2 (by decide) rfl
        have e21 := f17 4 _ e_4 (by decide) rfl
        refine wl_iinc (pc' := 66) (v := x4 + nI 1) rfl e21 rfl rfl rfl (fun lv22 e23 f24 => ?_)
        have e25 := f24 0 _ e18 (by decide) rfl
        have e26 := f24 1 _ e19 (by decide) rfl
        have e27 := f24 2 _ e20 (by decide) rfl
        have e28 := f24 3 _ e16 (by decide) rfl
        refine wp_p (pc' := 23) (lv' := lv22) (st' := []) rfl rfl ?_
        exact k _ ⟨e25, e26, e27, e28, e23, trivial⟩
      · replace k := it_t (c := w12 = (nI 0)) c13 k
        refine wp_p (pc' := 51) (lv' := lv0) (st' := [.int (nI 0)]) rfl rfl ?_
        exact wl_ret rfl rfl ⟨_, rfl, k⟩
/-! 101: QueryTables$Parser.conjunction -/
set_option maxRecDepth 20000 in
theorem sp_101 {d : Nat} {m : Mm} {K : Option Value → Mm → Prop} (x1 : Int32) (k : WP d 102 [.ref 25, .int x1] m (fun v m1 => ∃ w2, v = some (.int w2) ∧ (if w2 = (nI 0) then K (some (.int (nI 0))) m1 else WH (d + 1) 101 12 [(0, .ref 25), (1, .int x1), (2, .int (nI 0))] [] m1 K))) : WP (d + 1) 101 [.ref 25, .int x1] m K := by
  have e_0 : sm_lk (lv_args 0 [.ref 25, .int x1]) 0 = some (.ref 25) := rfl
  have e_1 : sm_lk (lv_args 0 [.ref 25, .int x1]) 1 = some (.int x1) := rfl
  show sm_wp (d + 1) 101 0 (lv_args 0 [.ref 25, .int x1]) [] (hp m) (WQ K)
  generalize lv_args 0 [.ref 25, .int x1] = lv0 at *
  refine wl_ald_n (pc' := 1) rfl e_0 rfl ?_
  refine wl_ild_n (pc' := 2) rfl e_1 rfl ?_
  refine wl_cv (As := [.ref 25, .int x1]) (r := []) (pc' := 5) rfl rfl rfl k ?_
  rintro _ m1 ⟨w2, rfl, k⟩
  show sm_wp (d + 1) 101 5 lv0 [.int w2] (hp m1) (WQ K)
  refine wp_if_ne (pc' := 8) rfl rfl (fun c3 => ?_) (fun c3 => ?_)
  · replace k := it_f (c := w2 = (nI 0)) c3 k
    refine wp_p (pc' := 11) (lv' := lv0) (st' := [.int (nI 0)]) rfl rfl ?_
    refine wl_st1 (pc' := 12) (k0 := 2) (v := .int (nI 0)) (r := []) rfl rfl (fun lv4 e5 f6 => ?_)
    have e7 := f6 0 _ e_0 (by decide) rfl
    have e8 := f6 1 _ e_1 (by decide) rfl
    exact k _ ⟨e7, e8, e5, trivial⟩
  · replace k := it_t (c := w2 = (nI 0)) c3 k
    refine wp_p (pc' := 9) (lv' := lv0) (st' := [.int (nI 0)]) rfl rfl ?_
    exact wl_ret rfl rfl ⟨_, rfl, k⟩
set_option maxRecDepth 20000 in
theorem sg_101_12 {d : Nat} {m : Mm} {K : Option Value → Mm → Prop} (x1 : Int32) (x2 : Int32) (k : (if (nI 80) ≤ x2 then K (some (.int (nI 1))) m else WP d 71 [.ref 26, .int (nI 17)] m (fun v m2 => ∃ w3, v = some (.int w3) ∧ (if w3 = (nI 0) then K (some (.int (nI 1))) m2 else WP d 102 [.ref 25, .int x1] m2 (fun v m5 => ∃ w6, v = some (.int w6) ∧ (if w6 = (nI 0) then K (some (.int (nI 0))) m5 else WP d 46 [.ref 17, .int (nI 17)] m5 (fun v m8 => v = none ∧ WH (d + 1) 101 12 [(0, .ref 25), (1, .int x1), (2, .int (x2 + nI 1))] [] m8 K))))))) : WH (d + 1) 101 12 [(0, .ref 25), (1, .int x1), (2, .int x2)] [] m K := by
  intro lv0 el
  obtain ⟨e_0, e_1, e_2, _⟩ := el
  refine wl_ild_n (pc' := 13) rfl e_2 rfl ?_
  refine wp_p (pc' := 15) (lv' := lv0) (st' := [.int (nI 80), .int x2]) rfl rfl ?_
  refine wp_ic_ge (pc' := 18) rfl rfl (fun c1 => ?_) (fun c1 => ?_)
  · replace k := it_t (c := (nI 80) ≤ x2) c1 k
    refine wp_p (pc' := 56) (lv' := lv0) (st' := [.int (nI 1)]) rfl rfl ?_
    exact wl_ret rfl rfl ⟨_, rfl, k⟩
  · replace k := it_f (c := (nI 80) ≤ x2) c1 k
    refine wl_ald_n (pc' := 19) rfl e_0 rfl ?_
    refine wp_get (v := .ref 26) (pc' := 22) rfl (hq_25 _) rfl rfl ?_
    refine wp_p (pc' := 24) (lv' := lv0) (st' := [.int (nI 17), .ref 26]) rfl rfl ?_
    refine wl_cv (As := [.ref 26, .int (nI 17)]) (r := []) (pc' := 27) rfl rfl rfl k ?_
    rintro _ m2 ⟨w3, rfl, k⟩
    show sm_wp (d + 1) 101 27 lv0 [.int w3] (hp m2) (WQ K)
    refine wp_if_eq (pc' := 30) rfl rfl (fun c4 => ?_) (fun c4 => ?_)
    · replace k := it_t (c := w3 = (nI 0)) c4 k
      refine wp_p (pc' := 56) (lv' := lv0) (st' := [.int (nI 1)]) rfl rfl ?_
      exact wl_ret rfl rfl ⟨_, rfl, k⟩
    · replace k := it_f (c := w3 = (nI 0)) c4 k
      refine wl_ald_n (pc' := 31) rfl e_0 rfl ?_
      refine wl_ild_n (pc' := 32) rfl e_1 rfl ?_
      refine wl_cv (As := [.ref 25, .int x1]) (r := []) (pc' := 35) rfl rfl rfl k ?_
      rintro _ m5 ⟨w6, rfl, k⟩
      show sm_wp (d + 1) 101 35 lv0 [.int w6] (hp m5) (WQ K)
      refine wp_if_ne (pc' := 38) rfl rfl (fun c7 => ?_) (fun c7 => ?_)
      · replace k := it_f (c := w6 = (nI 0)) c7 k
        refine wl_ald_n (pc' := 41) rfl e_0 rfl ?_
        refine wp_get (v := .ref 17) (pc' := 44) rfl (hq_25 _) rfl rfl ?_
        refine wp_p (pc' := 46) (lv' := lv0) (st' := [.int (nI 17), .ref 17]) rfl rfl ?_
        refine wl_cv (As := [.ref 17, .int (nI 17)]) (r := []) (pc' := 49) rfl rfl rfl k ?_
        rintro _ m8 ⟨rfl, k⟩
        show sm_wp (d + 1) 101 49 lv0 [] (hp m8) (WQ K)
        refine wl_iinc (pc' := 52) (v := x2 + nI 1) rfl e_2 rfl rfl rfl (fun lv9 e10 f11 => ?_)
        have e12 := f11 0 _ e_0 (by decide) rfl
        have e13 := f11 1 _ e_1 (by decide) rfl
        refine wp_p (pc' := 12) (lv' := lv9) (st' := []) rfl rfl ?_
        exact k _ ⟨e12, e13, e10, trivial⟩
      · replace k := it_t (c := w6 = (nI 0)) c7 k
        refine wp_p (pc' := 39) (lv' := lv0) (st' := [.int (nI 0)]) rfl rfl ?_
        exact wl_ret rfl rfl ⟨_, rfl, k⟩
/-! 102: QueryTables$Parser.part -/
set_option maxRecDepth 20000 in
theorem sp_102 {d : Nat} {m : Mm} {K : Option Value → Mm → Prop} (x1 : Int32) (k : WP d 103 [.ref 25, .int x1] m (fun v m6 => ∃ w7, v = some (.int w7) ∧ (if w7 = (nI 0) then K (some (.int (nI 0))) m6 else (if x1 = (nI 0) then WP d 63 [.ref 12, .int (m.F 17 5), .int (m6.F 25 3), .int (m6.F 17 5)] m6 (fun v m10 => v = none ∧ K (some (.int (nI 1))) m10) else K (some (.int (nI 1))) m6)))) : WP (d + 1) 102 [.ref 25, .int x1] m K := by
  have e_0 : sm_lk (lv_args 0 [.ref 25, .int x1]) 0 = some (.ref 25) := rfl
  have e_1 : sm_lk (lv_args 0 [.ref 25, .int x1]) 1 = some (.int x1) := rfl
  show sm_wp (d + 1) 102 0 (lv_args 0 [.ref 25, .int x1]) [] (hp m) (WQ K)
  generalize lv_args 0 [.ref 25, .int x1] = lv0 at *
  refine wl_ald_n (pc' := 1) rfl e_0 rfl ?_
  refine wp_get (v := .ref 17) (pc' := 4) rfl (hq_25 _) rfl rfl ?_
  refine wp_get (v := .int (m.F 17 5)) (pc' := 7) rfl (hq_17 _) rfl rfl ?_
  refine wl_st1 (pc' := 8) (k0 := 2) (v := .int (m.F 17 5)) (r := []) rfl rfl (fun lv1 e2 f3 => ?_)
  have e4 := f3 0 _ e_0 (by decide) rfl
  have e5 := f3 1 _ e_1 (by decide) rfl
  refine wl_ald_n (pc' := 9) rfl e4 rfl ?_
  refine wl_ild_n (pc' := 10) rfl e5 rfl ?_
  refine wl_cv (As := [.ref 25, .int x1]) (r := []) (pc' := 13) rfl rfl rfl k ?_
  rintro _ m6 ⟨w7, rfl, k⟩
  show sm_wp (d + 1) 102 13 lv1 [.int w7] (hp m6) (WQ K)
  refine wp_if_ne (pc' := 16) rfl rfl (fun c8 => ?_) (fun c8 => ?_)
  · replace k := it_f (c := w7 = (nI 0)) c8 k
    refine wl_ild_n (pc' := 19) rfl e5 rfl ?_
    refine wp_if_ne (pc' := 22) rfl rfl (fun c9 => ?_) (fun c9 => ?_)
    · replace k := it_f (c := x1 = (nI 0)) c9 k
      refine wp_p (pc' := 42) (lv' := lv1) (st' := [.int (nI 1)]) rfl rfl ?_
      exact wl_ret rfl rfl ⟨_, rfl, k⟩
    · replace k := it_t (c := x1 = (nI 0)) c9 k
      refine wl_ald_n (pc' := 23) rfl e4 rfl ?_
      refine wp_get (v := .ref 12) (pc' := 26) rfl (hq_25 _) rfl rfl ?_
      refine wl_ild_n (pc' := 27) rfl e2 rfl ?_
      refine wl_ald_n (pc' := 28) rfl e4 rfl ?_
      refine wp_get (v := .int (m6.F 25 3)) (pc' := 31) rfl (hq_25 _) rfl rfl ?_
      refine wl_ald_n (pc' := 32) rfl e4 rfl ?_
      refine wp_get (v := .ref 17) (pc' := 35) rfl (hq_25 _) rfl rfl ?_
      refine wp_get (v := .int (m6.F 17 5)) (pc' := 38) rfl (hq_17 _) rfl rfl ?_
      refine wl_cv (As := [.ref 12, .int (m.F 17 5), .int (m6.F 25 3), .int (m6.F 17 5)]) (r := []) (pc' := 41) rfl rfl rfl k ?_
      rintro _ m10 ⟨rfl, k⟩
      show sm_wp (d + 1) 102 41 lv1 [] (hp m10) (WQ K)
      refine wp_p (pc' := 42) (lv' := lv1) (st' := [.int (nI 1)]) rfl rfl ?_
      exact wl_ret rfl rfl ⟨_, rfl, k⟩
  · replace k := it_t (c := w7 = (nI 0)) c8 k
    refine wp_p (pc' := 17) (lv' := lv1) (st' := [.int (nI 0)]) rfl rfl ?_
    exact wl_ret rfl rfl ⟨_, rfl, k⟩
/-! 103: QueryTables$Parser.negatable -/
set_option maxRecDepth 20000 in
theorem sp_103 {d : Nat} {m : Mm} {K : Option Value → Mm → Prop} (x1 : Int32) (k : WP d 71 [.ref 26, .int (nI 91)] m (fun v m1 => ∃ w2, v = some (.int w2) ∧ (if w2 = (nI 0) then WP d 71 [.ref 26, .int (nI 18)] m1 (fun v m4 => ∃ w5, v = some (.int w5) ∧ (if w5 = (nI 0) then WP d 104 [.ref 25, .int x1] m4 (fun v m7 => ∃ w8, v = some (.int w8) ∧ isB w8 ∧ K (some (.int w8)) m7) else (if (nI 7) < x1 then K (some (.int (nI 0))) m4 else WP d 103 [.ref 25, .int (x1 + (nI 1))] m4 (fun v m11 => ∃ w12, v = some (.int w12) ∧ (if w12 = (nI 0) then K (some (.int (nI 0))) m11 else WP d 46 [.ref 17, .int (nI 18)] m11 (fun v m14 => v = none ∧ K (some (.int (nI 1))) (m14.uF 25 3 (-1)))))))) else (if (nI 7) < x1 then K (some (.int (nI 0))) (m1.uF 25 3 (-1)) else WP d 100 [.ref 25, .int (x1 + (nI 1))] m1 (fun v m21 => ∃ w22, v = some (.int w22) ∧ (if w22 = (nI 0) then K (some (.int (nI 0))) (m21.uF 25 3 (-1)) else WP d 71 [.ref 26, .int (nI 93)] m21 (fun v m29 => ∃ w30, v = some (.int w30) ∧ (if w30 = (nI 0) then K (some (.int (nI 0))) (m29.uF 25 3 (-1)) else K (some (.int (nI 1))) (m29.uF 25 3 (-1)))))))))) : WP (d + 1) 103 [.ref 25, .int x1] m K := by
  have e_0 : sm_lk (lv_args 0 [.ref 25, .int x1]) 0 = some (.ref 25) := rfl
  have e_1 : sm_lk (lv_args 0 [.ref 25, .int x1]) 1 = some (.int x1) := rfl
  show sm_wp (d + 1) 103 0 (lv_args 0 [.ref 25, .int x1]) [] (hp m) (WQ K)
  generalize lv_args 0 [.ref 25, .int x1] = lv0 at *
  refine wl_ald_n (pc' := 1) rfl e_0 rfl ?_
  refine wp_get (v := .ref 26) (pc' := 4) rfl (hq_25 _) rfl rfl ?_
  refine wp_p (pc' := 6) (lv' := lv0) (st' := [.int (nI 91), .ref 26]) rfl rfl ?_
  refine wl_cv (As := [.ref 26, .int (nI 91)]) (r := []) (pc' := 9) rfl rfl rfl k ?_
  rintro _ m1 ⟨w2, rfl, k⟩
  show sm_wp (d + 1) 103 9 lv0 [.int w2] (hp m1) (WQ K)
  refine wp_if_eq (pc' := 12) rfl rfl (fun c3 => ?_) (fun c3 => ?_)
  · replace k := it_t (c := w2 = (nI 0)) c3 k
    refine wl_ald_n (pc' := 54) rfl e_0 rfl ?_
    refine wp_get (v := .ref 26) (pc' := 57) rfl (hq_25 _) rfl rfl ?_
    refine wp_p (pc' := 59) (lv' := lv0) (st' := [.int (nI 18), .ref 26]) rfl rfl ?_
    refine wl_cv (As := [.ref 26, .int (nI 18)]) (r := []) (pc' := 62) rfl rfl rfl k ?_
    rintro _ m4 ⟨w5, rfl, k⟩
    show sm_wp (d + 1) 103 62 lv0 [.int w5] (hp m4) (WQ K)
    refine wp_if_eq (pc' := 65) rfl rfl (fun c6 => ?_) (fun c6 => ?_)
    · replace k := it_t (c := w5 = (nI 0)) c6 k
      refine wl_ald_n (pc' := 100) rfl e_0 rfl ?_
      refine wl_ild_n (pc' := 101) rfl e_1 rfl ?_
      refine wl_cv (As := [.ref 25, .int x1]) (r := []) (pc' := 104) rfl rfl rfl k ?_
      rintro _ m7 ⟨w8, rfl, k⟩
      show sm_wp (d + 1) 103 104 lv0 [.int w8] (hp m7) (WQ K)
      obtain ⟨k9, k⟩ := k
      exact wl_ret rfl k9 ⟨_, rfl, k⟩
    · replace k := it_f (c := w5 = (nI 0)) c6 k
      refine wl_ild_n (pc' := 66) rfl e_1 rfl ?_
      refine wp_p (pc' := 68) (lv' := lv0) (st' := [.int (nI 7), .int x1]) rfl rfl ?_
      refine wp_ic_gt (pc' := 71) rfl rfl (fun c10 => ?_) (fun c10 => ?_)
      · replace k := it_t (c := (nI 7) < x1) c10 k
        refine wp_p (pc' := 82) (lv' := lv0) (st' := [.int (nI 0)]) rfl rfl ?_
        exact wl_ret rfl rfl ⟨_, rfl, k⟩
      · replace k := it_f (c := (nI 7) < x1) c10 k
        refine wl_ald_n (pc' := 72) rfl e_0 rfl ?_
        refine wl_ild_n (pc' := 73) rfl e_1 rfl ?_
        refine wp_p (pc' := 74) (lv' := lv0) (st' := [.int (nI 1), .int x1, .ref 25]) rfl rfl ?_
        refine wp_iadd (v := x1 + (nI 1)) (pc' := 75) rfl rfl rfl ?_
        refine wl_cv (As := [.ref 25, .int (x1 + (nI 1))]) (r := []) (pc' := 78) rfl rfl rfl k ?_
        rintro _ m11 ⟨w12, rfl, k⟩
        show sm_wp (d + 1) 103 78 lv0 [.int w12] (hp m11) (WQ K)
        refine wp_if_ne (pc' := 81) rfl rfl (fun c13 => ?_) (fun c13 => ?_)
        · replace k := it_f (c := w12 = (nI 0)) c13 k
          refine wl_ald_n (pc' := 84) rfl e_0 rfl ?_
          refine wp_get (v := .ref 17) (pc' := 87) rfl (hq_25 _) rfl rfl ?_
          refine wp_p (pc' := 89) (lv' := lv0) (st' := [.int (nI 18), .ref 17]) rfl rfl ?_
          refine wl_cv (As := [.ref 17, .int (nI 18)]) (r := []) (pc' := 92) rfl rfl rfl k ?_
          rintro _ m14 ⟨rfl, k⟩
          show sm_wp (d + 1) 103 92 lv0 [] (hp m14) (WQ K)
          refine wl_ald_n (pc' := 93) rfl e_0 rfl ?_
          refine wp_p (pc' := 94) (lv' := lv0) (st' := [.int (-1), .ref 25]) rfl rfl ?_
          refine wl_put (pc' := 97) (h2 := hp (m14.uF 25 3 (-1))) rfl (hq_25 _) rfl rfl rfl (pf_25_3 _ _) ?_
          refine wp_p (pc' := 98) (lv' := lv0) (st' := [.int (nI 1)]) rfl rfl ?_
          exact wl_ret rfl rfl ⟨_, rfl, k⟩
        · replace k := it_t (c := w12 = (nI 0)) c13 k
          refine wp_p (pc' := 82) (lv' := lv0) (st' := [.int (nI 0)]) rfl rfl ?_
          exact wl_ret rfl rfl ⟨_, rfl, k⟩
  · replace k := it_f (c := w2 = (nI 0)) c3 k
    refine wl_ild_n (pc' := 13) rfl e_1 rfl ?_
    refine wp_p (pc' := 15) (lv' := lv0) (st' := [.int (nI 7), .int x1]) rfl rfl ?_
    refine wp_ic_gt (pc' := 18) rfl rfl (fun c15 => ?_) (fun c15 => ?_)
    · replace k := it_t (c := (nI 7) < x1) c15 k
      refine wp_p (pc' := 45) (lv' := lv0) (st' := [.int (nI 0)]) rfl rfl ?_
      refine wl_st1 (pc' := 46) (k0 := 2) (v := .int (nI 0)) (r := []) rfl rfl (fun lv16 e17 f18 => ?_)
      have e19 := f18 0 _ e_0 (by decide) rfl
      have e20 := f18 1 _ e_1 (by decide) rfl
      refine wl_ald_n (pc' := 47) rfl e19 rfl ?_
      refine wp_p (pc' := 48) (lv' := lv16) (st' := [.int (-1), .ref 25]) rfl rfl ?_
      refine wl_put (pc' := 51) (h2 := hp (m1.uF 25 3 (-1))) rfl (hq_25 _) rfl rfl rfl (pf_25_3 _ _) ?_
      refine wl_ild_n (pc' := 52) rfl e17 rfl ?_
      exact wl_ret rfl rfl ⟨_, rfl, k⟩
    · replace k := it_f (c := (nI 7) < x1) c15 k
      refine wl_ald_n (pc' := 19) rfl e_0 rfl ?_
      refine wl_ild_n (pc' := 20) rfl e_1 rfl ?_
      refine wp_p (pc' := 21) (lv' := lv0) (st' := [.int (nI 1), .int x1, .ref 25]) rfl rfl ?_
      refine wp_iadd (v := x1 + (nI 1)) (pc' := 22) rfl rfl rfl ?_
      refine wl_cv (As := [.ref 25, .int (x1 + (nI 1))]) (r := []) (pc' := 25) rfl rfl rfl k ?_
      rintro _ m21 ⟨w22, rfl, k⟩
      show sm_wp (d + 1) 103 25 lv0 [.int w22] (hp m21) (WQ K)
      refine wp_if_eq (pc' := 28) rfl rfl (fun c23 => ?_) (fun c23 => ?_)
      · replace k := it_t (c := w22 = (nI 0)) c23 k
        refine wp_p (pc' := 45) (lv' := lv0) (st' := [.int (nI 0)]) rfl rfl ?_
        refine wl_st1 (pc' := 46) (k0 := 2) (v := .int (nI 0)) (r := []) rfl rfl (fun lv24 e25 f26 => ?_)
        have e27 := f26 0 _ e_0 (by decide) rfl
        have e28 := f26 1 _ e_1 (by decide) rfl
        refine wl_ald_n (pc' := 47) rfl e27 rfl ?_
        refine wp_p (pc' := 48) (lv' := lv24) (st' := [.int (-1), .ref 25]) rfl rfl ?_
        refine wl_put (pc' := 51) (h2 := hp (m21.uF 25 3 (-1))) rfl (hq_25 _) rfl rfl rfl (pf_25_3 _ _) ?_
        refine wl_ild_n (pc' := 52) rfl e25 rfl ?_
        exact wl_ret rfl rfl ⟨_, rfl, k⟩
      · replace k := it_f (c := w22 = (nI 0)) c23 k
        refine wl_ald_n (pc' := 29) rfl e_0 rfl ?_
        refine wp_get (v := .ref 26) (pc' := 32) rfl (hq_25 _) rfl rfl ?_
        refine wp_p (pc' := 34) (lv' := lv0) (st' := [.int (nI 93), .ref 26]) rfl rfl ?_
        refine wl_cv (As := [.ref 26, .int (nI 93)]) (r := []) (pc' := 37) rfl rfl rfl k ?_
        rintro _ m29 ⟨w30, rfl, k⟩
        show sm_wp (d + 1) 103 37 lv0 [.int w30] (hp m29) (WQ K)
        refine wp_if_eq (pc' := 40) rfl rfl (fun c31 => ?_) (fun c31 => ?_)
        · replace k := it_t (c := w30 = (nI 0)) c31 k
          refine wp_p (pc' := 45) (lv' := lv0) (st' := [.int (nI 0)]) rfl rfl ?_
          refine wl_st1 (pc' := 46) (k0 := 2) (v := .int (nI 0)) (r := []) rfl rfl (fun lv32 e33 f34 => ?_)
          have e35 := f34 0 _ e_0 (by decide) rfl
          have e36 := f34 1 _ e_1 (by decide) rfl
          refine wl_ald_n (pc' := 47) rfl e35 rfl ?_
          refine wp_p (pc' := 48) (lv' := lv32) (st' := [.int (-1), .ref 25]) rfl rfl ?_
          refine wl_put (pc' := 51) (h2 := hp (m29.uF 25 3 (-1))) rfl (hq_25 _) rfl rfl rfl (pf_25_3 _ _) ?_
          refine wl_ild_n (pc' := 52) rfl e33 rfl ?_
          exact wl_ret rfl rfl ⟨_, rfl, k⟩
        · replace k := it_f (c := w30 = (nI 0)) c31 k
          refine wp_p (pc' := 41) (lv' := lv0) (st' := [.int (nI 1)]) rfl rfl ?_
          refine wp_p (pc' := 45) (lv' := lv0) (st' := [.int (nI 1)]) rfl rfl ?_
          refine wl_st1 (pc' := 46) (k0 := 2) (v := .int (nI 1)) (r := []) rfl rfl (fun lv37 e38 f39 => ?_)
          have e40 := f39 0 _ e_0 (by decide) rfl
          have e41 := f39 1 _ e_1 (by decide) rfl
          refine wl_ald_n (pc' := 47) rfl e40 rfl ?_
          refine wp_p (pc' := 48) (lv' := lv37) (st' := [.int (-1), .ref 25]) rfl rfl ?_
          refine wl_put (pc' := 51) (h2 := hp (m29.uF 25 3 (-1))) rfl (hq_25 _) rfl rfl rfl (pf_25_3 _ _) ?_
          refine wl_ild_n (pc' := 52) rfl e38 rfl ?_
          exact wl_ret rfl rfl ⟨_, rfl, k⟩
/-! 104: QueryTables$Parser.comparison -/
set_option maxRecDepth 20000 in
theorem sp_104 {d : Nat} {m : Mm} {K : Option Value → Mm → Prop} (x1 : Int32) (k : WP d 96 [.ref 25, .int x1] (m.uF 25 3 (-1)) (fun v m1 => ∃ w2, v = some (.int w2) ∧ (if w2 = (nI 0) then K (some (.int (nI 0))) m1 else WP d 71 [.ref 26, .int (nI 15)] m1 (fun v m4 => ∃ w5, v = some (.int w5) ∧ (if w5 = (nI 0) then WP d 70 [.ref 26] m4 (fun v m7 => ∃ w8, v = some (.int w8) ∧ WP d 71 [.ref 26, .int (nI 61)] m7 (fun v m20 => ∃ w21, v = some (.int w21) ∧ (if w21 = (nI 0) then WP d 71 [.ref 26, .int (nI 60)] m20 (fun v m28 => ∃ w29, v = some (.int w29) ∧ (if w29 = (nI 0) then WP d 71 [.ref 26, .int (nI 62)] m28 (fun v m36 => ∃ w37, v = some (.int w37) ∧ (if w37 = (nI 0) then K (some (.int (nI 0))) m36 else WP d 96 [.ref 25, .int x1] m36 (fun v m39 => ∃ w40, v = some (.int w40) ∧ (if w40 = (nI 0) then K (some (.int (nI 0))) m39 else WP d 46 [.ref 17, .int w8] m39 (fun v m42 => v = none ∧ (if w8 = (nI 61) then K (some (.int (nI 1))) (m42.uF 25 3 (m7.F 17 5)) else K (some (.int (nI 1))) m42)))))) else WP d 96 [.ref 25, .int x1] m28 (fun v m31 => ∃ w32, v = some (.int w32) ∧ (if w32 = (nI 0) then K (some (.int (nI 0))) m31 else WP d 46 [.ref 17, .int w8] m31 (fun v m34 => v = none ∧ (if w8 = (nI 61) then K (some (.int (nI 1))) (m34.uF 25 3 (m7.F 17 5)) else K (some (.int (nI 1))) m34)))))) else WP d 96 [.ref 25, .int x1] m20 (fun v m23 => ∃ w24, v = some (.int w24) ∧ (if w24 = (nI 0) then K (some (.int (nI 0))) m23 else WP d 46 [.ref 17, .int w8] m23 (fun v m26 => v = none ∧ (if w8 = (nI 61) then K (some (.int (nI 1))) (m26.uF 25 3 (m7.F 17 5)) else K (some (.int (nI 1))) m26))))))) else WP d 46 [.ref 17, .int (nI 31)] m4 (fun v m44 => v = none ∧ K (some (.int (nI 1))) m44)))))) : WP (d + 1) 104 [.ref 25, .int x1] m K := by
  have e_0 : sm_lk (lv_args 0 [.ref 25, .int x1]) 0 = some (.ref 25) := rfl
  have e_1 : sm_lk (lv_args 0 [.ref 25, .int x1]) 1 = some (.int x1) := rfl
  show sm_wp (d + 1) 104 0 (lv_args 0 [.ref 25, .int x1]) [] (hp m) (WQ K)
  generalize lv_args 0 [.ref 25, .int x1] = lv0 at *
  refine wl_ald_n (pc' := 1) rfl e_0 rfl ?_
  refine wp_p (pc' := 2) (lv' := lv0) (st' := [.int (-1), .ref 25]) rfl rfl ?_
  refine wl_put (pc' := 5) (h2 := hp (m.uF 25 3 (-1))) rfl (hq_25 _) rfl rfl rfl (pf_25_3 _ _) ?_
  refine wl_ald_n (pc' := 6) rfl e_0 rfl ?_
  refine wl_ild_n (pc' := 7) rfl e_1 rfl ?_
  refine wl_cv (As := [.ref 25, .int x1]) (r := []) (pc' := 10) rfl rfl rfl k ?_
  rintro _ m1 ⟨w2, rfl, k⟩
  show sm_wp (d + 1) 104 10 lv0 [.int w2] (hp m1) (WQ K)
  refine wp_if_ne (pc' := 13) rfl rfl (fun c3 => ?_) (fun c3 => ?_)
  · replace k := it_f (c := w2 = (nI 0)) c3 k
    refine wl_ald_n (pc' := 16) rfl e_0 rfl ?_
    refine wp_get (v := .ref 26) (pc' := 19) rfl (hq_25 _) rfl rfl ?_
    refine wp_p (pc' := 21) (lv' := lv0) (st' := [.int (nI 15), .ref 26]) rfl rfl ?_
    refine wl_cv (As := [.ref 26, .int (nI 15)]) (r := []) (pc' := 24) rfl rfl rfl k ?_
    rintro _ m4 ⟨w5, rfl, k⟩
    show sm_wp (d + 1) 104 24 lv0 [.int w5] (hp m4) (WQ K)
    refine wp_if_eq (pc' := 27) rfl rfl (fun c6 => ?_) (fun c6 => ?_)
    · replace k := it_t (c := w5 = (nI 0)) c6 k
      refine wl_ald_n (pc' := 39) rfl e_0 rfl ?_
      refine wp_get (v := .ref 26) (pc' := 42) rfl (hq_25 _) rfl rfl ?_
      refine wl_cv (As := [.ref 26]) (r := []) (pc' := 45) rfl rfl rfl k ?_
      rintro _ m7 ⟨w8, rfl, k⟩
      show sm_wp (d + 1) 104 45 lv0 [.int w8] (hp m7) (WQ K)
      refine wl_st1 (pc' := 46) (k0 := 2) (v := .int w8) (r := []) rfl rfl (fun lv9 e10 f11 => ?_)
      have e12 := f11 0 _ e_0 (by decide) rfl
      have e13 := f11 1 _ e_1 (by decide) rfl
      refine wl_ald_n (pc' := 47) rfl e12 rfl ?_
      refine wp_get (v := .ref 17) (pc' := 50) rfl (hq_25 _) rfl rfl ?_
      refine wp_get (v := .int (m7.F 17 5)) (pc' := 53) rfl (hq_17 _) rfl rfl ?_
      refine wl_st1 (pc' := 54) (k0 := 3) (v := .int (m7.F 17 5)) (r := []) rfl rfl (fun lv14 e15 f16 => ?_)
      have e17 := f16 0 _ e12 (by decide) rfl
      have e18 := f16 1 _ e13 (by decide) rfl
      have e19 := f16 2 _ e10 (by decide) rfl
      refine wl_ald_n (pc' := 55) rfl e17 rfl ?_
      refine wp_get (v := .ref 26) (pc' := 58) rfl (hq_25 _) rfl rfl ?_
      refine wp_p (pc' := 60) (lv' := lv14) (st' := [.int (nI 61), .ref 26]) rfl rfl ?_
      refine wl_cv (As := [.ref 26, .int (nI 61)]) (r := []) (pc' := 63) rfl rfl rfl k ?_
      rintro _ m20 ⟨w21, rfl, k⟩
      show sm_wp (d + 1) 104 63 lv14 [.int w21] (hp m20) (WQ K)
      refine wp_if_ne (pc' := 66) rfl rfl (fun c22 => ?_) (fun c22 => ?_)
      · replace k := it_f (c := w21 = (nI 0)) c22 k
        refine wl_ald_n (pc' := 91) rfl e17 rfl ?_
        refine wl_ild_n (pc' := 92) rfl e18 rfl ?_
        refine wl_cv (As := [.ref 25, .int x1]) (r := []) (pc' := 95) rfl rfl rfl k ?_
        rintro _ m23 ⟨w24, rfl, k⟩
        show sm_wp (d + 1) 104 95 lv14 [.int w24] (hp m23) (WQ K)
        refine wp_if_ne (pc' := 98) rfl rfl (fun c25 => ?_) (fun c25 => ?_)
        · replace k := it_f (c := w24 = (nI 0)) c25 k
          refine wl_ald_n (pc' := 101) rfl e17 rfl ?_
          refine wp_get (v := .ref 17) (pc' := 104) rfl (hq_25 _) rfl rfl ?_
          refine wl_ild_n (pc' := 105) rfl e19 rfl ?_
          refine wl_cv (As := [.ref 17, .int w8]) (r := []) (pc' := 108) rfl rfl rfl k ?_
          rintro _ m26 ⟨rfl, k⟩
          show sm_wp (d + 1) 104 108 lv14 [] (hp m26) (WQ K)
          refine wl_ild_n (pc' := 109) rfl e19 rfl ?_
          refine wp_p (pc' := 111) (lv' := lv14) (st' := [.int (nI 61), .int w8]) rfl rfl ?_
          refine wp_ic_ne (pc' := 114) rfl rfl (fun c27 => ?_) (fun c27 => ?_)
          · replace k := it_f (c := w8 = (nI 61)) c27 k
            refine wp_p (pc' := 120) (lv' := lv14) (st' := [.int (nI 1)]) rfl rfl ?_
            exact wl_ret rfl rfl ⟨_, rfl, k⟩
          · replace k := it_t (c := w8 = (nI 61)) c27 k
            refine wl_ald_n (pc' := 115) rfl e17 rfl ?_
            refine wl_ild_n (pc' := 116) rfl e15 rfl ?_
            refine wl_put (pc' := 119) (h2 := hp (m26.uF 25 3 (m7.F 17 5))) rfl (hq_25 _) rfl rfl rfl (pf_25_3 _ _) ?_
            refine wp_p (pc' := 120) (lv' := lv14) (st' := [.int (nI 1)]) rfl rfl ?_
            exact wl_ret rfl rfl ⟨_, rfl, k⟩
        · replace k := it_t (c := w24 = (nI 0)) c25 k
          refine wp_p (pc' := 99) (lv' := lv14) (st' := [.int (nI 0)]) rfl rfl ?_
          exact wl_ret rfl rfl ⟨_, rfl, k⟩
      · replace k := it_t (c := w21 = (nI 0)) c22 k
        refine wl_ald_n (pc' := 67) rfl e17 rfl ?_
        refine wp_get (v := .ref 26) (pc' := 70) rfl (hq_25 _) rfl rfl ?_
        refine wp_p (pc' := 72) (lv' := lv14) (st' := [.int (nI 60), .ref 26]) rfl rfl ?_
        refine wl_cv (As := [.ref 26, .int (nI 60)]) (r := []) (pc' := 75) rfl rfl rfl k ?_
        rintro _ m28 ⟨w29, rfl, k⟩
        show sm_wp (d + 1) 104 75 lv14 [.int w29] (hp m28) (WQ K)
        refine wp_if_ne (pc' := 78) rfl rfl (fun c30 => ?_) (fun c30 => ?_)
        · replace k := it_f (c := w29 = (nI 0)) c30 k
          refine wl_ald_n (pc' := 91) rfl e17 rfl ?_
          refine wl_ild_n (pc' := 92) rfl e18 rfl ?_
          refine wl_cv (As := [.ref 25, .int x1]) (r := []) (pc' := 95) rfl rfl rfl k ?_
          rintro _ m31 ⟨w32, rfl, k⟩
          show sm_wp (d + 1) 104 95 lv14 [.int w32] (hp m31) (WQ K)
          refine wp_if_ne (pc' := 98) rfl rfl (fun c33 => ?_) (fun c33 => ?_)
          · replace k := it_f (c := w32 = (nI 0)) c33 k
            refine wl_ald_n (pc' := 101) rfl e17 rfl ?_
            refine wp_get (v := .ref 17) (pc' := 104) rfl (hq_25 _) rfl rfl ?_
            refine wl_ild_n (pc' := 105) rfl e19 rfl ?_
            refine wl_cv (As := [.ref 17, .int w8]) (r := []) (pc' := 108) rfl rfl rfl k ?_
            rintro _ m34 ⟨rfl, k⟩
            show sm_wp (d + 1) 104 108 lv14 [] (hp m34) (WQ K)
            refine wl_ild_n (pc' := 109) rfl e19 rfl ?_
            refine wp_p (pc' := 111) (lv' := lv14) (st' := [.int (nI 61), .int w8]) rfl rfl ?_
            refine wp_ic_ne (pc' := 114) rfl rfl (fun c35 => ?_) (fun c35 => ?_)
            · replace k := it_f (c := w8 = (nI 61)) c35 k
              refine wp_p (pc' := 120) (lv' := lv14) (st' := [.int (nI 1)]) rfl rfl ?_
              exact wl_ret rfl rfl ⟨_, rfl, k⟩
            · replace k := it_t (c := w8 = (nI 61)) c35 k
              refine wl_ald_n (pc' := 115) rfl e17 rfl ?_
              refine wl_ild_n (pc' := 116) rfl e15 rfl ?_
              refine wl_put (pc' := 119) (h2 := hp (m34.uF 25 3 (m7.F 17 5))) rfl (hq_25 _) rfl rfl rfl (pf_25_3 _ _) ?_
              refine wp_p (pc' := 120) (lv' := lv14) (st' := [.int (nI 1)]) rfl rfl ?_
              exact wl_ret rfl rfl ⟨_, rfl, k⟩
          · replace k := it_t (c := w32 = (nI 0)) c33 k
            refine wp_p (pc' := 99) (lv' := lv14) (st' := [.int (nI 0)]) rfl rfl ?_
            exact wl_ret rfl rfl ⟨_, rfl, k⟩
        · replace k := it_t (c := w29 = (nI 0)) c30 k
          refine wl_ald_n (pc' := 79) rfl e17 rfl ?_
          refine wp_get (v := .ref 26) (pc' := 82) rfl (hq_25 _) rfl rfl ?_
          refine wp_p (pc' := 84) (lv' := lv14) (st' := [.int (nI 62), .ref 26]) rfl rfl ?_
          refine wl_cv (As := [.ref 26, .int (nI 62)]) (r := []) (pc' := 87) rfl rfl rfl k ?_
          rintro _ m36 ⟨w37, rfl, k⟩
          show sm_wp (d + 1) 104 87 lv14 [.int w37] (hp m36) (WQ K)
          refine wp_if_eq (pc' := 90) rfl rfl (fun c38 => ?_) (fun c38 => ?_)
          · replace k := it_t (c := w37 = (nI 0)) c38 k
            refine wp_p (pc' := 99) (lv' := lv14) (st' := [.int (nI 0)]) rfl rfl ?_
            exact wl_ret rfl rfl ⟨_, rfl, k⟩
          · replace k := it_f (c := w37 = (nI 0)) c38 k
            refine wl_ald_n (pc' := 91) rfl e17 rfl ?_
            refine wl_ild_n (pc' := 92) rfl e18 rfl ?_
            refine wl_cv (As := [.ref 25, .int x1]) (r := []) (pc' := 95) rfl rfl rfl k ?_
            rintro _ m39 ⟨w40, rfl, k⟩
            show sm_wp (d + 1) 104 95 lv14 [.int w40] (hp m39) (WQ K)
            refine wp_if_ne (pc' := 98) rfl rfl (fun c41 => ?_) (fun c41 => ?_)
            · replace k := it_f (c := w40 = (nI 0)) c41 k
              refine wl_ald_n (pc' := 101) rfl e17 rfl ?_
              refine wp_get (v := .ref 17) (pc' := 104) rfl (hq_25 _) rfl rfl ?_
              refine wl_ild_n (pc' := 105) rfl e19 rfl ?_
              refine wl_cv (As := [.ref 17, .int w8]) (r := []) (pc' := 108) rfl rfl rfl k ?_
              rintro _ m42 ⟨rfl, k⟩
              show sm_wp (d + 1) 104 108 lv14 [] (hp m42) (WQ K)
              refine wl_ild_n (pc' := 109) rfl e19 rfl ?_
              refine wp_p (pc' := 111) (lv' := lv14) (st' := [.int (nI 61), .int w8]) rfl rfl ?_
              refine wp_ic_ne (pc' := 114) rfl rfl (fun c43 => ?_) (fun c43 => ?_)
              · replace k := it_f (c := w8 = (nI 61)) c43 k
                refine wp_p (pc' := 120) (lv' := lv14) (st' := [.int (nI 1)]) rfl rfl ?_
                exact wl_ret rfl rfl ⟨_, rfl, k⟩
              · replace k := it_t (c := w8 = (nI 61)) c43 k
                refine wl_ald_n (pc' := 115) rfl e17 rfl ?_
                refine wl_ild_n (pc' := 116) rfl e15 rfl ?_
                refine wl_put (pc' := 119) (h2 := hp (m42.uF 25 3 (m7.F 17 5))) rfl (hq_25 _) rfl rfl rfl (pf_25_3 _ _) ?_
                refine wp_p (pc' := 120) (lv' := lv14) (st' := [.int (nI 1)]) rfl rfl ?_
                exact wl_ret rfl rfl ⟨_, rfl, k⟩
            · replace k := it_t (c := w40 = (nI 0)) c41 k
              refine wp_p (pc' := 99) (lv' := lv14) (st' := [.int (nI 0)]) rfl rfl ?_
              exact wl_ret rfl rfl ⟨_, rfl, k⟩
    · replace k := it_f (c := w5 = (nI 0)) c6 k
      refine wl_ald_n (pc' := 28) rfl e_0 rfl ?_
      refine wp_get (v := .ref 17) (pc' := 31) rfl (hq_25 _) rfl rfl ?_
      refine wp_p (pc' := 33) (lv' := lv0) (st' := [.int (nI 31), .ref 17]) rfl rfl ?_
      refine wl_cv (As := [.ref 17, .int (nI 31)]) (r := []) (pc' := 36) rfl rfl rfl k ?_
      rintro _ m44 ⟨rfl, k⟩
      show sm_wp (d + 1) 104 36 lv0 [] (hp m44) (WQ K)
      refine wp_p (pc' := 37) (lv' := lv0) (st' := [.int (nI 1)]) rfl rfl ?_
      exact wl_ret rfl rfl ⟨_, rfl, k⟩
  · replace k := it_t (c := w2 = (nI 0)) c3 k
    refine wp_p (pc' := 14) (lv' := lv0) (st' := [.int (nI 0)]) rfl rfl ?_
    exact wl_ret rfl rfl ⟨_, rfl, k⟩
/-! 106: QueryTables$Checker.fault -/
set_option maxRecDepth 20000 in
theorem sp_106 {d : Nat} {m : Mm} {K : Option Value → Mm → Prop} (k : WP d 107 [.ref 29] m (fun v m1 => ∃ w2, v = some (.int w2) ∧ (if w2 = (nI 0) then K (some (.int (nI 2))) m1 else WP d 108 [.ref 29] m1 (fun v m4 => ∃ w5, v = some (.int w5) ∧ (if w5 = (nI 0) then K (some (.int (nI 2))) m4 else WP d 109 [.ref 29] m4 (fun v m7 => ∃ w8, v = some (.int w8) ∧ (if w8 = (nI 0) then K (some (.int (nI 2))) m7 else WP d 112 [.ref 29] m7 (fun v m10 => ∃ w11, v = some (.int w11) ∧ (if w11 = (nI 0) then K (some (.int (nI 3))) m10 else K (some (.int (nI 0))) m10))))))))) : WP (d + 1) 106 [.ref 29] m K := by
  have e_0 : sm_lk (lv_args 0 [.ref 29]) 0 = some (.ref 29) := rfl
  show sm_wp (d + 1) 106 0 (lv_args 0 [.ref 29]) [] (hp m) (WQ K)
  generalize lv_args 0 [.ref 29] = lv0 at *
  refine wl_ald_n (pc' := 1) rfl e_0 rfl ?_
  refine wl_cv (As := [.ref 29]) (r := []) (pc' := 4) rfl rfl rfl k ?_
  rintro _ m1 ⟨w2, rfl, k⟩
  show sm_wp (d + 1) 106 4 lv0 [.int w2] (hp m1) (WQ K)
  refine wp_if_eq (pc' := 7) rfl rfl (fun c3 => ?_) (fun c3 => ?_)
  · replace k := it_t (c := w2 = (nI 0)) c3 k
    refine wp_p (pc' := 22) (lv' := lv0) (st' := [.int (nI 2)]) rfl rfl ?_
    exact wl_ret rfl rfl ⟨_, rfl, k⟩
  · replace k := it_f (c := w2 = (nI 0)) c3 k
    refine wl_ald_n (pc' := 8) rfl e_0 rfl ?_
    refine wl_cv (As := [.ref 29]) (r := []) (pc' := 11) rfl rfl rfl k ?_
    rintro _ m4 ⟨w5, rfl, k⟩
    show sm_wp (d + 1) 106 11 lv0 [.int w5] (hp m4) (WQ K)
    refine wp_if_eq (pc' := 14) rfl rfl (fun c6 => ?_) (fun c6 => ?_)
    · replace k := it_t (c := w5 = (nI 0)) c6 k
      refine wp_p (pc' := 22) (lv' := lv0) (st' := [.int (nI 2)]) rfl rfl ?_
      exact wl_ret rfl rfl ⟨_, rfl, k⟩
    · replace k := it_f (c := w5 = (nI 0)) c6 k
      refine wl_ald_n (pc' := 15) rfl e_0 rfl ?_
      refine wl_cv (As := [.ref 29]) (r := []) (pc' := 18) rfl rfl rfl k ?_
      rintro _ m7 ⟨w8, rfl, k⟩
      show sm_wp (d + 1) 106 18 lv0 [.int w8] (hp m7) (WQ K)
      refine wp_if_ne (pc' := 21) rfl rfl (fun c9 => ?_) (fun c9 => ?_)
      · replace k := it_f (c := w8 = (nI 0)) c9 k
        refine wl_ald_n (pc' := 24) rfl e_0 rfl ?_
        refine wl_cv (As := [.ref 29]) (r := []) (pc' := 27) rfl rfl rfl k ?_
        rintro _ m10 ⟨w11, rfl, k⟩
        show sm_wp (d + 1) 106 27 lv0 [.int w11] (hp m10) (WQ K)
        refine wp_if_eq (pc' := 30) rfl rfl (fun c12 => ?_) (fun c12 => ?_)
        · replace k := it_t (c := w11 = (nI 0)) c12 k
          refine wp_p (pc' := 35) (lv' := lv0) (st' := [.int (nI 3)]) rfl rfl ?_
          exact wl_ret rfl rfl ⟨_, rfl, k⟩
        · replace k := it_f (c := w11 = (nI 0)) c12 k
          refine wp_p (pc' := 31) (lv' := lv0) (st' := [.int (nI 0)]) rfl rfl ?_
          refine wp_p (pc' := 35) (lv' := lv0) (st' := [.int (nI 0)]) rfl rfl ?_
          exact wl_ret rfl rfl ⟨_, rfl, k⟩
      · replace k := it_t (c := w8 = (nI 0)) c9 k
        refine wp_p (pc' := 22) (lv' := lv0) (st' := [.int (nI 2)]) rfl rfl ?_
        exact wl_ret rfl rfl ⟨_, rfl, k⟩
/-! 107: QueryTables$Checker.tablesFit -/
set_option maxRecDepth 20000 in
theorem sp_107 {d : Nat} {m : Mm} {K : Option Value → Mm → Prop} (k : ∃ r1, tb_of (m.F 12 5) r1 ∧ tbl r1 ∧ WP d 26 [.ref r1] m (fun v m4 => ∃ w5, v = some (.int w5) ∧ (if (m4.F 12 4) = (nI 4) then (if w5 = (nI 0) then K (some (.int (nI 1))) m4 else K (some (.int (nI 0))) m4) else (if (m4.F 12 6) = (-1) then isB w5 ∧ K (some (.int w5)) m4 else (if w5 = (nI 0) then K (some (.int (nI 0))) m4 else (if (m4.F 12 6) = (m4.F 12 5) then K (some (.int (nI 0))) m4 else ∃ r14, tb_of (m4.F 12 6) r14 ∧ tbl r14 ∧ WP d 26 [.ref r14] m4 (fun v m17 => ∃ w18, v = some (.int w18) ∧ (if w18 = (nI 0) then K (some (.int (nI 0))) m17 else K (some (.int (nI 1))) m17)))))))) : WP (d + 1) 107 [.ref 29] m K := by
  have e_0 : sm_lk (lv_args 0 [.ref 29]) 0 = some (.ref 29) := rfl
  show sm_wp (d + 1) 107 0 (lv_args 0 [.ref 29]) [] (hp m) (WQ K)
  generalize lv_args 0 [.ref 29] = lv0 at *
  refine wl_ald_n (pc' := 1) rfl e_0 rfl ?_
  refine wp_get (v := .ref 2) (pc' := 4) rfl (hq_29 _) rfl rfl ?_
  refine wl_ald_n (pc' := 5) rfl e_0 rfl ?_
  refine wp_get (v := .ref 12) (pc' := 8) rfl (hq_29 _) rfl rfl ?_
  refine wp_get (v := .int (m.F 12 5)) (pc' := 11) rfl (hq_12 _) rfl rfl ?_
  obtain ⟨r1, k2, k3, k⟩ := k
  refine wl_aaload (k0 := r1) (pc' := 12) rfl (hq_2 _) k2.1 k2.2 rfl ?_
  refine wl_cv (As := [.ref r1]) (r := []) (pc' := 15) rfl (sm_inv_tbl k3 _ rfl rfl rfl) rfl k ?_
  rintro _ m4 ⟨w5, rfl, k⟩
  show sm_wp (d + 1) 107 15 lv0 [.int w5] (hp m4) (WQ K)
  refine wl_st1 (pc' := 16) (k0 := 1) (v := .int w5) (r := []) rfl rfl (fun lv6 e7 f8 => ?_)
  have e9 := f8 0 _ e_0 (by decide) rfl
  refine wl_ald_n (pc' := 17) rfl e9 rfl ?_
  refine wp_get (v := .ref 12) (pc' := 20) rfl (hq_29 _) rfl rfl ?_
  refine wp_get (v := .int (m4.F 12 4)) (pc' := 23) rfl (hq_12 _) rfl rfl ?_
  refine wp_p (pc' := 24) (lv' := lv6) (st' := [.int (nI 4), .int (m4.F 12 4)]) rfl rfl ?_
  refine wp_ic_ne (pc' := 27) rfl rfl (fun c10 => ?_) (fun c10 => ?_)
  · replace k := it_f (c := (m4.F 12 4) = (nI 4)) c10 k
    refine wl_ald_n (pc' := 38) rfl e9 rfl ?_
    refine wp_get (v := .ref 12) (pc' := 41) rfl (hq_29 _) rfl rfl ?_
    refine wp_get (v := .int (m4.F 12 6)) (pc' := 44) rfl (hq_12 _) rfl rfl ?_
    refine wp_p (pc' := 45) (lv' := lv6) (st' := [.int (-1), .int (m4.F 12 6)]) rfl rfl ?_
    refine wp_ic_ne (pc' := 48) rfl rfl (fun c11 => ?_) (fun c11 => ?_)
    · replace k := it_f (c := (m4.F 12 6) = (-1)) c11 k
      refine wl_ild_n (pc' := 51) rfl e7 rfl ?_
      refine wp_if_eq (pc' := 54) rfl rfl (fun c12 => ?_) (fun c12 => ?_)
      · replace k := it_t (c := w5 = (nI 0)) c12 k
        refine wp_p (pc' := 94) (lv' := lv6) (st' := [.int (nI 0)]) rfl rfl ?_
        exact wl_ret rfl rfl ⟨_, rfl, k⟩
      · replace k := it_f (c := w5 = (nI 0)) c12 k
        refine wl_ald_n (pc' := 55) rfl e9 rfl ?_
        refine wp_get (v := .ref 12) (pc' := 58) rfl (hq_29 _) rfl rfl ?_
        refine wp_get (v := .int (m4.F 12 6)) (pc' := 61) rfl (hq_12 _) rfl rfl ?_
        refine wl_ald_n (pc' := 62) rfl e9 rfl ?_
        refine wp_get (v := .ref 12) (pc' := 65) rfl (hq_29 _) rfl rfl ?_
        refine wp_get (v := .int (m4.F 12 5)) (pc' := 68) rfl (hq_12 _) rfl rfl ?_
        refine wp_ic_eq (pc' := 71) rfl rfl (fun c13 => ?_) (fun c13 => ?_)
        · replace k := it_t (c := (m4.F 12 6) = (m4.F 12 5)) c13 k
          refine wp_p (pc' := 94) (lv' := lv6) (st' := [.int (nI 0)]) rfl rfl ?_
          exact wl_ret rfl rfl ⟨_, rfl, k⟩
        · replace k := it_f (c := (m4.F 12 6) = (m4.F 12 5)) c13 k
          refine wl_ald_n (pc' := 72) rfl e9 rfl ?_
          refine wp_get (v := .ref 2) (pc' := 75) rfl (hq_29 _) rfl rfl ?_
          refine wl_ald_n (pc' := 76) rfl e9 rfl ?_
          refine wp_get (v := .ref 12) (pc' := 79) rfl (hq_29 _) rfl rfl ?_
          refine wp_get (v := .int (m4.F 12 6)) (pc' := 82) rfl (hq_12 _) rfl rfl ?_
          obtain ⟨r14, k15, k16, k⟩ := k
          refine wl_aaload (k0 := r14) (pc' := 83) rfl (hq_2 _) k15.1 k15.2 rfl ?_
          refine wl_cv (As := [.ref r14]) (r := []) (pc' := 86) rfl (sm_inv_tbl k16 _ rfl rfl rfl) rfl k ?_
          rintro _ m17 ⟨w18, rfl, k⟩
          show sm_wp (d + 1) 107 86 lv6 [.int w18] (hp m17) (WQ K)
          refine wp_if_eq (pc' := 89) rfl rfl (fun c19 => ?_) (fun c19 => ?_)
          · replace k := it_t (c := w18 = (nI 0)) c19 k
            refine wp_p (pc' := 94) (lv' := lv6) (st' := [.int (nI 0)]) rfl rfl ?_
            exact wl_ret rfl rfl ⟨_, rfl, k⟩
          · replace k := it_f (c := w18 = (nI 0)) c19 k
            refine wp_p (pc' := 90) (lv' := lv6) (st' := [.int (nI 1)]) rfl rfl ?_
            refine wp_p (pc' := 94) (lv' := lv6) (st' := [.int (nI 1)]) rfl rfl ?_
            exact wl_ret rfl rfl ⟨_, rfl, k⟩
    · replace k := it_t (c := (m4.F 12 6) = (-1)) c11 k
      refine wl_ild_n (pc' := 49) rfl e7 rfl ?_
      obtain ⟨k20, k⟩ := k
      exact wl_ret rfl k20 ⟨_, rfl, k⟩
  · replace k := it_t (c := (m4.F 12 4) = (nI 4)) c10 k
    refine wl_ild_n (pc' := 28) rfl e7 rfl ?_
    refine wp_if_ne (pc' := 31) rfl rfl (fun c21 => ?_) (fun c21 => ?_)
    · replace k := it_f (c := w5 = (nI 0)) c21 k
      refine wp_p (pc' := 36) (lv' := lv6) (st' := [.int (nI 0)]) rfl rfl ?_
      exact wl_ret rfl rfl ⟨_, rfl, k⟩
    · replace k := it_t (c := w5 = (nI 0)) c21 k
      refine wp_p (pc' := 32) (lv' := lv6) (st' := [.int (nI 1)]) rfl rfl ?_
      refine wp_p (pc' := 36) (lv' := lv6) (st' := [.int (nI 1)]) rfl rfl ?_
      exact wl_ret rfl rfl ⟨_, rfl, k⟩
/-! 108: QueryTables$Checker.columnFits -/
set_option maxRecDepth 20000 in
theorem sp_108 {d : Nat} {m : Mm} {K : Option Value → Mm → Prop} (k : ∃ r1, tb_of (m.F 12 5) r1 ∧ tbl r1 ∧ (if (m.F 12 4) = nI 5 then (if (m.F 12 7) ≤ (nI 0) then K (some (.int (nI 0))) m else WP d 27 [.ref r1, .int (m.F 12 7)] m (fun v m10 => ∃ w11, v = some (.int w11) ∧ (if w11 = (nI 0) then K (some (.int (nI 0))) m10 else WP d 28 [.ref r1, .int (m10.F 12 7)] m10 (fun v m13 => ∃ w14, v = some (.int w14) ∧ (if w14 = (nI 0) then K (some (.int (nI 1))) m13 else K (some (.int (nI 0))) m13))))) else (if (m.F 12 4) = nI 7 then WP d 27 [.ref r1, .int (m.F 12 7)] m (fun v m17 => ∃ w18, v = some (.int w18) ∧ isB w18 ∧ K (some (.int w18)) m17) else K (some (.int (nI 1))) m))) : WP (d + 1) 108 [.ref 29] m K := by
  have e_0 : sm_lk (lv_args 0 [.ref 29]) 0 = some (.ref 29) := rfl
  show sm_wp (d + 1) 108 0 (lv_args 0 [.ref 29]) [] (hp m) (WQ K)
  generalize lv_args 0 [.ref 29] = lv0 at *
  refine wl_ald_n (pc' := 1) rfl e_0 rfl ?_
  refine wp_get (v := .ref 2) (pc' := 4) rfl (hq_29 _) rfl rfl ?_
  refine wl_ald_n (pc' := 5) rfl e_0 rfl ?_
  refine wp_get (v := .ref 12) (pc' := 8) rfl (hq_29 _) rfl rfl ?_
  refine wp_get (v := .int (m.F 12 5)) (pc' := 11) rfl (hq_12 _) rfl rfl ?_
  obtain ⟨r1, k2, k3, k⟩ := k
  refine wl_aaload (k0 := r1) (pc' := 12) rfl (hq_2 _) k2.1 k2.2 rfl ?_
  refine wl_st1 (pc' := 13) (k0 := 1) (v := .ref r1) (r := []) rfl rfl (fun lv4 e5 f6 => ?_)
  have e7 := f6 0 _ e_0 (by decide) rfl
  refine wl_ald_n (pc' := 14) rfl e7 rfl ?_
  refine wp_get (v := .ref 12) (pc' := 17) rfl (hq_29 _) rfl rfl ?_
  refine wp_get (v := .int (m.F 12 4)) (pc' := 20) rfl (hq_12 _) rfl rfl ?_
  by_cases c8 : (m.F 12 4) = nI 5
  · replace k := it_t (c := (m.F 12 4) = nI 5) c8 k
    refine wl_sw (pc' := 48) (r := []) c8 rfl rfl ?_
    refine wl_ald_n (pc' := 49) rfl e7 rfl ?_
    refine wp_get (v := .ref 12) (pc' := 52) rfl (hq_29 _) rfl rfl ?_
    refine wp_get (v := .int (m.F 12 7)) (pc' := 55) rfl (hq_12 _) rfl rfl ?_
    refine wp_if_le (pc' := 58) rfl rfl (fun c9 => ?_) (fun c9 => ?_)
    · replace k := it_t (c := (m.F 12 7) ≤ (nI 0)) c9 k
      refine wp_p (pc' := 91) (lv' := lv4) (st' := [.int (nI 0)]) rfl rfl ?_
      exact wl_ret rfl rfl ⟨_, rfl, k⟩
    · replace k := it_f (c := (m.F 12 7) ≤ (nI 0)) c9 k
      refine wl_ald_n (pc' := 59) rfl e5 rfl ?_
      refine wl_ald_n (pc' := 60) rfl e7 rfl ?_
      refine wp_get (v := .ref 12) (pc' := 63) rfl (hq_29 _) rfl rfl ?_
      refine wp_get (v := .int (m.F 12 7)) (pc' := 66) rfl (hq_12 _) rfl rfl ?_
      refine wl_cv (As := [.ref r1, .int (m.F 12 7)]) (r := []) (pc' := 69) rfl (sm_inv_tbl k3 _ rfl rfl rfl) rfl k ?_
      rintro _ m10 ⟨w11, rfl, k⟩
      show sm_wp (d + 1) 108 69 lv4 [.int w11] (hp m10) (WQ K)
      refine wp_if_eq (pc' := 72) rfl rfl (fun c12 => ?_) (fun c12 => ?_)
      · replace k := it_t (c := w11 = (nI 0)) c12 k
        refine wp_p (pc' := 91) (lv' := lv4) (st' := [.int (nI 0)]) rfl rfl ?_
        exact wl_ret rfl rfl ⟨_, rfl, k⟩
      · replace k := it_f (c := w11 = (nI 0)) c12 k
        refine wl_ald_n (pc' := 73) rfl e5 rfl ?_
        refine wl_ald_n (pc' := 74) rfl e7 rfl ?_
        refine wp_get (v := .ref 12) (pc' := 77) rfl (hq_29 _) rfl rfl ?_
        refine wp_get (v := .int (m10.F 12 7)) (pc' := 80) rfl (hq_12 _) rfl rfl ?_
        refine wl_cv (As := [.ref r1, .int (m10.F 12 7)]) (r := []) (pc' := 83) rfl (sm_inv_tbl k3 _ rfl rfl rfl) rfl k ?_
        rintro _ m13 ⟨w14, rfl, k⟩
        show sm_wp (d + 1) 108 83 lv4 [.int w14] (hp m13) (WQ K)
        refine wp_if_ne (pc' := 86) rfl rfl (fun c15 => ?_) (fun c15 => ?_)
        · replace k := it_f (c := w14 = (nI 0)) c15 k
          refine wp_p (pc' := 91) (lv' := lv4) (st' := [.int (nI 0)]) rfl rfl ?_
          exact wl_ret rfl rfl ⟨_, rfl, k⟩
        · replace k := it_t (c := w14 = (nI 0)) c15 k
          refine wp_p (pc' := 87) (lv' := lv4) (st' := [.int (nI 1)]) rfl rfl ?_
          refine wp_p (pc' := 91) (lv' := lv4) (st' := [.int (nI 1)]) rfl rfl ?_
          exact wl_ret rfl rfl ⟨_, rfl, k⟩
  replace k := it_f (c := (m.F 12 4) = nI 5) c8 k
  by_cases c16 : (m.F 12 4) = nI 7
  · replace k := it_t (c := (m.F 12 4) = nI 7) c16 k
    refine wl_sw (pc' := 92) (r := []) c16 rfl rfl ?_
    refine wl_ald_n (pc' := 93) rfl e5 rfl ?_
    refine wl_ald_n (pc' := 94) rfl e7 rfl ?_
    refine wp_get (v := .ref 12) (pc' := 97) rfl (hq_29 _) rfl rfl ?_
    refine wp_get (v := .int (m.F 12 7)) (pc' := 100) rfl (hq_12 _) rfl rfl ?_
    refine wl_cv (As := [.ref r1, .int (m.F 12 7)]) (r := []) (pc' := 103) rfl (sm_inv_tbl k3 _ rfl rfl rfl) rfl k ?_
    rintro _ m17 ⟨w18, rfl, k⟩
    show sm_wp (d + 1) 108 103 lv4 [.int w18] (hp m17) (WQ K)
    obtain ⟨k19, k⟩ := k
    exact wl_ret rfl k19 ⟨_, rfl, k⟩
  replace k := it_f (c := (m.F 12 4) = nI 7) c16 k
  have nc8 := sw_ne (n := 5) (by decide) c8
  have nc16 := sw_ne (n := 7) (by decide) c16
  refine wl_ld (pc' := 104) (o := 84) (r := []) rfl (by simp only [lookupswitch.offset]; rw [if_neg (fun q => nc8 q.symm)]; rw [if_neg (fun q => nc16 q.symm)]) rfl ?_
  refine wp_p (pc' := 105) (lv' := lv4) (st' := [.int (nI 1)]) rfl rfl ?_
  exact wl_ret rfl rfl ⟨_, rfl, k⟩
/-! 109: QueryTables$Checker.findSides -/
set_option maxRecDepth 20000 in
theorem sp_109 {d : Nat} {m : Mm} {K : Option Value → Mm → Prop} (k : WH d 109 2 [(0, .ref 29), (1, .int (nI 0))] [] m K) : WP d 109 [.ref 29] m K := by
  have e_0 : sm_lk (lv_args 0 [.ref 29]) 0 = some (.ref 29) := rfl
  show sm_wp d 109 0 (lv_args 0 [.ref 29]) [] (hp m) (WQ K)
  generalize lv_args 0 [.ref 29] = lv0 at *
  refine wp_p (pc' := 1) (lv' := lv0) (st' := [.int (nI 0)]) rfl rfl ?_
  refine wl_st1 (pc' := 2) (k0 := 1) (v := .int (nI 0)) (r := []) rfl rfl (fun lv1 e2 f3 => ?_)
  have e4 := f3 0 _ e_0 (by decide) rfl
  exact k _ ⟨e4, e2, trivial⟩
set_option maxRecDepth 20000 in
theorem sg_109_2 {d : Nat} {m : Mm} {K : Option Value → Mm → Prop} (x1 : Int32) (k : (if (m.F 17 5) ≤ x1 then K (some (.int (nI 1))) m else WP d 48 [.ref 17, .int x1] m (fun v m2 => ∃ w3, v = some (.int w3) ∧ (if w3 = (nI 0) then WH (d + 1) 109 2 [(0, .ref 29), (1, .int (x1 + nI 1))] [] m2 K else (if (m2.F 12 4) = (nI 6) then K (some (.int (nI 0))) m2 else ok (m2.A 20).length x1 ∧ ok (m2.A 19).length x1 ∧ WP d 110 [.ref 29, .int ((m2.A 20).getD (ix x1) 0), .int ((m2.A 19).getD (ix x1) 0)] m2 (fun v m12 => ∃ w13, v = some (.int w13) ∧ (if w13 = (-1) then K (some (.int (nI 0))) m12 else ok (m12.A 21).length x1 ∧ WH (d + 1) 109 2 [(0, .ref 29), (1, .int (x1 + nI 1))] [] (m12.uA 21 ((m12.A 21).set (ix x1) w13)) K))))))) : WH (d + 1) 109 2 [(0, .ref 29), (1, .int x1)] [] m K := by
  intro lv0 el
  obtain ⟨e_0, e_1, _⟩ := el
  refine wl_ild_n (pc' := 3) rfl e_1 rfl ?_
  refine wl_ald_n (pc' := 4) rfl e_0 rfl ?_
  refine wp_get (v := .ref 17) (pc' := 7) rfl (hq_29 _) rfl rfl ?_
  refine wp_get (v := .int (m.F 17 5)) (pc' := 10) rfl (hq_17 _) rfl rfl ?_
  refine wp_ic_ge (pc' := 13) rfl rfl (fun c1 => ?_) (fun c1 => ?_)
  · replace k := it_t (c := (m.F 17 5) ≤ x1) c1 k
    refine wp_p (pc' := 87) (lv' := lv0) (st' := [.int (nI 1)]) rfl rfl ?_
    exact wl_ret rfl rfl ⟨_, rfl, k⟩
  · replace k := it_f (c := (m.F 17 5) ≤ x1) c1 k
    refine wl_ald_n (pc' := 14) rfl e_0 rfl ?_
    refine wp_get (v := .ref 17) (pc' := 17) rfl (hq_29 _) rfl rfl ?_
    refine wl_ild_n (pc' := 18) rfl e_1 rfl ?_
    refine wl_cv (As := [.ref 17, .int x1]) (r := []) (pc' := 21) rfl rfl rfl k ?_
    rintro _ m2 ⟨w3, rfl, k⟩
    show sm_wp (d + 1) 109 21 lv0 [.int w3] (hp m2) (WQ K)
    refine wp_if_eq (pc' := 24) rfl rfl (fun c4 => ?_) (fun c4 => ?_)
    · replace k := it_t (c := w3 = (nI 0)) c4 k
      refine wl_iinc (pc' := 83) (v := x1 + nI 1) rfl e_1 rfl rfl rfl (fun lv5 e6 f7 => ?_)
      have e8 := f7 0 _ e_0 (by decide) rfl
      refine wp_p (pc' := 2) (lv' := lv5) (st' := []) rfl rfl ?_
      exact k _ ⟨e8, e6, trivial⟩
    · replace k := it_f (c := w3 = (nI 0)) c4 k
      refine wl_ald_n (pc' := 25) rfl e_0 rfl ?_
      refine wp_get (v := .ref 12) (pc' := 28) rfl (hq_29 _) rfl rfl ?_
      refine wp_get (v := .int (m2.F 12 4)) (pc' := 31) rfl (hq_12 _) rfl rfl ?_
      refine wp_p (pc' := 33) (lv' := lv0) (st' := [.int (nI 6), .int (m2.F 12 4)]) rfl rfl ?_
      refine wp_ic_ne (pc' := 36) rfl rfl (fun c9 => ?_) (fun c9 => ?_)
      · replace k := it_f (c := (m2.F 12 4) = (nI 6)) c9 k
        refine wl_ald_n (pc' := 41) rfl e_0 rfl ?_
        refine wl_ald_n (pc' := 42) rfl e_0 rfl ?_
        refine wp_get (v := .ref 17) (pc' := 45) rfl (hq_29 _) rfl rfl ?_
        refine wp_get (v := .ref 20) (pc' := 48) rfl (hq_17 _) rfl rfl ?_
        refine wl_ild_n (pc' := 49) rfl e_1 rfl ?_
        obtain ⟨k10, k⟩ := k
        refine wl_iaload (g := m2.A 20) (pc' := 50) rfl (hq_20 _) k10 rfl ?_
        refine wl_ald_n (pc' := 51) rfl e_0 rfl ?_
        refine wp_get (v := .ref 17) (pc' := 54) rfl (hq_29 _) rfl rfl ?_
        refine wp_get (v := .ref 19) (pc' := 57) rfl (hq_17 _) rfl rfl ?_
        refine wl_ild_n (pc' := 58) rfl e_1 rfl ?_
        obtain ⟨k11, k⟩ := k
        refine wl_iaload (g := m2.A 19) (pc' := 59) rfl (hq_19 _) k11 rfl ?_
        refine wl_cv (As := [.ref 29, .int ((m2.A 20).getD (ix x1) 0), .int ((m2.A 19).getD (ix x1) 0)]) (r := []) (pc' := 62) rfl rfl rfl k ?_
        rintro _ m12 ⟨w13, rfl, k⟩
        show sm_wp (d + 1) 109 62 lv0 [.int w13] (hp m12) (WQ K)
        refine wl_st1 (pc' := 63) (k0 := 2) (v := .int w13) (r := []) rfl rfl (fun lv14 e15 f16 => ?_)
        have e17 := f16 0 _ e_0 (by decide) rfl
        have e18 := f16 1 _ e_1 (by decide) rfl
        refine wl_ild_n (pc' := 64) rfl e15 rfl ?_
        refine wp_p (pc' := 65) (lv' := lv14) (st' := [.int (-1), .int w13]) rfl rfl ?_
        refine wp_ic_ne (pc' := 68) rfl rfl (fun c19 => ?_) (fun c19 => ?_)
        · replace k := it_f (c := w13 = (-1)) c19 k
          refine wl_ald_n (pc' := 71) rfl e17 rfl ?_
          refine wp_get (v := .ref 17) (pc' := 74) rfl (hq_29 _) rfl rfl ?_
          refine wp_get (v := .ref 21) (pc' := 77) rfl (hq_17 _) rfl rfl ?_
          refine wl_ild_n (pc' := 78) rfl e18 rfl ?_
          refine wl_ild_n (pc' := 79) rfl e15 rfl ?_
          obtain ⟨k20, k⟩ := k
          refine wl_iastore (g := m12.A 21) (pc' := 80) (h2 := hp (m12.uA 21 ((m12.A 21).set (ix x1) w13))) rfl (hq_21 _) k20 rfl (pa_21 _ _) ?_
          refine wl_iinc (pc' := 83) (v := x1 + nI 1) rfl e18 rfl rfl rfl (fun lv21 e22 f23 => ?_)
          have e24 := f23 0 _ e17 (by decide) rfl
          have e25 := f23 2 _ e15 (by decide) rfl
          refine wp_p (pc' := 2) (lv' := lv21) (st' := []) rfl rfl ?_
          exact k _ ⟨e24, e22, trivial⟩
        · replace k := it_t (c := w13 = (-1)) c19 k
          refine wp_p (pc' := 69) (lv' := lv14) (st' := [.int (nI 0)]) rfl rfl ?_
          exact wl_ret rfl rfl ⟨_, rfl, k⟩
      · replace k := it_t (c := (m2.F 12 4) = (nI 6)) c9 k
        refine wp_p (pc' := 37) (lv' := lv0) (st' := [.int (-1)]) rfl rfl ?_
        refine wp_p (pc' := 62) (lv' := lv0) (st' := [.int (-1)]) rfl rfl ?_
        refine wl_st1 (pc' := 63) (k0 := 2) (v := .int (-1)) (r := []) rfl rfl (fun lv26 e27 f28 => ?_)
        have e29 := f28 0 _ e_0 (by decide) rfl
        have e30 := f28 1 _ e_1 (by decide) rfl
        refine wl_ild_n (pc' := 64) rfl e27 rfl ?_
        refine wp_p (pc' := 65) (lv' := lv26) (st' := [.int (-1), .int (-1)]) rfl rfl ?_
        refine wp_p (pc' := 68) (lv' := lv26) (st' := []) rfl rfl ?_
        refine wp_p (pc' := 69) (lv' := lv26) (st' := [.int (nI 0)]) rfl rfl ?_
        exact wl_ret rfl rfl ⟨_, rfl, k⟩
/-! 110: QueryTables$Checker.sideOf -/
set_option maxRecDepth 20000 in
theorem sp_110 {d : Nat} {m : Mm} {K : Option Value → Mm → Prop} (x1 : Int32) (x2 : Int32) (k : WP d 111 [.ref 29, .int (m.F 12 5), .int x1, .int x2] m (fun v m1 => ∃ w2, v = some (.int w2) ∧ WP d 111 [.ref 29, .int (m1.F 12 6), .int x1, .int x2] m1 (fun v m9 => ∃ w10, v = some (.int w10) ∧ (if w2 = w10 then K (some (.int (-1))) m9 else (if w2 = (nI 0) then K (some (.int (nI 1))) m9 else K (some (.int (nI 0))) m9))))) : WP (d + 1) 110 [.ref 29, .int x1, .int x2] m K := by
  have e_0 : sm_lk (lv_args 0 [.ref 29, .int x1, .int x2]) 0 = some (.ref 29) := rfl
  have e_1 : sm_lk (lv_args 0 [.ref 29, .int x1, .int x2]) 1 = some (.int x1) := rfl
  have e_2 : sm_lk (lv_args 0 [.ref 29, .int x1, .int x2]) 2 = some (.int x2) := rfl
  show sm_wp (d + 1) 110 0 (lv_args 0 [.ref 29, .int x1, .int x2]) [] (hp m) (WQ K)
  generalize lv_args 0 [.ref 29, .int x1, .int x2] = lv0 at *
  refine wl_ald_n (pc' := 1) rfl e_0 rfl ?_
  refine wl_ald_n (pc' := 2) rfl e_0 rfl ?_
  refine wp_get (v := .ref 12) (pc' := 5) rfl (hq_29 _) rfl rfl ?_
  refine wp_get (v := .int (m.F 12 5)) (pc' := 8) rfl (hq_12 _) rfl rfl ?_
  refine wl_ild_n (pc' := 9) rfl e_1 rfl ?_
  refine wl_ild_n (pc' := 10) rfl e_2 rfl ?_
  refine wl_cv (As := [.ref 29, .int (m.F 12 5), .int x1, .int x2]) (r := []) (pc' := 13) rfl rfl rfl k ?_
  rintro _ m1 ⟨w2, rfl, k⟩
  show sm_wp (d + 1) 110 13 lv0 [.int w2] (hp m1) (WQ K)
  refine wl_st1 (pc' := 14) (k0 := 3) (v := .int w2) (r := []) rfl rfl (fun lv3 e4 f5 => ?_)
  have e6 := f5 0 _ e_0 (by decide) rfl
  have e7 := f5 1 _ e_1 (by decide) rfl
  have e8 := f5 2 _ e_2 (by decide) rfl
  refine wl_ald_n (pc' := 15) rfl e6 rfl ?_
  refine wl_ald_n (pc' := 16) rfl e6 rfl ?_
  refine wp_get (v := .ref 12) (pc' := 19) rfl (hq_29 _) rfl rfl ?_
  refine wp_get (v := .int (m1.F 12 6)) (pc' := 22) rfl (hq_12 _) rfl rfl ?_
  refine wl_ild_n (pc' := 23) rfl e7 rfl ?_
  refine wl_ild_n (pc' := 24) rfl e8 rfl ?_
  refine wl_cv (As := [.ref 29, .int (m1.F 12 6), .int x1, .int x2]) (r := []) (pc' := 27) rfl rfl rfl k ?_
  rintro _ m9 ⟨w10, rfl, k⟩
  show sm_wp (d + 1) 110 27 lv3 [.int w10] (hp m9) (WQ K)
  refine wl_st1 (pc' := 29) (k0 := 4) (v := .int w10) (r := []) rfl rfl (fun lv11 e12 f13 => ?_)
  have e14 := f13 0 _ e6 (by decide) rfl
  have e15 := f13 1 _ e7 (by decide) rfl
  have e16 := f13 2 _ e8 (by decide) rfl
  have e17 := f13 3 _ e4 (by decide) rfl
  refine wl_ild_n (pc' := 30) rfl e17 rfl ?_
  refine wl_ild (pc' := 32) rfl e12 rfl ?_
  refine wp_ic_ne (pc' := 35) rfl rfl (fun c18 => ?_) (fun c18 => ?_)
  · replace k := it_f (c := w2 = w10) c18 k
    refine wl_ild_n (pc' := 38) rfl e17 rfl ?_
    refine wp_if_eq (pc' := 41) rfl rfl (fun c19 => ?_) (fun c19 => ?_)
    · replace k := it_t (c := w2 = (nI 0)) c19 k
      refine wp_p (pc' := 46) (lv' := lv11) (st' := [.int (nI 1)]) rfl rfl ?_
      exact wl_ret rfl rfl ⟨_, rfl, k⟩
    · replace k := it_f (c := w2 = (nI 0)) c19 k
      refine wp_p (pc' := 42) (lv' := lv11) (st' := [.int (nI 0)]) rfl rfl ?_
      refine wp_p (pc' := 46) (lv' := lv11) (st' := [.int (nI 0)]) rfl rfl ?_
      exact wl_ret rfl rfl ⟨_, rfl, k⟩
  · replace k := it_t (c := w2 = w10) c18 k
    refine wp_p (pc' := 36) (lv' := lv11) (st' := [.int (-1)]) rfl rfl ?_
    exact wl_ret rfl rfl ⟨_, rfl, k⟩
/-! 111: QueryTables$Checker.fits -/
set_option maxRecDepth 20000 in
theorem sp_111 {d : Nat} {m : Mm} {K : Option Value → Mm → Prop} (x1 : Int32) (x2 : Int32) (x3 : Int32) (k : (if x1 = (-1) then K (some (.int (nI 0))) m else (if x2 = (-1) then ∃ r3, tb_of x1 r3 ∧ tbl r3 ∧ WP d 27 [.ref r3, .int x3] m (fun v m6 => ∃ w7, v = some (.int w7) ∧ (if w7 = (nI 0) then K (some (.int (nI 0))) m6 else K (some (.int (nI 1))) m6)) else (if x2 = x1 then ∃ r10, tb_of x1 r10 ∧ tbl r10 ∧ WP d 27 [.ref r10, .int x3] m (fun v m13 => ∃ w14, v = some (.int w14) ∧ (if w14 = (nI 0) then K (some (.int (nI 0))) m13 else K (some (.int (nI 1))) m13)) else K (some (.int (nI 0))) m)))) : WP (d + 1) 111 [.ref 29, .int x1, .int x2, .int x3] m K := by
  have e_0 : sm_lk (lv_args 0 [.ref 29, .int x1, .int x2, .int x3]) 0 = some (.ref 29) := rfl
  have e_1 : sm_lk (lv_args 0 [.ref 29, .int x1, .int x2, .int x3]) 1 = some (.int x1) := rfl
  have e_2 : sm_lk (lv_args 0 [.ref 29, .int x1, .int x2, .int x3]) 2 = some (.int x2) := rfl
  have e_3 : sm_lk (lv_args 0 [.ref 29, .int x1, .int x2, .int x3]) 3 = some (.int x3) := rfl
  show sm_wp (d + 1) 111 0 (lv_args 0 [.ref 29, .int x1, .int x2, .int x3]) [] (hp m) (WQ K)
  generalize lv_args 0 [.ref 29, .int x1, .int x2, .int x3] = lv0 at *
  refine wl_ild_n (pc' := 1) rfl e_1 rfl ?_
  refine wp_p (pc' := 2) (lv' := lv0) (st' := [.int (-1), .int x1]) rfl rfl ?_
  refine wp_ic_eq (pc' := 5) rfl rfl (fun c1 => ?_) (fun c1 => ?_)
  · replace k := it_t (c := x1 = (-1)) c1 k
    refine wp_p (pc' := 33) (lv' := lv0) (st' := [.int (nI 0)]) rfl rfl ?_
    exact wl_ret rfl rfl ⟨_, rfl, k⟩
  · replace k := it_f (c := x1 = (-1)) c1 k
    refine wl_ild_n (pc' := 6) rfl e_2 rfl ?_
    refine wp_p (pc' := 7) (lv' := lv0) (st' := [.int (-1), .int x2]) rfl rfl ?_
    refine wp_ic_eq (pc' := 10) rfl rfl (fun c2 => ?_) (fun c2 => ?_)
    · replace k := it_t (c := x2 = (-1)) c2 k
      refine wl_ald_n (pc' := 16) rfl e_0 rfl ?_
      refine wp_get (v := .ref 2) (pc' := 19) rfl (hq_29 _) rfl rfl ?_
      refine wl_ild_n (pc' := 20) rfl e_1 rfl ?_
      obtain ⟨r3, k4, k5, k⟩ := k
      refine wl_aaload (k0 := r3) (pc' := 21) rfl (hq_2 _) k4.1 k4.2 rfl ?_
      refine wl_ild_n (pc' := 22) rfl e_3 rfl ?_
      refine wl_cv (As := [.ref r3, .int x3]) (r := []) (pc' := 25) rfl (sm_inv_tbl k5 _ rfl rfl rfl) rfl k ?_
      rintro _ m6 ⟨w7, rfl, k⟩
      show sm_wp (d + 1) 111 25 lv0 [.int w7] (hp m6) (WQ K)
      refine wp_if_eq (pc' := 28) rfl rfl (fun c8 => ?_) (fun c8 => ?_)
      · replace k := it_t (c := w7 = (nI 0)) c8 k
        refine wp_p (pc' := 33) (lv' := lv0) (st' := [.int (nI 0)]) rfl rfl ?_
        exact wl_ret rfl rfl ⟨_, rfl, k⟩
      · replace k := it_f (c := w7 = (nI 0)) c8 k
        refine wp_p (pc' := 29) (lv' := lv0) (st' := [.int (nI 1)]) rfl rfl ?_
        refine wp_p (pc' := 33) (lv' := lv0) (st' := [.int (nI 1)]) rfl rfl ?_
        exact wl_ret rfl rfl ⟨_, rfl, k⟩
    · replace k := it_f (c := x2 = (-1)) c2 k
      refine wl_ild_n (pc' := 11) rfl e_2 rfl ?_
      refine wl_ild_n (pc' := 12) rfl e_1 rfl ?_
      refine wp_ic_ne (pc' := 15) rfl rfl (fun c9 => ?_) (fun c9 => ?_)
      · replace k := it_f (c := x2 = x1) c9 k
        refine wp_p (pc' := 33) (lv' := lv0) (st' := [.int (nI 0)]) rfl rfl ?_
        exact wl_ret rfl rfl ⟨_, rfl, k⟩
      · replace k := it_t (c := x2 = x1) c9 k
        refine wl_ald_n (pc' := 16) rfl e_0 rfl ?_
        refine wp_get (v := .ref 2) (pc' := 19) rfl (hq_29 _) rfl rfl ?_
        refine wl_ild_n (pc' := 20) rfl e_1 rfl ?_
        obtain ⟨r10, k11, k12, k⟩ := k
        refine wl_aaload (k0 := r10) (pc' := 21) rfl (hq_2 _) k11.1 k11.2 rfl ?_
        refine wl_ild_n (pc' := 22) rfl e_3 rfl ?_
        refine wl_cv (As := [.ref r10, .int x3]) (r := []) (pc' := 25) rfl (sm_inv_tbl k12 _ rfl rfl rfl) rfl k ?_
        rintro _ m13 ⟨w14, rfl, k⟩
        show sm_wp (d + 1) 111 25 lv0 [.int w14] (hp m13) (WQ K)
        refine wp_if_eq (pc' := 28) rfl rfl (fun c15 => ?_) (fun c15 => ?_)
        · replace k := it_t (c := w14 = (nI 0)) c15 k
          refine wp_p (pc' := 33) (lv' := lv0) (st' := [.int (nI 0)]) rfl rfl ?_
          exact wl_ret rfl rfl ⟨_, rfl, k⟩
        · replace k := it_f (c := w14 = (nI 0)) c15 k
          refine wp_p (pc' := 29) (lv' := lv0) (st' := [.int (nI 1)]) rfl rfl ?_
          refine wp_p (pc' := 33) (lv' := lv0) (st' := [.int (nI 1)]) rfl rfl ?_
          exact wl_ret rfl rfl ⟨_, rfl, k⟩
/-! 112: QueryTables$Checker.numbersFit -/
set_option maxRecDepth 20000 in
theorem sp_112 {d : Nat} {m : Mm} {K : Option Value → Mm → Prop} (k : (if (m.F 12 4) = nI 4 then (if (m.F 12 8) < (nI 1) then K (some (.int (nI 0))) m else (if (nI 4) < (m.F 12 8) then K (some (.int (nI 0))) m else K (some (.int (nI 1))) m)) else (if (m.F 12 4) = nI 6 then ∃ r5, tb_of (m.F 12 5) r5 ∧ tbl r5 ∧ (if (m.F 12 9) = (m.F r5 2) then K (some (.int (nI 1))) m else K (some (.int (nI 0))) m) else K (some (.int (nI 1))) m))) : WP d 112 [.ref 29] m K := by
  have e_0 : sm_lk (lv_args 0 [.ref 29]) 0 = some (.ref 29) := rfl
  show sm_wp d 112 0 (lv_args 0 [.ref 29]) [] (hp m) (WQ K)
  generalize lv_args 0 [.ref 29] = lv0 at *
  refine wl_ald_n (pc' := 1) rfl e_0 rfl ?_
  refine wp_get (v := .ref 12) (pc' := 4) rfl (hq_29 _) rfl rfl ?_
  refine wp_get (v := .int (m.F 12 4)) (pc' := 7) rfl (hq_12 _) rfl rfl ?_
  by_cases c1 : (m.F 12 4) = nI 4
  · replace k := it_t (c := (m.F 12 4) = nI 4) c1 k
    refine wl_sw (pc' := 32) (r := []) c1 rfl rfl ?_
    refine wl_ald_n (pc' := 33) rfl e_0 rfl ?_
    refine wp_get (v := .ref 12) (pc' := 36) rfl (hq_29 _) rfl rfl ?_
    refine wp_get (v := .int (m.F 12 8)) (pc' := 39) rfl (hq_12 _) rfl rfl ?_
    refine wp_p (pc' := 40) (lv' := lv0) (st' := [.int (nI 1), .int (m.F 12 8)]) rfl rfl ?_
    refine wp_ic_lt (pc' := 43) rfl rfl (fun c2 => ?_) (fun c2 => ?_)
    · replace k := it_t (c := (m.F 12 8) < (nI 1)) c2 k
      refine wp_p (pc' := 59) (lv' := lv0) (st' := [.int (nI 0)]) rfl rfl ?_
      exact wl_ret rfl rfl ⟨_, rfl, k⟩
    · replace k := it_f (c := (m.F 12 8) < (nI 1)) c2 k
      refine wl_ald_n (pc' := 44) rfl e_0 rfl ?_
      refine wp_get (v := .ref 12) (pc' := 47) rfl (hq_29 _) rfl rfl ?_
      refine wp_get (v := .int (m.F 12 8)) (pc' := 50) rfl (hq_12 _) rfl rfl ?_
      refine wp_p (pc' := 51) (lv' := lv0) (st' := [.int (nI 4), .int (m.F 12 8)]) rfl rfl ?_
      refine wp_ic_gt (pc' := 54) rfl rfl (fun c3 => ?_) (fun c3 => ?_)
      · replace k := it_t (c := (nI 4) < (m.F 12 8)) c3 k
        refine wp_p (pc' := 59) (lv' := lv0) (st' := [.int (nI 0)]) rfl rfl ?_
        exact wl_ret rfl rfl ⟨_, rfl, k⟩
      · replace k := it_f (c := (nI 4) < (m.F 12 8)) c3 k
        refine wp_p (pc' := 55) (lv' := lv0) (st' := [.int (nI 1)]) rfl rfl ?_
        refine wp_p (pc' := 59) (lv' := lv0) (st' := [.int (nI 1)]) rfl rfl ?_
        exact wl_ret rfl rfl ⟨_, rfl, k⟩
  replace k := it_f (c := (m.F 12 4) = nI 4) c1 k
  by_cases c4 : (m.F 12 4) = nI 6
  · replace k := it_t (c := (m.F 12 4) = nI 6) c4 k
    refine wl_sw (pc' := 60) (r := []) c4 rfl rfl ?_
    refine wl_ald_n (pc' := 61) rfl e_0 rfl ?_
    refine wp_get (v := .ref 12) (pc' := 64) rfl (hq_29 _) rfl rfl ?_
    refine wp_get (v := .int (m.F 12 9)) (pc' := 67) rfl (hq_12 _) rfl rfl ?_
    refine wl_ald_n (pc' := 68) rfl e_0 rfl ?_
    refine wp_get (v := .ref 2) (pc' := 71) rfl (hq_29 _) rfl rfl ?_
    refine wl_ald_n (pc' := 72) rfl e_0 rfl ?_
    refine wp_get (v := .ref 12) (pc' := 75) rfl (hq_29 _) rfl rfl ?_
    refine wp_get (v := .int (m.F 12 5)) (pc' := 78) rfl (hq_12 _) rfl rfl ?_
    obtain ⟨r5, k6, k7, k⟩ := k
    refine wl_aaload (k0 := r5) (pc' := 79) rfl (hq_2 _) k6.1 k6.2 rfl ?_
    refine wp_get (v := .int (m.F r5 2)) (pc' := 82) rfl (hq_tbl k7 _) rfl rfl ?_
    refine wp_ic_ne (pc' := 85) rfl rfl (fun c8 => ?_) (fun c8 => ?_)
    · replace k := it_f (c := (m.F 12 9) = (m.F r5 2)) c8 k
      refine wp_p (pc' := 90) (lv' := lv0) (st' := [.int (nI 0)]) rfl rfl ?_
      exact wl_ret rfl rfl ⟨_, rfl, k⟩
    · replace k := it_t (c := (m.F 12 9) = (m.F r5 2)) c8 k
      refine wp_p (pc' := 86) (lv' := lv0) (st' := [.int (nI 1)]) rfl rfl ?_
      refine wp_p (pc' := 90) (lv' := lv0) (st' := [.int (nI 1)]) rfl rfl ?_
      exact wl_ret rfl rfl ⟨_, rfl, k⟩
  replace k := it_f (c := (m.F 12 4) = nI 6) c4 k
  have nc1 := sw_ne (n := 4) (by decide) c1
  have nc4 := sw_ne (n := 6) (by decide) c4
  refine wl_ld (pc' := 91) (o := 84) (r := []) rfl (by simp only [lookupswitch.offset]; rw [if_neg (fun q => nc1 q.symm)]; rw [if_neg (fun q => nc4 q.symm)]) rfl ?_
  refine wp_p (pc' := 92) (lv' := lv0) (st' := [.int (nI 1)]) rfl rfl ?_
  exact wl_ret rfl rfl ⟨_, rfl, k⟩
/-! 114: QueryTables$Access.choose -/
set_option maxRecDepth 20000 in
theorem sp_114 {d : Nat} {m : Mm} {K : Option Value → Mm → Prop} (a0 : Nat) (r1 : Nat) (h_a0 : acc a0) (h_r1 : tbl r1) (k : WH d 114 7 [(0, .ref a0), (1, .ref r1), (2, .int (nI 0))] [] (m.uF a0 4 (nI 1)) K) : WP d 114 [.ref a0, .ref r1] m K := by
  have e_0 : sm_lk (lv_args 0 [.ref a0, .ref r1]) 0 = some (.ref a0) := rfl
  have e_1 : sm_lk (lv_args 0 [.ref a0, .ref r1]) 1 = some (.ref r1) := rfl
  show sm_wp d 114 0 (lv_args 0 [.ref a0, .ref r1]) [] (hp m) (WQ K)
  generalize lv_args 0 [.ref a0, .ref r1] = lv0 at *
  refine wl_ald_n (pc' := 1) rfl e_0 rfl ?_
  refine wp_p (pc' := 2) (lv' := lv0) (st' := [.int (nI 1), .ref a0]) rfl rfl ?_
  refine wl_put (pc' := 5) (h2 := hp (m.uF a0 4 (nI 1))) rfl (hq_acc h_a0 _) rfl rfl rfl (pf_acc_4 h_a0 _ _) ?_
  refine wp_p (pc' := 6) (lv' := lv0) (st' := [.int (nI 0)]) rfl rfl ?_
  refine wl_st1 (pc' := 7) (k0 := 2) (v := .int (nI 0)) (r := []) rfl rfl (fun lv1 e2 f3 => ?_)
  have e4 := f3 0 _ e_0 (by decide) rfl
  have e5 := f3 1 _ e_1 (by decide) rfl
  exact k _ ⟨e4, e5, e2, trivial⟩
set_option maxRecDepth 20000 in
theorem sg_114_7 {d : Nat} {m : Mm} {K : Option Value → Mm → Prop} (a0 : Nat) (r1 : Nat) (x2 : Int32) (h_a0 : acc a0) (h_r1 : tbl r1) (k : (if (m.F 12 16) ≤ x2 then K none m else (if (m.F a0 4) = (nI 3) then K none m else ok (m.A 15).length x2 ∧ (if ((m.A 15).getD (ix x2) 0) = (-1) then WH (d + 1) 114 7 [(0, .ref a0), (1, .ref r1), (2, .int (x2 + nI 1))] [] m K else ok (m.A 14).length x2 ∧ ok (m.A 16).length x2 ∧ WP d 50 [.ref 17, .int ((m.A 14).getD (ix x2) 0), .int ((m.A 15).getD (ix x2) 0), .int (m.F a0 2)] m (fun v m34 => ∃ w35, v = some (.int w35) ∧ WP d 115 [.ref a0, .ref r1, .int w35, .int ((m.A 15).getD (ix x2) 0), .int (((m.A 16).getD (ix x2) 0) - (nI 1))] m34 (fun v m36 => v = none ∧ WP d 50 [.ref 17, .int ((m.A 15).getD (ix x2) 0), .int (((m.A 16).getD (ix x2) 0) - (nI 1)), .int (m36.F a0 2)] m36 (fun v m37 => ∃ w38, v = some (.int w38) ∧ WP d 115 [.ref a0, .ref r1, .int w38, .int ((m.A 14).getD (ix x2) 0), .int ((m.A 15).getD (ix x2) 0)] m37 (fun v m39 => v = none ∧ WH (d + 1) 114 7 [(0, .ref a0), (1, .ref r1), (2, .int (x2 + nI 1))] [] m39 K)))))))) : WH (d + 1) 114 7 [(0, .ref a0), (1, .ref r1), (2, .int x2)] [] m K := by
  intro lv0 el
  obtain ⟨e_0, e_1, e_2, _⟩ := el
  refine wl_ild_n (pc' := 8) rfl e_2 rfl ?_
  refine wl_ald_n (pc' := 9) rfl e_0 rfl ?_
  refine wp_get (v := .ref 12) (pc' := 12) rfl (hq_acc h_a0 _) rfl rfl ?_
  refine wp_get (v := .int (m.F 12 16)) (pc' := 15) rfl (hq_12 _) rfl rfl ?_
  refine wp_ic_ge (pc' := 18) rfl rfl (fun c1 => ?_) (fun c1 => ?_)
  · replace k := it_t (c := (m.F 12 16) ≤ x2) c1 k
    exact wp_r rfl rfl ⟨_, rfl, k⟩
  · replace k := it_f (c := (m.F 12 16) ≤ x2) c1 k
    refine wl_ald_n (pc' := 19) rfl e_0 rfl ?_
    refine wp_get (v := .int (m.F a0 4)) (pc' := 22) rfl (hq_acc h_a0 _) rfl rfl ?_
    refine wp_p (pc' := 23) (lv' := lv0) (st' := [.int (nI 3), .int (m.F a0 4)]) rfl rfl ?_
    refine wp_ic_eq (pc' := 26) rfl rfl (fun c2 => ?_) (fun c2 => ?_)
    · replace k := it_t (c := (m.F a0 4) = (nI 3)) c2 k
      exact wp_r rfl rfl ⟨_, rfl, k⟩
    · replace k := it_f (c := (m.F a0 4) = (nI 3)) c2 k
      refine wl_ald_n (pc' := 27) rfl e_0 rfl ?_
      refine wp_get (v := .ref 12) (pc' := 30) rfl (hq_acc h_a0 _) rfl rfl ?_
      refine wp_get (v := .ref 15) (pc' := 33) rfl (hq_12 _) rfl rfl ?_
      refine wl_ild_n (pc' := 34) rfl e_2 rfl ?_
      obtain ⟨k3, k⟩ := k
      refine wl_iaload (g := m.A 15) (pc' := 35) rfl (hq_15 _) k3 rfl ?_
      refine wl_st1 (pc' := 36) (k0 := 3) (v := .int ((m.A 15).getD (ix x2) 0)) (r := []) rfl rfl (fun lv4 e5 f6 => ?_)
      have e7 := f6 0 _ e_0 (by decide) rfl
      have e8 := f6 1 _ e_1 (by decide) rfl
      have e9 := f6 2 _ e_2 (by decide) rfl
      refine wl_ild_n (pc' := 37) rfl e5 rfl ?_
      refine wp_p (pc' := 38) (lv' := lv4) (st' := [.int (-1), .int ((m.A 15).getD (ix x2) 0)]) rfl rfl ?_
      refine wp_ic_eq (pc' := 41) rfl rfl (fun c10 => ?_) (fun c10 => ?_)
      · replace k := it_t (c := ((m.A 15).getD (ix x2) 0) = (-1)) c10 k
        refine wl_iinc (pc' := 112) (v := x2 + nI 1) rfl e9 rfl rfl rfl (fun lv11 e12 f13 => ?_)
        have e14 := f13 0 _ e7 (by decide) rfl
        have e15 := f13 1 _ e8 (by decide) rfl
        have e16 := f13 3 _ e5 (by decide) rfl
        refine wp_p (pc' := 7) (lv' := lv11) (st' := []) rfl rfl ?_
        exact k _ ⟨e14, e15, e12, trivial⟩
      · replace k := it_f (c := ((m.A 15).getD (ix x2) 0) = (-1)) c10 k
        refine wl_ald_n (pc' := 42) rfl e7 rfl ?_
        refine wp_get (v := .ref 12) (pc' := 45) rfl (hq_acc h_a0 _) rfl rfl ?_
        refine wp_get (v := .ref 14) (pc' := 48) rfl (hq_12 _) rfl rfl ?_
        refine wl_ild_n (pc' := 49) rfl e9 rfl ?_
        obtain ⟨k17, k⟩ := k
        refine wl_iaload (g := m.A 14) (pc' := 50) rfl (hq_14 _) k17 rfl ?_
        refine wl_st1 (pc' := 52) (k0 := 4) (v := .int ((m.A 14).getD (ix x2) 0)) (r := []) rfl rfl (fun lv18 e19 f20 => ?_)
        have e21 := f20 0 _ e7 (by decide) rfl
        have e22 := f20 1 _ e8 (by decide) rfl
        have e23 := f20 2 _ e9 (by decide) rfl
        have e24 := f20 3 _ e5 (by decide) rfl
        refine wl_ald_n (pc' := 53) rfl e21 rfl ?_
        refine wp_get (v := .ref 12) (pc' := 56) rfl (hq_acc h_a0 _) rfl rfl ?_
        refine wp_get (v := .ref 16) (pc' := 59) rfl (hq_12 _) rfl rfl ?_
        refine wl_ild_n (pc' := 60) rfl e23 rfl ?_
        obtain ⟨k25, k⟩ := k
        refine wl_iaload (g := m.A 16) (pc' := 61) rfl (hq_16 _) k25 rfl ?_
        refine wp_p (pc' := 62) (lv' := lv18) (st' := [.int (nI 1), .int ((m.A 16).getD (ix x2) 0)]) rfl rfl ?_
        refine wp_isub (v := ((m.A 16).getD (ix x2) 0) - (nI 1)) (pc' := 63) rfl rfl rfl ?_
        refine wl_st1 (pc' := 65) (k0 := 5) (v := .int (((m.A 16).getD (ix x2) 0) - (nI 1))) (r := []) rfl rfl (fun lv26 e27 f28 => ?_)
        have e29 := f28 0 _ e21 (by decide) rfl
        have e30 := f28 1 _ e22 (by decide) rfl
        have e31 := f28 2 _ e23 (by decide) rfl
        have e32 := f28 3 _ e24 (by decide) rfl
        have e33 := f28 4 _ e19 (by decide) rfl
        refine wl_ald_n (pc' := 66) rfl e29 rfl ?_
        refine wl_ald_n (pc' := 67) rfl e30 rfl ?_
        refine wl_ald_n (pc' := 68) rfl e29 rfl ?_
        refine wp_get (v := .ref 17) (pc' := 71) rfl (hq_acc h_a0 _) rfl rfl ?_
        refine wl_ild (pc' := 73) rfl e33 rfl ?_
        refine wl_ild_n (pc' := 74) rfl e32 rfl ?_
        refine wl_ald_n (pc' := 75) rfl e29 rfl ?_
        refine wp_get (v := .int (m.F a0 2)) (pc' := 78) rfl (hq_acc h_a0 _) rfl rfl ?_
        refine wl_cv (As := [.ref 17, .int ((m.A 14).getD (ix x2) 0), .int ((m.A 15).getD (ix x2) 0), .int (m.F a0 2)]) (r := [.ref r1, .ref a0]) (pc' := 81) rfl rfl rfl k ?_
        rintro _ m34 ⟨w35, rfl, k⟩
        show sm_wp (d + 1) 114 81 lv26 [.int w35, .ref r1, .ref a0] (hp m34) (WQ K)
        refine wl_ild_n (pc' := 82) rfl e32 rfl ?_
        refine wl_ild (pc' := 84) rfl e27 rfl ?_
        refine wl_cv (As := [.ref a0, .ref r1, .int w35, .int ((m.A 15).getD (ix x2) 0), .int (((m.A 16).getD (ix x2) 0) - (nI 1))]) (r := []) (pc' := 87) rfl (sm_inv_acc h_a0 _ rfl rfl rfl) rfl k ?_
        rintro _ m36 ⟨rfl, k⟩
        show sm_wp (d + 1) 114 87 lv26 [] (hp m36) (WQ K)
        refine wl_ald_n (pc' := 88) rfl e29 rfl ?_
        refine wl_ald_n (pc' := 89) rfl e30 rfl ?_
        refine wl_ald_n (pc' := 90) rfl e29 rfl ?_
        refine wp_get (v := .ref 17) (pc' := 93) rfl (hq_acc h_a0 _) rfl rfl ?_
        refine wl_ild_n (pc' := 94) rfl e32 rfl ?_
        refine wl_ild (pc' := 96) rfl e27 rfl ?_
        refine wl_ald_n (pc' := 97) rfl e29 rfl ?_
        refine wp_get (v := .int (m36.F a0 2)) (pc' := 100) rfl (hq_acc h_a0 _) rfl rfl ?_
        refine wl_cv (As := [.ref 17, .int ((m.A 15).getD (ix x2) 0), .int (((m.A 16).getD (ix x2) 0) - (nI 1)), .int (m36.F a0 2)]) (r := [.ref r1, .ref a0]) (pc' := 103) rfl rfl rfl k ?_
        rintro _ m37 ⟨w38, rfl, k⟩
        show sm_wp (d + 1) 114 103 lv26 [.int w38, .ref r1, .ref a0] (hp m37) (WQ K)
        refine wl_ild (pc' := 105) rfl e33 rfl ?_
        refine wl_ild_n (pc' := 106) rfl e32 rfl ?_
        refine wl_cv (As := [.ref a0, .ref r1, .int w38, .int ((m.A 14).getD (ix x2) 0), .int ((m.A 15).getD (ix x2) 0)]) (r := []) (pc' := 109) rfl (sm_inv_acc h_a0 _ rfl rfl rfl) rfl k ?_
        rintro _ m39 ⟨rfl, k⟩
        show sm_wp (d + 1) 114 109 lv26 [] (hp m39) (WQ K)
        refine wl_iinc (pc' := 112) (v := x2 + nI 1) rfl e31 rfl rfl rfl (fun lv40 e41 f42 => ?_)
        have e43 := f42 0 _ e29 (by decide) rfl
        have e44 := f42 1 _ e30 (by decide) rfl
        have e45 := f42 3 _ e32 (by decide) rfl
        have e46 := f42 4 _ e33 (by decide) rfl
        have e47 := f42 5 _ e27 (by decide) rfl
        refine wp_p (pc' := 7) (lv' := lv40) (st' := []) rfl rfl ?_
        exact k _ ⟨e43, e44, e41, trivial⟩
/-! 115: QueryTables$Access.consider -/
set_option maxRecDepth 20000 in
theorem sp_115 {d : Nat} {m : Mm} {K : Option Value → Mm → Prop} (a0 : Nat) (r1 : Nat) (x2 : Int32) (x3 : Int32) (x4 : Int32) (h_a0 : acc a0) (h_r1 : tbl r1) (k : (if x2 = (-1) then K none m else WP d 49 [.ref 17, .int x3, .int x4] m (fun v m2 => ∃ w3, v = some (.int w3) ∧ (if (w3 &&& ((m2.F a0 3) ^^^ (-1))) = (nI 0) then (if x2 = (nI 0) then WP d 116 [.ref a0, .int (nI 3), .int x2, .int x3, .int x4] m2 (fun v m11 => v = none ∧ K none m11) else (if (m2.F a0 4) = (nI 1) then WP d 28 [.ref r1, .int x2] m2 (fun v m7 => ∃ w8, v = some (.int w8) ∧ (if w8 = (nI 0) then K none m7 else WP d 116 [.ref a0, .int (nI 2), .int x2, .int x3, .int x4] m7 (fun v m10 => v = none ∧ K none m10))) else K none m2)) else K none m2)))) : WP (d + 1) 115 [.ref a0, .ref r1, .int x2, .int x3, .int x4] m K := by
  have e_0 : sm_lk (lv_args 0 [.ref a0, .ref r1, .int x2, .int x3, .int x4]) 0 = some (.ref a0) := rfl
  have e_1 : sm_lk (lv_args 0 [.ref a0, .ref r1, .int x2, .int x3, .int x4]) 1 = some (.ref r1) := rfl
  have e_2 : sm_lk (lv_args 0 [.ref a0, .ref r1, .int x2, .int x3, .int x4]) 2 = some (.int x2) := rfl
  have e_3 : sm_lk (lv_args 0 [.ref a0, .ref r1, .int x2, .int x3, .int x4]) 3 = some (.int x3) := rfl
  have e_4 : sm_lk (lv_args 0 [.ref a0, .ref r1, .int x2, .int x3, .int x4]) 4 = some (.int x4) := rfl
  show sm_wp (d + 1) 115 0 (lv_args 0 [.ref a0, .ref r1, .int x2, .int x3, .int x4]) [] (hp m) (WQ K)
  generalize lv_args 0 [.ref a0, .ref r1, .int x2, .int x3, .int x4] = lv0 at *
  refine wl_ild_n (pc' := 1) rfl e_2 rfl ?_
  refine wp_p (pc' := 2) (lv' := lv0) (st' := [.int (-1), .int x2]) rfl rfl ?_
  refine wp_ic_eq (pc' := 5) rfl rfl (fun c1 => ?_) (fun c1 => ?_)
  · replace k := it_t (c := x2 = (-1)) c1 k
    exact wp_r rfl rfl ⟨_, rfl, k⟩
  · replace k := it_f (c := x2 = (-1)) c1 k
    refine wl_ald_n (pc' := 6) rfl e_0 rfl ?_
    refine wp_get (v := .ref 17) (pc' := 9) rfl (hq_acc h_a0 _) rfl rfl ?_
    refine wl_ild_n (pc' := 10) rfl e_3 rfl ?_
    refine wl_ild (pc' := 12) rfl e_4 rfl ?_
    refine wl_cv (As := [.ref 17, .int x3, .int x4]) (r := []) (pc' := 15) rfl rfl rfl k ?_
    rintro _ m2 ⟨w3, rfl, k⟩
    show sm_wp (d + 1) 115 15 lv0 [.int w3] (hp m2) (WQ K)
    refine wl_ald_n (pc' := 16) rfl e_0 rfl ?_
    refine wp_get (v := .int (m2.F a0 3)) (pc' := 19) rfl (hq_acc h_a0 _) rfl rfl ?_
    refine wp_p (pc' := 20) (lv' := lv0) (st' := [.int (-1), .int (m2.F a0 3), .int w3]) rfl rfl ?_
    refine wp_ixor (v := (m2.F a0 3) ^^^ (-1)) (pc' := 21) rfl rfl rfl ?_
    refine wp_iand (v := w3 &&& ((m2.F a0 3) ^^^ (-1))) (pc' := 22) rfl rfl rfl ?_
    refine wp_if_eq (pc' := 25) rfl rfl (fun c4 => ?_) (fun c4 => ?_)
    · replace k := it_t (c := (w3 &&& ((m2.F a0 3) ^^^ (-1))) = (nI 0)) c4 k
      refine wl_ild_n (pc' := 27) rfl e_2 rfl ?_
      refine wp_if_ne (pc' := 30) rfl rfl (fun c5 => ?_) (fun c5 => ?_)
      · replace k := it_f (c := x2 = (nI 0)) c5 k
        refine wl_ald_n (pc' := 43) rfl e_0 rfl ?_
        refine wp_get (v := .int (m2.F a0 4)) (pc' := 46) rfl (hq_acc h_a0 _) rfl rfl ?_
        refine wp_p (pc' := 47) (lv' := lv0) (st' := [.int (nI 1), .int (m2.F a0 4)]) rfl rfl ?_
        refine wp_ic_ne (pc' := 50) rfl rfl (fun c6 => ?_) (fun c6 => ?_)
        · replace k := it_f (c := (m2.F a0 4) = (nI 1)) c6 k
          exact wp_r rfl rfl ⟨_, rfl, k⟩
        · replace k := it_t (c := (m2.F a0 4) = (nI 1)) c6 k
          refine wl_ald_n (pc' := 51) rfl e_1 rfl ?_
          refine wl_ild_n (pc' := 52) rfl e_2 rfl ?_
          refine wl_cv (As := [.ref r1, .int x2]) (r := []) (pc' := 55) rfl (sm_inv_tbl h_r1 _ rfl rfl rfl) rfl k ?_
          rintro _ m7 ⟨w8, rfl, k⟩
          show sm_wp (d + 1) 115 55 lv0 [.int w8] (hp m7) (WQ K)
          refine wp_if_eq (pc' := 58) rfl rfl (fun c9 => ?_) (fun c9 => ?_)
          · replace k := it_t (c := w8 = (nI 0)) c9 k
            exact wp_r rfl rfl ⟨_, rfl, k⟩
          · replace k := it_f (c := w8 = (nI 0)) c9 k
            refine wl_ald_n (pc' := 59) rfl e_0 rfl ?_
            refine wp_p (pc' := 60) (lv' := lv0) (st' := [.int (nI 2), .ref a0]) rfl rfl ?_
            refine wl_ild_n (pc' := 61) rfl e_2 rfl ?_
            refine wl_ild_n (pc' := 62) rfl e_3 rfl ?_
            refine wl_ild (pc' := 64) rfl e_4 rfl ?_
            refine wl_cv (As := [.ref a0, .int (nI 2), .int x2, .int x3, .int x4]) (r := []) (pc' := 67) rfl (sm_inv_acc h_a0 _ rfl rfl rfl) rfl k ?_
            rintro _ m10 ⟨rfl, k⟩
            show sm_wp (d + 1) 115 67 lv0 [] (hp m10) (WQ K)
            exact wp_r rfl rfl ⟨_, rfl, k⟩
      · replace k := it_t (c := x2 = (nI 0)) c5 k
        refine wl_ald_n (pc' := 31) rfl e_0 rfl ?_
        refine wp_p (pc' := 32) (lv' := lv0) (st' := [.int (nI 3), .ref a0]) rfl rfl ?_
        refine wl_ild_n (pc' := 33) rfl e_2 rfl ?_
        refine wl_ild_n (pc' := 34) rfl e_3 rfl ?_
        refine wl_ild (pc' := 36) rfl e_4 rfl ?_
        refine wl_cv (As := [.ref a0, .int (nI 3), .int x2, .int x3, .int x4]) (r := []) (pc' := 39) rfl (sm_inv_acc h_a0 _ rfl rfl rfl) rfl k ?_
        rintro _ m11 ⟨rfl, k⟩
        show sm_wp (d + 1) 115 39 lv0 [] (hp m11) (WQ K)
        refine wp_p (pc' := 67) (lv' := lv0) (st' := []) rfl rfl ?_
        exact wp_r rfl rfl ⟨_, rfl, k⟩
    · replace k := it_f (c := (w3 &&& ((m2.F a0 3) ^^^ (-1))) = (nI 0)) c4 k
      exact wp_r rfl rfl ⟨_, rfl, k⟩
/-! 116: QueryTables$Access.take -/
set_option maxRecDepth 20000 in
theorem sp_116 {d : Nat} {m : Mm} {K : Option Value → Mm → Prop} (a0 : Nat) (x1 : Int32) (x2 : Int32) (x3 : Int32) (x4 : Int32) (h_a0 : acc a0) (k : K none ((((m.uF a0 4 x1).uF a0 5 x2).uF a0 6 x3).uF a0 7 x4)) : WP d 116 [.ref a0, .int x1, .int x2, .int x3, .int x4] m K := by
  have e_0 : sm_lk (lv_args 0 [.ref a0, .int x1, .int x2, .int x3, .int x4]) 0 = some (.ref a0) := rfl
  have e_1 : sm_lk (lv_args 0 [.ref a0, .int x1, .int x2, .int x3, .int x4]) 1 = some (.int x1) := rfl
  have e_2 : sm_lk (lv_args 0 [.ref a0, .int x1, .int x2, .int x3, .int x4]) 2 = some (.int x2) := rfl
  have e_3 : sm_lk (lv_args 0 [.ref a0, .int x1, .int x2, .int x3, .int x4]) 3 = some (.int x3) := rfl
  have e_4 : sm_lk (lv_args 0 [.ref a0, .int x1, .int x2, .int x3, .int x4]) 4 = some (.int x4) := rfl
  show sm_wp d 116 0 (lv_args 0 [.ref a0, .int x1, .int x2, .int x3, .int x4]) [] (hp m) (WQ K)
  generalize lv_args 0 [.ref a0, .int x1, .int x2, .int x3, .int x4] = lv0 at *
  refine wl_ald_n (pc' := 1) rfl e_0 rfl ?_
  refine wl_ild_n (pc' := 2) rfl e_1 rfl ?_
  refine wl_put (pc' := 5) (h2 := hp (m.uF a0 4 x1)) rfl (hq_acc h_a0 _) rfl rfl rfl (pf_acc_4 h_a0 _ _) ?_
  refine wl_ald_n (pc' := 6) rfl e_0 rfl ?_
  refine wl_ild_n (pc' := 7) rfl e_2 rfl ?_
  refine wl_put (pc' := 10) (h2 := hp ((m.uF a0 4 x1).uF a0 5 x2)) rfl (hq_acc h_a0 _) rfl rfl rfl (pf_acc_5 h_a0 _ _) ?_
  refine wl_ald_n (pc' := 11) rfl e_0 rfl ?_
  refine wl_ild_n (pc' := 12) rfl e_3 rfl ?_
  refine wl_put (pc' := 15) (h2 := hp (((m.uF a0 4 x1).uF a0 5 x2).uF a0 6 x3)) rfl (hq_acc h_a0 _) rfl rfl rfl (pf_acc_6 h_a0 _ _) ?_
  refine wl_ald_n (pc' := 16) rfl e_0 rfl ?_
  refine wl_ild (pc' := 18) rfl e_4 rfl ?_
  refine wl_put (pc' := 21) (h2 := hp ((((m.uF a0 4 x1).uF a0 5 x2).uF a0 6 x3).uF a0 7 x4)) rfl (hq_acc h_a0 _) rfl rfl rfl (pf_acc_7 h_a0 _ _) ?_
  exact wp_r rfl rfl ⟨_, rfl, k⟩
