/-! SEGMENTS of the methods 180 to 185 (by program, wip/whole/gen25.py): what must hold of a way from one place to the next -/
/-! 180: QueryTablesModel.insert -/
set_option maxRecDepth 20000 in
theorem sp_180 {d : Nat} {m : Mm} {K : Option Value → Mm → Prop} (x1 : Int32) (k : ok (m.A 56).length x1 ∧ (if (m.F 42 22) = ((m.A 56).getD (ix x1) 0) then ok (m.A 57).length x1 ∧ WH d 180 24 [(0, .ref 42), (1, .int x1), (2, .int ((m.A 57).getD (ix x1) 0)), (3, .int (nI 0))] [] m K else K (some (.int (nI 3))) m)) : WP d 180 [.ref 42, .int x1] m K := by
  have e_0 : sm_lk (lv_args 0 [.ref 42, .int x1]) 0 = some (.ref 42) := rfl
  have e_1 : sm_lk (lv_args 0 [.ref 42, .int x1]) 1 = some (.int x1) := rfl
  show sm_wp d 180 0 (lv_args 0 [.ref 42, .int x1]) [] (hp m) (WQ K)
  generalize lv_args 0 [.ref 42, .int x1] = lv0 at *
  refine wl_ald_n (pc' := 1) rfl e_0 rfl ?_
  refine wp_get (v := .int (m.F 42 22)) (pc' := 4) rfl (hq_42 _) rfl rfl ?_
  refine wl_ald_n (pc' := 5) rfl e_0 rfl ?_
  refine wp_get (v := .ref 56) (pc' := 8) rfl (hq_42 _) rfl rfl ?_
  refine wl_ild_n (pc' := 9) rfl e_1 rfl ?_
  obtain ⟨k1, k⟩ := k
  refine wl_iaload (g := m.A 56) (pc' := 10) rfl (hq_56 _) k1 rfl ?_
  refine wp_ic_eq (pc' := 13) rfl rfl (fun c2 => ?_) (fun c2 => ?_)
  · replace k := it_t (c := (m.F 42 22) = ((m.A 56).getD (ix x1) 0)) c2 k
    refine wl_ald_n (pc' := 16) rfl e_0 rfl ?_
    refine wp_get (v := .ref 57) (pc' := 19) rfl (hq_42 _) rfl rfl ?_
    refine wl_ild_n (pc' := 20) rfl e_1 rfl ?_
    obtain ⟨k3, k⟩ := k
    refine wl_iaload (g := m.A 57) (pc' := 21) rfl (hq_57 _) k3 rfl ?_
    refine wl_st1 (pc' := 22) (k0 := 2) (v := .int ((m.A 57).getD (ix x1) 0)) (r := []) rfl rfl (fun lv4 e5 f6 => ?_)
    have e7 := f6 0 _ e_0 (by decide) rfl
    have e8 := f6 1 _ e_1 (by decide) rfl
    refine wp_p (pc' := 23) (lv' := lv4) (st' := [.int (nI 0)]) rfl rfl ?_
    refine wl_st1 (pc' := 24) (k0 := 3) (v := .int (nI 0)) (r := []) rfl rfl (fun lv9 e10 f11 => ?_)
    have e12 := f11 0 _ e7 (by decide) rfl
    have e13 := f11 1 _ e8 (by decide) rfl
    have e14 := f11 2 _ e5 (by decide) rfl
    exact k _ ⟨e12, e13, e14, e10, trivial⟩
  · replace k := it_f (c := (m.F 42 22) = ((m.A 56).getD (ix x1) 0)) c2 k
    refine wp_p (pc' := 14) (lv' := lv0) (st' := [.int (nI 3)]) rfl rfl ?_
    exact wl_ret rfl rfl ⟨_, rfl, k⟩
set_option maxRecDepth 20000 in
theorem sg_180_24 {d : Nat} {m : Mm} {K : Option Value → Mm → Prop} (x1 : Int32) (x2 : Int32) (x3 : Int32) (k : (if (m.F 42 22) ≤ x3 then ok (m.B 62).length (nI 0) ∧ (if (lg_cmp ((m.B 62).getD (ix (nI 0)) 0) 1099511627776) = (nI 0) then WH (d + 1) 180 82 [(0, .ref 42), (1, .int x1), (2, .int x2), (3, .int (nI 1)), (4, .int (nI 0))] [] m K else WH (d + 1) 180 82 [(0, .ref 42), (1, .int x1), (2, .int x2), (3, .int (nI 0)), (4, .int (nI 0))] [] m K) else ok (m.A 51).length x3 ∧ ok (m.A 52).length x3 ∧ WP d 167 [.ref 42, .int ((m.A 51).getD (ix x3) 0), .int ((m.A 52).getD (ix x3) 0)] m (fun v m32 => ∃ w33, v = some (.long w33) ∧ ok (m32.B 62).length x3 ∧ WH (d + 1) 180 24 [(0, .ref 42), (1, .int x1), (2, .int x2), (3, .int (x3 + nI 1))] [] (m32.uB 62 ((m32.B 62).set (ix x3) w33)) K))) : WH (d + 1) 180 24 [(0, .ref 42), (1, .int x1), (2, .int x2), (3, .int x3)] [] m K := by
  intro lv0 el
  obtain ⟨e_0, e_1, e_2, e_3, _⟩ := el
  refine wl_ild_n (pc' := 25) rfl e_3 rfl ?_
  refine wl_ald_n (pc' := 26) rfl e_0 rfl ?_
  refine wp_get (v := .int (m.F 42 22)) (pc' := 29) rfl (hq_42 _) rfl rfl ?_
  refine wp_ic_ge (pc' := 32) rfl rfl (fun c1 => ?_) (fun c1 => ?_)
  · replace k := it_t (c := (m.F 42 22) ≤ x3) c1 k
    refine wl_ald_n (pc' := 61) rfl e_0 rfl ?_
    refine wp_get (v := .ref 62) (pc' := 64) rfl (hq_42 _) rfl rfl ?_
    refine wp_p (pc' := 65) (lv' := lv0) (st' := [.int (nI 0), .ref 62]) rfl rfl ?_
    obtain ⟨k2, k⟩ := k
    refine wl_laload (g := m.B 62) (pc' := 66) rfl (hq_62 _) k2 rfl ?_
    refine wp_p (pc' := 69) (lv' := lv0) (st' := [.long 1099511627776, .long ((m.B 62).getD (ix (nI 0)) 0)]) rfl rfl ?_
    refine wp_lcmp (v := lg_cmp ((m.B 62).getD (ix (nI 0)) 0) 1099511627776) (pc' := 70) rfl rfl rfl ?_
    refine wp_if_ne (pc' := 73) rfl rfl (fun c3 => ?_) (fun c3 => ?_)
    · replace k := it_f (c := (lg_cmp ((m.B 62).getD (ix (nI 0)) 0) 1099511627776) = (nI 0)) c3 k
      refine wp_p (pc' := 78) (lv' := lv0) (st' := [.int (nI 0)]) rfl rfl ?_
      refine wl_st1 (pc' := 79) (k0 := 3) (v := .int (nI 0)) (r := []) rfl rfl (fun lv4 e5 f6 => ?_)
      have e7 := f6 0 _ e_0 (by decide) rfl
      have e8 := f6 1 _ e_1 (by decide) rfl
      have e9 := f6 2 _ e_2 (by decide) rfl
      refine wp_p (pc' := 80) (lv' := lv4) (st' := [.int (nI 0)]) rfl rfl ?_
      refine wl_st1 (pc' := 82) (k0 := 4) (v := .int (nI 0)) (r := []) rfl rfl (fun lv10 e11 f12 => ?_)
      have e13 := f12 0 _ e7 (by decide) rfl
      have e14 := f12 1 _ e8 (by decide) rfl
      have e15 := f12 2 _ e9 (by decide) rfl
      have e16 := f12 3 _ e5 (by decide) rfl
      exact k _ ⟨e13, e14, e15, e16, e11, trivial⟩
    · replace k := it_t (c := (lg_cmp ((m.B 62).getD (ix (nI 0)) 0) 1099511627776) = (nI 0)) c3 k
      refine wp_p (pc' := 74) (lv' := lv0) (st' := [.int (nI 1)]) rfl rfl ?_
      refine wp_p (pc' := 78) (lv' := lv0) (st' := [.int (nI 1)]) rfl rfl ?_
      refine wl_st1 (pc' := 79) (k0 := 3) (v := .int (nI 1)) (r := []) rfl rfl (fun lv17 e18 f19 => ?_)
      have e20 := f19 0 _ e_0 (by decide) rfl
      have e21 := f19 1 _ e_1 (by decide) rfl
      have e22 := f19 2 _ e_2 (by decide) rfl
      refine wp_p (pc' := 80) (lv' := lv17) (st' := [.int (nI 0)]) rfl rfl ?_
      refine wl_st1 (pc' := 82) (k0 := 4) (v := .int (nI 0)) (r := []) rfl rfl (fun lv23 e24 f25 => ?_)
      have e26 := f25 0 _ e20 (by decide) rfl
      have e27 := f25 1 _ e21 (by decide) rfl
      have e28 := f25 2 _ e22 (by decide) rfl
      have e29 := f25 3 _ e18 (by decide) rfl
      exact k _ ⟨e26, e27, e28, e29, e24, trivial⟩
  · replace k := it_f (c := (m.F 42 22) ≤ x3) c1 k
    refine wl_ald_n (pc' := 33) rfl e_0 rfl ?_
    refine wp_get (v := .ref 62) (pc' := 36) rfl (hq_42 _) rfl rfl ?_
    refine wl_ild_n (pc' := 37) rfl e_3 rfl ?_
    refine wl_ald_n (pc' := 38) rfl e_0 rfl ?_
    refine wl_ald_n (pc' := 39) rfl e_0 rfl ?_
    refine wp_get (v := .ref 51) (pc' := 42) rfl (hq_42 _) rfl rfl ?_
    refine wl_ild_n (pc' := 43) rfl e_3 rfl ?_
    obtain ⟨k30, k⟩ := k
    refine wl_iaload (g := m.A 51) (pc' := 44) rfl (hq_51 _) k30 rfl ?_
    refine wl_ald_n (pc' := 45) rfl e_0 rfl ?_
    refine wp_get (v := .ref 52) (pc' := 48) rfl (hq_42 _) rfl rfl ?_
    refine wl_ild_n (pc' := 49) rfl e_3 rfl ?_
    obtain ⟨k31, k⟩ := k
    refine wl_iaload (g := m.A 52) (pc' := 50) rfl (hq_52 _) k31 rfl ?_
    refine wl_cv (As := [.ref 42, .int ((m.A 51).getD (ix x3) 0), .int ((m.A 52).getD (ix x3) 0)]) (r := [.int x3, .ref 62]) (pc' := 53) rfl rfl rfl k ?_
    rintro _ m32 ⟨w33, rfl, k⟩
    show sm_wp (d + 1) 180 53 lv0 [.long w33, .int x3, .ref 62] (hp m32) (WQ K)
    obtain ⟨k34, k⟩ := k
    refine wl_lastore (g := m32.B 62) (pc' := 54) (h2 := hp (m32.uB 62 ((m32.B 62).set (ix x3) w33))) rfl (hq_62 _) k34 rfl (pa_62 _ _) ?_
    refine wl_iinc (pc' := 57) (v := x3 + nI 1) rfl e_3 rfl rfl rfl (fun lv35 e36 f37 => ?_)
    have e38 := f37 0 _ e_0 (by decide) rfl
    have e39 := f37 1 _ e_1 (by decide) rfl
    have e40 := f37 2 _ e_2 (by decide) rfl
    refine wp_p (pc' := 24) (lv' := lv35) (st' := []) rfl rfl ?_
    exact k _ ⟨e38, e39, e40, e36, trivial⟩
set_option maxRecDepth 20000 in
theorem sg_180_82 {d : Nat} {m : Mm} {K : Option Value → Mm → Prop} (x1 : Int32) (x2 : Int32) (x3 : Int32) (x4 : Int32) (k : (if x2 ≤ x4 then (if x3 = (nI 0) then (if x2 = (nI 20) then K (some (.int (nI 5))) m else WH d 180 145 [(0, .ref 42), (1, .int x1), (2, .int x2), (4, .int (nI 0))] [] m K) else K (some (.int (nI 4))) m) else (if x3 = (nI 0) then ok (m.B 58).length (((nI 80) * x1) + ((nI 4) * x4)) ∧ ok (m.B 62).length (nI 0) ∧ (if (lg_cmp ((m.B 58).getD (ix (((nI 80) * x1) + ((nI 4) * x4))) 0) ((m.B 62).getD (ix (nI 0)) 0)) = (nI 0) then WH d 180 82 [(0, .ref 42), (1, .int x1), (2, .int x2), (3, .int (nI 1)), (4, .int (x4 + nI 1))] [] m K else WH d 180 82 [(0, .ref 42), (1, .int x1), (2, .int x2), (3, .int (nI 0)), (4, .int (x4 + nI 1))] [] m K) else WH d 180 82 [(0, .ref 42), (1, .int x1), (2, .int x2), (3, .int (nI 1)), (4, .int (x4 + nI 1))] [] m K))) : WH d 180 82 [(0, .ref 42), (1, .int x1), (2, .int x2), (3, .int x3), (4, .int x4)] [] m K := by
  intro lv0 el
  obtain ⟨e_0, e_1, e_2, e_3, e_4, _⟩ := el
  refine wl_ild (pc' := 84) rfl e_4 rfl ?_
  refine wl_ild_n (pc' := 85) rfl e_2 rfl ?_
  refine wp_ic_ge (pc' := 88) rfl rfl (fun c1 => ?_) (fun c1 => ?_)
  · replace k := it_t (c := x2 ≤ x4) c1 k
    refine wl_ild_n (pc' := 129) rfl e_3 rfl ?_
    refine wp_if_eq (pc' := 132) rfl rfl (fun c2 => ?_) (fun c2 => ?_)
    · replace k := it_t (c := x3 = (nI 0)) c2 k
      refine wl_ild_n (pc' := 135) rfl e_2 rfl ?_
      refine wp_p (pc' := 137) (lv' := lv0) (st' := [.int (nI 20), .int x2]) rfl rfl ?_
      refine wp_ic_ne (pc' := 140) rfl rfl (fun c3 => ?_) (fun c3 => ?_)
      · replace k := it_f (c := x2 = (nI 20)) c3 k
        refine wp_p (pc' := 143) (lv' := lv0) (st' := [.int (nI 0)]) rfl rfl ?_
        refine wl_st1 (pc' := 145) (k0 := 4) (v := .int (nI 0)) (r := []) rfl rfl (fun lv4 e5 f6 => ?_)
        have e7 := f6 0 _ e_0 (by decide) rfl
        have e8 := f6 1 _ e_1 (by decide) rfl
        have e9 := f6 2 _ e_2 (by decide) rfl
        have e10 := f6 3 _ e_3 (by decide) rfl
        exact k _ ⟨e7, e8, e9, e5, trivial⟩
      · replace k := it_t (c := x2 = (nI 20)) c3 k
        refine wp_p (pc' := 141) (lv' := lv0) (st' := [.int (nI 5)]) rfl rfl ?_
        exact wl_ret rfl rfl ⟨_, rfl, k⟩
    · replace k := it_f (c := x3 = (nI 0)) c2 k
      refine wp_p (pc' := 133) (lv' := lv0) (st' := [.int (nI 4)]) rfl rfl ?_
      exact wl_ret rfl rfl ⟨_, rfl, k⟩
  · replace k := it_f (c := x2 ≤ x4) c1 k
    refine wl_ild_n (pc' := 89) rfl e_3 rfl ?_
    refine wp_if_ne (pc' := 92) rfl rfl (fun c11 => ?_) (fun c11 => ?_)
    · replace k := it_f (c := x3 = (nI 0)) c11 k
      refine wp_p (pc' := 117) (lv' := lv0) (st' := [.int (nI 1)]) rfl rfl ?_
      refine wp_p (pc' := 121) (lv' := lv0) (st' := [.int (nI 1)]) rfl rfl ?_
      refine wl_st1 (pc' := 122) (k0 := 3) (v := .int (nI 1)) (r := []) rfl rfl (fun lv12 e13 f14 => ?_)
      have e15 := f14 0 _ e_0 (by decide) rfl
      have e16 := f14 1 _ e_1 (by decide) rfl
      have e17 := f14 2 _ e_2 (by decide) rfl
      have e18 := f14 4 _ e_4 (by decide) rfl
      refine wl_iinc (pc' := 125) (v := x4 + nI 1) rfl e18 rfl rfl rfl (fun lv19 e20 f21 => ?_)
      have e22 := f21 0 _ e15 (by decide) rfl
      have e23 := f21 1 _ e16 (by decide) rfl
      have e24 := f21 2 _ e17 (by decide) rfl
      have e25 := f21 3 _ e13 (by decide) rfl
      refine wp_p (pc' := 82) (lv' := lv19) (st' := []) rfl rfl ?_
      exact k _ ⟨e22, e23, e24, e25, e20, trivial⟩
    · replace k := it_t (c := x3 = (nI 0)) c11 k
      refine wl_ald_n (pc' := 93) rfl e_0 rfl ?_
      refine wp_get (v := .ref 58) (pc' := 96) rfl (hq_42 _) rfl rfl ?_
      refine wp_p (pc' := 98) (lv' := lv0) (st' := [.int (nI 80), .ref 58]) rfl rfl ?_
      refine wl_ild_n (pc' := 99) rfl e_1 rfl ?_
      refine wp_imul (v := (nI 80) * x1) (pc' := 100) rfl rfl rfl ?_
      refine wp_p (pc' := 101) (lv' := lv0) (st' := [.int (nI 4), .int ((nI 80) * x1), .ref 58]) rfl rfl ?_
      refine wl_ild (pc' := 103) rfl e_4 rfl ?_
      refine wp_imul (v := (nI 4) * x4) (pc' := 104) rfl rfl rfl ?_
      refine wp_iadd (v := ((nI 80) * x1) + ((nI 4) * x4)) (pc' := 105) rfl rfl rfl ?_
      obtain ⟨k26, k⟩ := k
      refine wl_laload (g := m.B 58) (pc' := 106) rfl (hq_58 _) k26 rfl ?_
      refine wl_ald_n (pc' := 107) rfl e_0 rfl ?_
      refine wp_get (v := .ref 62) (pc' := 110) rfl (hq_42 _) rfl rfl ?_
      refine wp_p (pc' := 111) (lv' := lv0) (st' := [.int (nI 0), .ref 62, .long ((m.B 58).getD (ix (((nI 80) * x1) + ((nI 4) * x4))) 0)]) rfl rfl ?_
      obtain ⟨k27, k⟩ := k
      refine wl_laload (g := m.B 62) (pc' := 112) rfl (hq_62 _) k27 rfl ?_
      refine wp_lcmp (v := lg_cmp ((m.B 58).getD (ix (((nI 80) * x1) + ((nI 4) * x4))) 0) ((m.B 62).getD (ix (nI 0)) 0)) (pc' := 113) rfl rfl rfl ?_
      refine wp_if_ne (pc' := 116) rfl rfl (fun c28 => ?_) (fun c28 => ?_)
      · replace k := it_f (c := (lg_cmp ((m.B 58).getD (ix (((nI 80) * x1) + ((nI 4) * x4))) 0) ((m.B 62).getD (ix (nI 0)) 0)) = (nI 0)) c28 k
        refine wp_p (pc' := 121) (lv' := lv0) (st' := [.int (nI 0)]) rfl rfl ?_
        refine wl_st1 (pc' := 122) (k0 := 3) (v := .int (nI 0)) (r := []) rfl rfl (fun lv29 e30 f31 => ?_)
        have e32 := f31 0 _ e_0 (by decide) rfl
        have e33 := f31 1 _ e_1 (by decide) rfl
        have e34 := f31 2 _ e_2 (by decide) rfl
        have e35 := f31 4 _ e_4 (by decide) rfl
        refine wl_iinc (pc' := 125) (v := x4 + nI 1) rfl e35 rfl rfl rfl (fun lv36 e37 f38 => ?_)
        have e39 := f38 0 _ e32 (by decide) rfl
        have e40 := f38 1 _ e33 (by decide) rfl
        have e41 := f38 2 _ e34 (by decide) rfl
        have e42 := f38 3 _ e30 (by decide) rfl
        refine wp_p (pc' := 82) (lv' := lv36) (st' := []) rfl rfl ?_
        exact k _ ⟨e39, e40, e41, e42, e37, trivial⟩
      · replace k := it_t (c := (lg_cmp ((m.B 58).getD (ix (((nI 80) * x1) + ((nI 4) * x4))) 0) ((m.B 62).getD (ix (nI 0)) 0)) = (nI 0)) c28 k
        refine wp_p (pc' := 117) (lv' := lv0) (st' := [.int (nI 1)]) rfl rfl ?_
        refine wp_p (pc' := 121) (lv' := lv0) (st' := [.int (nI 1)]) rfl rfl ?_
        refine wl_st1 (pc' := 122) (k0 := 3) (v := .int (nI 1)) (r := []) rfl rfl (fun lv43 e44 f45 => ?_)
        have e46 := f45 0 _ e_0 (by decide) rfl
        have e47 := f45 1 _ e_1 (by decide) rfl
        have e48 := f45 2 _ e_2 (by decide) rfl
        have e49 := f45 4 _ e_4 (by decide) rfl
        refine wl_iinc (pc' := 125) (v := x4 + nI 1) rfl e49 rfl rfl rfl (fun lv50 e51 f52 => ?_)
        have e53 := f52 0 _ e46 (by decide) rfl
        have e54 := f52 1 _ e47 (by decide) rfl
        have e55 := f52 2 _ e48 (by decide) rfl
        have e56 := f52 3 _ e44 (by decide) rfl
        refine wp_p (pc' := 82) (lv' := lv50) (st' := []) rfl rfl ?_
        exact k _ ⟨e53, e54, e55, e56, e51, trivial⟩
set_option maxRecDepth 20000 in
theorem sg_180_145 {d : Nat} {m : Mm} {K : Option Value → Mm → Prop} (x1 : Int32) (x2 : Int32) (x4 : Int32) (k : (if (m.F 42 22) ≤ x4 then ok (m.A 57).length x1 ∧ ok (m.A 57).length x1 ∧ K (some (.int (nI 0))) ((m.uA 57 ((m.A 57).set (ix x1) (((m.A 57).getD (ix x1) 0) + (nI 1)))).uF 42 53 (nI 1)) else ok (m.B 62).length x4 ∧ ok (m.B 58).length ((((nI 80) * x1) + ((nI 4) * x2)) + x4) ∧ WH d 180 145 [(0, .ref 42), (1, .int x1), (2, .int x2), (4, .int (x4 + nI 1))] [] (m.uB 58 ((m.B 58).set (ix ((((nI 80) * x1) + ((nI 4) * x2)) + x4)) ((m.B 62).getD (ix x4) 0))) K)) : WH d 180 145 [(0, .ref 42), (1, .int x1), (2, .int x2), (4, .int x4)] [] m K := by
  intro lv0 el
  obtain ⟨e_0, e_1, e_2, e_4, _⟩ := el
  refine wl_ild (pc' := 147) rfl e_4 rfl ?_
  refine wl_ald_n (pc' := 148) rfl e_0 rfl ?_
  refine wp_get (v := .int (m.F 42 22)) (pc' := 151) rfl (hq_42 _) rfl rfl ?_
  refine wp_ic_ge (pc' := 154) rfl rfl (fun c1 => ?_) (fun c1 => ?_)
  · replace k := it_t (c := (m.F 42 22) ≤ x4) c1 k
    refine wl_ald_n (pc' := 184) rfl e_0 rfl ?_
    refine wp_get (v := .ref 57) (pc' := 187) rfl (hq_42 _) rfl rfl ?_
    refine wl_ild_n (pc' := 188) rfl e_1 rfl ?_
    refine wp_p (pc' := 189) (lv' := lv0) (st' := [.int x1, .ref 57, .int x1, .ref 57]) rfl rfl ?_
    obtain ⟨k2, k⟩ := k
    refine wl_iaload (g := m.A 57) (pc' := 190) rfl (hq_57 _) k2 rfl ?_
    refine wp_p (pc' := 191) (lv' := lv0) (st' := [.int (nI 1), .int ((m.A 57).getD (ix x1) 0), .int x1, .ref 57]) rfl rfl ?_
    refine wp_iadd (v := ((m.A 57).getD (ix x1) 0) + (nI 1)) (pc' := 192) rfl rfl rfl ?_
    obtain ⟨k3, k⟩ := k
    refine wl_iastore (g := m.A 57) (pc' := 193) (h2 := hp (m.uA 57 ((m.A 57).set (ix x1) (((m.A 57).getD (ix x1) 0) + (nI 1))))) rfl (hq_57 _) k3 rfl (pa_57 _ _) ?_
    refine wl_ald_n (pc' := 194) rfl e_0 rfl ?_
    refine wp_p (pc' := 195) (lv' := lv0) (st' := [.int (nI 1), .ref 42]) rfl rfl ?_
    refine wl_put (pc' := 198) (h2 := hp ((m.uA 57 ((m.A 57).set (ix x1) (((m.A 57).getD (ix x1) 0) + (nI 1)))).uF 42 53 (nI 1))) rfl (hq_42 _) rfl rfl rfl (pf_42_53 _ _) ?_
    refine wp_p (pc' := 199) (lv' := lv0) (st' := [.int (nI 0)]) rfl rfl ?_
    exact wl_ret rfl rfl ⟨_, rfl, k⟩
  · replace k := it_f (c := (m.F 42 22) ≤ x4) c1 k
    refine wl_ald_n (pc' := 155) rfl e_0 rfl ?_
    refine wp_get (v := .ref 58) (pc' := 158) rfl (hq_42 _) rfl rfl ?_
    refine wp_p (pc' := 160) (lv' := lv0) (st' := [.int (nI 80), .ref 58]) rfl rfl ?_
    refine wl_ild_n (pc' := 161) rfl e_1 rfl ?_
    refine wp_imul (v := (nI 80) * x1) (pc' := 162) rfl rfl rfl ?_
    refine wp_p (pc' := 163) (lv' := lv0) (st' := [.int (nI 4), .int ((nI 80) * x1), .ref 58]) rfl rfl ?_
    refine wl_ild_n (pc' := 164) rfl e_2 rfl ?_
    refine wp_imul (v := (nI 4) * x2) (pc' := 165) rfl rfl rfl ?_
    refine wp_iadd (v := ((nI 80) * x1) + ((nI 4) * x2)) (pc' := 166) rfl rfl rfl ?_
    refine wl_ild (pc' := 168) rfl e_4 rfl ?_
    refine wp_iadd (v := (((nI 80) * x1) + ((nI 4) * x2)) + x4) (pc' := 169) rfl rfl rfl ?_
    refine wl_ald_n (pc' := 170) rfl e_0 rfl ?_
    refine wp_get (v := .ref 62) (pc' := 173) rfl (hq_42 _) rfl rfl ?_
    refine wl_ild (pc' := 175) rfl e_4 rfl ?_
    obtain ⟨k4, k⟩ := k
    refine wl_laload (g := m.B 62) (pc' := 176) rfl (hq_62 _) k4 rfl ?_
    obtain ⟨k5, k⟩ := k
    refine wl_lastore (g := m.B 58) (pc' := 177) (h2 := hp (m.uB 58 ((m.B 58).set (ix ((((nI 80) * x1) + ((nI 4) * x2)) + x4)) ((m.B 62).getD (ix x4) 0)))) rfl (hq_58 _) k5 rfl (pa_58 _ _) ?_
    refine wl_iinc (pc' := 180) (v := x4 + nI 1) rfl e_4 rfl rfl rfl (fun lv6 e7 f8 => ?_)
    have e9 := f8 0 _ e_0 (by decide) rfl
    have e10 := f8 1 _ e_1 (by decide) rfl
    have e11 := f8 2 _ e_2 (by decide) rfl
    refine wp_p (pc' := 145) (lv' := lv6) (st' := []) rfl rfl ?_
    exact k _ ⟨e9, e10, e11, e7, trivial⟩
/-! 181: QueryTablesModel.mark -/
set_option maxRecDepth 20000 in
theorem sp_181 {d : Nat} {m : Mm} {K : Option Value → Mm → Prop} (x1 : Int32) (k : WH d 181 2 [(0, .ref 42), (1, .int x1), (2, .int (nI 0))] [] m K) : WP d 181 [.ref 42, .int x1] m K := by
  have e_0 : sm_lk (lv_args 0 [.ref 42, .int x1]) 0 = some (.ref 42) := rfl
  have e_1 : sm_lk (lv_args 0 [.ref 42, .int x1]) 1 = some (.int x1) := rfl
  show sm_wp d 181 0 (lv_args 0 [.ref 42, .int x1]) [] (hp m) (WQ K)
  generalize lv_args 0 [.ref 42, .int x1] = lv0 at *
  refine wp_p (pc' := 1) (lv' := lv0) (st' := [.int (nI 0)]) rfl rfl ?_
  refine wl_st1 (pc' := 2) (k0 := 2) (v := .int (nI 0)) (r := []) rfl rfl (fun lv1 e2 f3 => ?_)
  have e4 := f3 0 _ e_0 (by decide) rfl
  have e5 := f3 1 _ e_1 (by decide) rfl
  exact k _ ⟨e4, e5, e2, trivial⟩
set_option maxRecDepth 20000 in
theorem sg_181_2 {d : Nat} {m : Mm} {K : Option Value → Mm → Prop} (x1 : Int32) (x2 : Int32) (k : ok (m.A 57).length x1 ∧ (if ((m.A 57).getD (ix x1) 0) ≤ x2 then K none m else ok (m.A 60).length x1 ∧ WP d 169 [.ref 42] (m.uA 60 ((m.A 60).set (ix x1) x2)) (fun v m4 => ∃ w5, v = some (.int w5) ∧ ok (m4.A 63).length x2 ∧ ok (m4.B 58).length ((((nI 80) * x1) + ((nI 4) * x2)) + ((m4.F 42 20) - (m4.F 42 20) / (nI 4) * (nI 4))) ∧ ok (m4.B 62).length x2 ∧ ok ((m4.A 63).set (ix x2) (vp_nar .boolean w5)).length x2 ∧ (if (((m4.A 63).set (ix x2) (vp_nar .boolean w5)).getD (ix x2) 0) = (nI 0) then WH (d + 1) 181 2 [(0, .ref 42), (1, .int x1), (2, .int (x2 + nI 1))] [] ((m4.uA 63 ((m4.A 63).set (ix x2) (vp_nar .boolean w5))).uB 62 ((m4.B 62).set (ix x2) ((m4.B 58).getD (ix ((((nI 80) * x1) + ((nI 4) * x2)) + ((m4.F 42 20) - (m4.F 42 20) / (nI 4) * (nI 4)))) 0))) K else (if (m4.F 42 22) ≤ (nI 0) then WH (d + 1) 181 2 [(0, .ref 42), (1, .int x1), (2, .int (x2 + nI 1))] [] ((m4.uA 63 ((m4.A 63).set (ix x2) (vp_nar .boolean w5))).uB 62 ((m4.B 62).set (ix x2) ((m4.B 58).getD (ix ((((nI 80) * x1) + ((nI 4) * x2)) + ((m4.F 42 20) - (m4.F 42 20) / (nI 4) * (nI 4)))) 0))) K else ok (m4.A 51).length (nI 0) ∧ ok (m4.A 52).length (nI 0) ∧ WP d 167 [.ref 42, .int ((m4.A 51).getD (ix (nI 0)) 0), .int ((m4.A 52).getD (ix (nI 0)) 0)] ((m4.uA 63 ((m4.A 63).set (ix x2) (vp_nar .boolean w5))).uB 62 ((m4.B 62).set (ix x2) ((m4.B 58).getD (ix ((((nI 80) * x1) + ((nI 4) * x2)) + ((m4.F 42 20) - (m4.F 42 20) / (nI 4) * (nI 4)))) 0))) (fun v m24 => ∃ w25, v = some (.long w25) ∧ ok (m24.B 62).length x2 ∧ WH (d + 1) 181 2 [(0, .ref 42), (1, .int x1), (2, .int (x2 + nI 1))] [] (m24.uB 62 ((m24.B 62).set (ix x2) w25)) K)))))) : WH (d + 1) 181 2 [(0, .ref 42), (1, .int x1), (2, .int x2)] [] m K := by
  intro lv0 el
  obtain ⟨e_0, e_1, e_2, _⟩ := el
  refine wl_ild_n (pc' := 3) rfl e_2 rfl ?_
  refine wl_ald_n (pc' := 4) rfl e_0 rfl ?_
  refine wp_get (v := .ref 57) (pc' := 7) rfl (hq_42 _) rfl rfl ?_
  refine wl_ild_n (pc' := 8) rfl e_1 rfl ?_
  obtain ⟨k1, k⟩ := k
  refine wl_iaload (g := m.A 57) (pc' := 9) rfl (hq_57 _) k1 rfl ?_
  refine wp_ic_ge (pc' := 12) rfl rfl (fun c2 => ?_) (fun c2 => ?_)
  · replace k := it_t (c := ((m.A 57).getD (ix x1) 0) ≤ x2) c2 k
    exact wp_r rfl rfl ⟨_, rfl, k⟩
  · replace k := it_f (c := ((m.A 57).getD (ix x1) 0) ≤ x2) c2 k
    refine wl_ald_n (pc' := 13) rfl e_0 rfl ?_
    refine wp_get (v := .ref 60) (pc' := 16) rfl (hq_42 _) rfl rfl ?_
    refine wl_ild_n (pc' := 17) rfl e_1 rfl ?_
    refine wl_ild_n (pc' := 18) rfl e_2 rfl ?_
    obtain ⟨k3, k⟩ := k
    refine wl_iastore (g := m.A 60) (pc' := 19) (h2 := hp (m.uA 60 ((m.A 60).set (ix x1) x2))) rfl (hq_60 _) k3 rfl (pa_60 _ _) ?_
    refine wl_ald_n (pc' := 20) rfl e_0 rfl ?_
    refine wp_get (v := .ref 63) (pc' := 23) rfl (hq_42 _) rfl rfl ?_
    refine wl_ild_n (pc' := 24) rfl e_2 rfl ?_
    refine wl_ald_n (pc' := 25) rfl e_0 rfl ?_
    refine wl_cv (As := [.ref 42]) (r := [.int x2, .ref 63]) (pc' := 28) rfl rfl rfl k ?_
    rintro _ m4 ⟨w5, rfl, k⟩
    show sm_wp (d + 1) 181 28 lv0 [.int w5, .int x2, .ref 63] (hp m4) (WQ K)
    obtain ⟨k6, k⟩ := k
    refine wl_bastore (g := m4.A 63) (pc' := 29) (h2 := hp (m4.uA 63 ((m4.A 63).set (ix x2) (vp_nar .boolean w5)))) rfl (hq_63 _) k6 rfl (pa_63 _ _) ?_
    refine wl_ald_n (pc' := 30) rfl e_0 rfl ?_
    refine wp_get (v := .ref 62) (pc' := 33) rfl (hq_42 _) rfl rfl ?_
    refine wl_ild_n (pc' := 34) rfl e_2 rfl ?_
    refine wl_ald_n (pc' := 35) rfl e_0 rfl ?_
    refine wp_get (v := .ref 58) (pc' := 38) rfl (hq_42 _) rfl rfl ?_
    refine wp_p (pc' := 40) (lv' := lv0) (st' := [.int (nI 80), .ref 58, .int x2, .ref 62]) rfl rfl ?_
    refine wl_ild_n (pc' := 41) rfl e_1 rfl ?_
    refine wp_imul (v := (nI 80) * x1) (pc' := 42) rfl rfl rfl ?_
    refine wp_p (pc' := 43) (lv' := lv0) (st' := [.int (nI 4), .int ((nI 80) * x1), .ref 58, .int x2, .ref 62]) rfl rfl ?_
    refine wl_ild_n (pc' := 44) rfl e_2 rfl ?_
    refine wp_imul (v := (nI 4) * x2) (pc' := 45) rfl rfl rfl ?_
    refine wp_iadd (v := ((nI 80) * x1) + ((nI 4) * x2)) (pc' := 46) rfl rfl rfl ?_
    refine wl_ald_n (pc' := 47) rfl e_0 rfl ?_
    refine wp_get (v := .int (m4.F 42 20)) (pc' := 50) rfl (hq_42 _) rfl rfl ?_
    refine wp_p (pc' := 51) (lv' := lv0) (st' := [.int (nI 4), .int (m4.F 42 20), .int (((nI 80) * x1) + ((nI 4) * x2)), .ref 58, .int x2, .ref 62]) rfl rfl ?_
    refine wp_irem (v := (m4.F 42 20) - (m4.F 42 20) / (nI 4) * (nI 4)) (pc' := 52) rfl (by decide) rfl rfl ?_
    refine wp_iadd (v := (((nI 80) * x1) + ((nI 4) * x2)) + ((m4.F 42 20) - (m4.F 42 20) / (nI 4) * (nI 4))) (pc' := 53) rfl rfl rfl ?_
    obtain ⟨k7, k⟩ := k
    refine wl_laload (g := m4.B 58) (pc' := 54) rfl (hq_58 _) k7 rfl ?_
    obtain ⟨k8, k⟩ := k
    refine wl_lastore (g := m4.B 62) (pc' := 55) (h2 := hp ((m4.uA 63 ((m4.A 63).set (ix x2) (vp_nar .boolean w5))).uB 62 ((m4.B 62).set (ix x2) ((m4.B 58).getD (ix ((((nI 80) * x1) + ((nI 4) * x2)) + ((m4.F 42 20) - (m4.F 42 20) / (nI 4) * (nI 4)))) 0)))) rfl (hq_62 _) k8 rfl (pa_62 _ _) ?_
    refine wl_ald_n (pc' := 56) rfl e_0 rfl ?_
    refine wp_get (v := .ref 63) (pc' := 59) rfl (hq_42 _) rfl rfl ?_
    refine wl_ild_n (pc' := 60) rfl e_2 rfl ?_
    obtain ⟨k9, k⟩ := k
    refine wl_baload (g := (m4.A 63).set (ix x2) (vp_nar .boolean w5)) (pc' := 61) rfl (hq_63 _) k9 rfl ?_
    refine wp_if_eq (pc' := 64) rfl rfl (fun c10 => ?_) (fun c10 => ?_)
    · replace k := it_t (c := (((m4.A 63).set (ix x2) (vp_nar .boolean w5)).getD (ix x2) 0) = (nI 0)) c10 k
      refine wl_iinc (pc' := 96) (v := x2 + nI 1) rfl e_2 rfl rfl rfl (fun lv11 e12 f13 => ?_)
      have e14 := f13 0 _ e_0 (by decide) rfl
      have e15 := f13 1 _ e_1 (by decide) rfl
      refine wp_p (pc' := 2) (lv' := lv11) (st' := []) rfl rfl ?_
      exact k _ ⟨e14, e15, e12, trivial⟩
    · replace k := it_f (c := (((m4.A 63).set (ix x2) (vp_nar .boolean w5)).getD (ix x2) 0) = (nI 0)) c10 k
      refine wl_ald_n (pc' := 65) rfl e_0 rfl ?_
      refine wp_get (v := .int (m4.F 42 22)) (pc' := 68) rfl (hq_42 _) rfl rfl ?_
      refine wp_if_le (pc' := 71) rfl rfl (fun c16 => ?_) (fun c16 => ?_)
      · replace k := it_t (c := (m4.F 42 22) ≤ (nI 0)) c16 k
        refine wl_iinc (pc' := 96) (v := x2 + nI 1) rfl e_2 rfl rfl rfl (fun lv17 e18 f19 => ?_)
        have e20 := f19 0 _ e_0 (by decide) rfl
        have e21 := f19 1 _ e_1 (by decide) rfl
        refine wp_p (pc' := 2) (lv' := lv17) (st' := []) rfl rfl ?_
        exact k _ ⟨e20, e21, e18, trivial⟩
      · replace k := it_f (c := (m4.F 42 22) ≤ (nI 0)) c16 k
        refine wl_ald_n (pc' := 72) rfl e_0 rfl ?_
        refine wp_get (v := .ref 62) (pc' := 75) rfl (hq_42 _) rfl rfl ?_
        refine wl_ild_n (pc' := 76) rfl e_2 rfl ?_
        refine wl_ald_n (pc' := 77) rfl e_0 rfl ?_
        refine wl_ald_n (pc' := 78) rfl e_0 rfl ?_
        refine wp_get (v := .ref 51) (pc' := 81) rfl (hq_42 _) rfl rfl ?_
        refine wp_p (pc' := 82) (lv' := lv0) (st' := [.int (nI 0), .ref 51, .ref 42, .int x2, .ref 62]) rfl rfl ?_
        obtain ⟨k22, k⟩ := k
        refine wl_iaload (g := m4.A 51) (pc' := 83) rfl (hq_51 _) k22 rfl ?_
        refine wl_ald_n (pc' := 84) rfl e_0 rfl ?_
        refine wp_get (v := .ref 52) (pc' := 87) rfl (hq_42 _) rfl rfl ?_
        refine wp_p (pc' := 88) (lv' := lv0) (st' := [.int (nI 0), .ref 52, .int ((m4.A 51).getD (ix (nI 0)) 0), .ref 42, .int x2, .ref 62]) rfl rfl ?_
        obtain ⟨k23, k⟩ := k
        refine wl_iaload (g := m4.A 52) (pc' := 89) rfl (hq_52 _) k23 rfl ?_
        refine wl_cv (As := [.ref 42, .int ((m4.A 51).getD (ix (nI 0)) 0), .int ((m4.A 52).getD (ix (nI 0)) 0)]) (r := [.int x2, .ref 62]) (pc' := 92) rfl rfl rfl k ?_
        rintro _ m24 ⟨w25, rfl, k⟩
        show sm_wp (d + 1) 181 92 lv0 [.long w25, .int x2, .ref 62] (hp m24) (WQ K)
        obtain ⟨k26, k⟩ := k
        refine wl_lastore (g := m24.B 62) (pc' := 93) (h2 := hp (m24.uB 62 ((m24.B 62).set (ix x2) w25))) rfl (hq_62 _) k26 rfl (pa_62 _ _) ?_
        refine wl_iinc (pc' := 96) (v := x2 + nI 1) rfl e_2 rfl rfl rfl (fun lv27 e28 f29 => ?_)
        have e30 := f29 0 _ e_0 (by decide) rfl
        have e31 := f29 1 _ e_1 (by decide) rfl
        refine wp_p (pc' := 2) (lv' := lv27) (st' := []) rfl rfl ?_
        exact k _ ⟨e30, e31, e28, trivial⟩
/-! 182: QueryTablesModel.update -/
set_option maxRecDepth 20000 in
theorem sp_182 {d : Nat} {m : Mm} {K : Option Value → Mm → Prop} (x1 : Int32) (k : WH d 182 7 [(0, .ref 42), (1, .int x1), (2, .int (nI 0)), (3, .int (nI 0)), (4, .int (nI 0))] [] m K) : WP d 182 [.ref 42, .int x1] m K := by
  have e_0 : sm_lk (lv_args 0 [.ref 42, .int x1]) 0 = some (.ref 42) := rfl
  have e_1 : sm_lk (lv_args 0 [.ref 42, .int x1]) 1 = some (.int x1) := rfl
  show sm_wp d 182 0 (lv_args 0 [.ref 42, .int x1]) [] (hp m) (WQ K)
  generalize lv_args 0 [.ref 42, .int x1] = lv0 at *
  refine wp_p (pc' := 1) (lv' := lv0) (st' := [.int (nI 0)]) rfl rfl ?_
  refine wl_st1 (pc' := 2) (k0 := 2) (v := .int (nI 0)) (r := []) rfl rfl (fun lv1 e2 f3 => ?_)
  have e4 := f3 0 _ e_0 (by decide) rfl
  have e5 := f3 1 _ e_1 (by decide) rfl
  refine wp_p (pc' := 3) (lv' := lv1) (st' := [.int (nI 0)]) rfl rfl ?_
  refine wl_st1 (pc' := 4) (k0 := 3) (v := .int (nI 0)) (r := []) rfl rfl (fun lv6 e7 f8 => ?_)
  have e9 := f8 0 _ e4 (by decide) rfl
  have e10 := f8 1 _ e5 (by decide) rfl
  have e11 := f8 2 _ e2 (by decide) rfl
  refine wp_p (pc' := 5) (lv' := lv6) (st' := [.int (nI 0)]) rfl rfl ?_
  refine wl_st1 (pc' := 7) (k0 := 4) (v := .int (nI 0)) (r := []) rfl rfl (fun lv12 e13 f14 => ?_)
  have e15 := f14 0 _ e9 (by decide) rfl
  have e16 := f14 1 _ e10 (by decide) rfl
  have e17 := f14 2 _ e11 (by decide) rfl
  have e18 := f14 3 _ e7 (by decide) rfl
  exact k _ ⟨e15, e16, e17, e18, e13, trivial⟩
set_option maxRecDepth 20000 in
theorem sg_182_7 {d : Nat} {m : Mm} {K : Option Value → Mm → Prop} (x1 : Int32) (x2 : Int32) (x3 : Int32) (x4 : Int32) (k : ok (m.A 57).length x1 ∧ (if ((m.A 57).getD (ix x1) 0) ≤ x4 then (if (m.F 42 20) = (nI 0) then (if x3 = (nI 0) then WP d 177 [.ref 42, .int x1] m (fun v m13 => v = none ∧ WH (d + 1) 182 131 [(0, .ref 42), (1, .int x1), (2, .int x2), (4, .int (nI 0))] [] m13 K) else K (some (.int (nI 4))) m) else WP d 177 [.ref 42, .int x1] m (fun v m4 => v = none ∧ WH (d + 1) 182 131 [(0, .ref 42), (1, .int x1), (2, .int x2), (4, .int (nI 0))] [] m4 K)) else ok (m.A 63).length x4 ∧ (if ((m.A 63).getD (ix x4) 0) = (nI 0) then (if x3 = (nI 0) then ok (m.B 62).length x4 ∧ (if (lg_cmp ((m.B 62).getD (ix x4) 0) 1099511627776) = (nI 0) then WH (d + 1) 182 63 [(0, .ref 42), (1, .int x1), (2, .int x2), (3, .int (nI 1)), (4, .int x4), (5, .int (nI 0))] [] m K else WH (d + 1) 182 63 [(0, .ref 42), (1, .int x1), (2, .int x2), (3, .int (nI 0)), (4, .int x4), (5, .int (nI 0))] [] m K) else WH (d + 1) 182 63 [(0, .ref 42), (1, .int x1), (2, .int x2), (3, .int (nI 1)), (4, .int x4), (5, .int (nI 0))] [] m K) else (if x3 = (nI 0) then ok (m.B 62).length x4 ∧ (if (lg_cmp ((m.B 62).getD (ix x4) 0) 1099511627776) = (nI 0) then WH (d + 1) 182 63 [(0, .ref 42), (1, .int x1), (2, .int (x2 + (nI 1))), (3, .int (nI 1)), (4, .int x4), (5, .int (nI 0))] [] m K else WH (d + 1) 182 63 [(0, .ref 42), (1, .int x1), (2, .int (x2 + (nI 1))), (3, .int (nI 0)), (4, .int x4), (5, .int (nI 0))] [] m K) else WH (d + 1) 182 63 [(0, .ref 42), (1, .int x1), (2, .int (x2 + (nI 1))), (3, .int (nI 1)), (4, .int x4), (5, .int (nI 0))] [] m K)))) : WH (d + 1) 182 7 [(0, .ref 42), (1, .int x1), (2, .int x2), (3, .int x3), (4, .int x4)] [] m K := by
  intro lv0 el
  obtain ⟨e_0, e_1, e_2, e_3, e_4, _⟩ := el
  refine wl_ild (pc' := 9) rfl e_4 rfl ?_
  refine wl_ald_n (pc' := 10) rfl e_0 rfl ?_
  refine wp_get (v := .ref 57) (pc' := 13) rfl (hq_42 _) rfl rfl ?_
  refine wl_ild_n (pc' := 14) rfl e_1 rfl ?_
  obtain ⟨k1, k⟩ := k
  refine wl_iaload (g := m.A 57) (pc' := 15) rfl (hq_57 _) k1 rfl ?_
  refine wp_ic_ge (pc' := 18) rfl rfl (fun c2 => ?_) (fun c2 => ?_)
  · replace k := it_t (c := ((m.A 57).getD (ix x1) 0) ≤ x4) c2 k
    refine wl_ald_n (pc' := 111) rfl e_0 rfl ?_
    refine wp_get (v := .int (m.F 42 20)) (pc' := 114) rfl (hq_42 _) rfl rfl ?_
    refine wp_if_ne (pc' := 117) rfl rfl (fun c3 => ?_) (fun c3 => ?_)
    · replace k := it_f (c := (m.F 42 20) = (nI 0)) c3 k
      refine wl_ald_n (pc' := 124) rfl e_0 rfl ?_
      refine wl_ild_n (pc' := 125) rfl e_1 rfl ?_
      refine wl_cv (As := [.ref 42, .int x1]) (r := []) (pc' := 128) rfl rfl rfl k ?_
      rintro _ m4 ⟨rfl, k⟩
      show sm_wp (d + 1) 182 128 lv0 [] (hp m4) (WQ K)
      refine wp_p (pc' := 129) (lv' := lv0) (st' := [.int (nI 0)]) rfl rfl ?_
      refine wl_st1 (pc' := 131) (k0 := 4) (v := .int (nI 0)) (r := []) rfl rfl (fun lv5 e6 f7 => ?_)
      have e8 := f7 0 _ e_0 (by decide) rfl
      have e9 := f7 1 _ e_1 (by decide) rfl
      have e10 := f7 2 _ e_2 (by decide) rfl
      have e11 := f7 3 _ e_3 (by decide) rfl
      exact k _ ⟨e8, e9, e10, e6, trivial⟩
    · replace k := it_t (c := (m.F 42 20) = (nI 0)) c3 k
      refine wl_ild_n (pc' := 118) rfl e_3 rfl ?_
      refine wp_if_eq (pc' := 121) rfl rfl (fun c12 => ?_) (fun c12 => ?_)
      · replace k := it_t (c := x3 = (nI 0)) c12 k
        refine wl_ald_n (pc' := 124) rfl e_0 rfl ?_
        refine wl_ild_n (pc' := 125) rfl e_1 rfl ?_
        refine wl_cv (As := [.ref 42, .int x1]) (r := []) (pc' := 128) rfl rfl rfl k ?_
        rintro _ m13 ⟨rfl, k⟩
        show sm_wp (d + 1) 182 128 lv0 [] (hp m13) (WQ K)
        refine wp_p (pc' := 129) (lv' := lv0) (st' := [.int (nI 0)]) rfl rfl ?_
        refine wl_st1 (pc' := 131) (k0 := 4) (v := .int (nI 0)) (r := []) rfl rfl (fun lv14 e15 f16 => ?_)
        have e17 := f16 0 _ e_0 (by decide) rfl
        have e18 := f16 1 _ e_1 (by decide) rfl
        have e19 := f16 2 _ e_2 (by decide) rfl
        have e20 := f16 3 _ e_3 (by decide) rfl
        exact k _ ⟨e17, e18, e19, e15, trivial⟩
      · replace k := it_f (c := x3 = (nI 0)) c12 k
        refine wp_p (pc' := 122) (lv' := lv0) (st' := [.int (nI 4)]) rfl rfl ?_
        exact wl_ret rfl rfl ⟨_, rfl, k⟩
  · replace k := it_f (c := ((m.A 57).getD (ix x1) 0) ≤ x4) c2 k
    refine wl_ald_n (pc' := 19) rfl e_0 rfl ?_
    refine wp_get (v := .ref 63) (pc' := 22) rfl (hq_42 _) rfl rfl ?_
    refine wl_ild (pc' := 24) rfl e_4 rfl ?_
    obtain ⟨k21, k⟩ := k
    refine wl_baload (g := m.A 63) (pc' := 25) rfl (hq_63 _) k21 rfl ?_
    refine wp_if_eq (pc' := 28) rfl rfl (fun c22 => ?_) (fun c22 => ?_)
    · replace k := it_t (c := ((m.A 63).getD (ix x4) 0) = (nI 0)) c22 k
      refine wl_ild_n (pc' := 35) rfl e_2 rfl ?_
      refine wl_st1 (pc' := 36) (k0 := 2) (v := .int x2) (r := []) rfl rfl (fun lv23 e24 f25 => ?_)
      have e26 := f25 0 _ e_0 (by decide) rfl
      have e27 := f25 1 _ e_1 (by decide) rfl
      have e28 := f25 3 _ e_3 (by decide) rfl
      have e29 := f25 4 _ e_4 (by decide) rfl
      refine wl_ild_n (pc' := 37) rfl e28 rfl ?_
      refine wp_if_ne (pc' := 40) rfl rfl (fun c30 => ?_) (fun c30 => ?_)
      · replace k := it_f (c := x3 = (nI 0)) c30 k
        refine wp_p (pc' := 55) (lv' := lv23) (st' := [.int (nI 1)]) rfl rfl ?_
        refine wp_p (pc' := 59) (lv' := lv23) (st' := [.int (nI 1)]) rfl rfl ?_
        refine wl_st1 (pc' := 60) (k0 := 3) (v := .int (nI 1)) (r := []) rfl rfl (fun lv31 e32 f33 => ?_)
        have e34 := f33 0 _ e26 (by decide) rfl
        have e35 := f33 1 _ e27 (by decide) rfl
        have e36 := f33 4 _ e29 (by decide) rfl
        have e37 := f33 2 _ e24 (by decide) rfl
        refine wp_p (pc' := 61) (lv' := lv31) (st' := [.int (nI 0)]) rfl rfl ?_
        refine wl_st1 (pc' := 63) (k0 := 5) (v := .int (nI 0)) (r := []) rfl rfl (fun lv38 e39 f40 => ?_)
        have e41 := f40 0 _ e34 (by decide) rfl
        have e42 := f40 1 _ e35 (by decide) rfl
        have e43 := f40 4 _ e36 (by decide) rfl
        have e44 := f40 2 _ e37 (by decide) rfl
        have e45 := f40 3 _ e32 (by decide) rfl
        exact k _ ⟨e41, e42, e44, e45, e43, e39, trivial⟩
      · replace k := it_t (c := x3 = (nI 0)) c30 k
        refine wl_ald_n (pc' := 41) rfl e26 rfl ?_
        refine wp_get (v := .ref 62) (pc' := 44) rfl (hq_42 _) rfl rfl ?_
        refine wl_ild (pc' := 46) rfl e29 rfl ?_
        obtain ⟨k46, k⟩ := k
        refine wl_laload (g := m.B 62) (pc' := 47) rfl (hq_62 _) k46 rfl ?_
        refine wp_p (pc' := 50) (lv' := lv23) (st' := [.long 1099511627776, .long ((m.B 62).getD (ix x4) 0)]) rfl rfl ?_
        refine wp_lcmp (v := lg_cmp ((m.B 62).getD (ix x4) 0) 1099511627776) (pc' := 51) rfl rfl rfl ?_
        refine wp_if_ne (pc' := 54) rfl rfl (fun c47 => ?_) (fun c47 => ?_)
        · replace k := it_f (c := (lg_cmp ((m.B 62).getD (ix x4) 0) 1099511627776) = (nI 0)) c47 k
          refine wp_p (pc' := 59) (lv' := lv23) (st' := [.int (nI 0)]) rfl rfl ?_
          refine wl_st1 (pc' := 60) (k0 := 3) (v := .int (nI 0)) (r := []) rfl rfl (fun lv48 e49 f50 => ?_)
          have e51 := f50 0 _ e26 (by decide) rfl
          have e52 := f50 1 _ e27 (by decide) rfl
          have e53 := f50 4 _ e29 (by decide) rfl
          have e54 := f50 2 _ e24 (by decide) rfl
          refine wp_p (pc' := 61) (lv' := lv48) (st' := [.int (nI 0)]) rfl rfl ?_
          refine wl_st1 (pc' := 63) (k0 := 5) (v := .int (nI 0)) (r := []) rfl rfl (fun lv55 e56 f57 => ?_)
          have e58 := f57 0 _ e51 (by decide) rfl
          have e59 := f57 1 _ e52 (by decide) rfl
          have e60 := f57 4 _ e53 (by decide) rfl
          have e61 := f57 2 _ e54 (by decide) rfl
          have e62 := f57 3 _ e49 (by decide) rfl
          exact k _ ⟨e58, e59, e61, e62, e60, e56, trivial⟩
        · replace k := it_t (c := (lg_cmp ((m.B 62).getD (ix x4) 0) 1099511627776) = (nI 0)) c47 k
          refine wp_p (pc' := 55) (lv' := lv23) (st' := [.int (nI 1)]) rfl rfl ?_
          refine wp_p (pc' := 59) (lv' := lv23) (st' := [.int (nI 1)]) rfl rfl ?_
          refine wl_st1 (pc' := 60) (k0 := 3) (v := .int (nI 1)) (r := []) rfl rfl (fun lv63 e64 f65 => ?_)
          have e66 := f65 0 _ e26 (by decide) rfl
          have e67 := f65 1 _ e27 (by decide) rfl
          have e68 := f65 4 _ e29 (by decide) rfl
          have e69 := f65 2 _ e24 (by decide) rfl
          refine wp_p (pc' := 61) (lv' := lv63) (st' := [.int (nI 0)]) rfl rfl ?_
          refine wl_st1 (pc' := 63) (k0 := 5) (v := .int (nI 0)) (r := []) rfl rfl (fun lv70 e71 f72 => ?_)
          have e73 := f72 0 _ e66 (by decide) rfl
          have e74 := f72 1 _ e67 (by decide) rfl
          have e75 := f72 4 _ e68 (by decide) rfl
          have e76 := f72 2 _ e69 (by decide) rfl
          have e77 := f72 3 _ e64 (by decide) rfl
          exact k _ ⟨e73, e74, e76, e77, e75, e71, trivial⟩
    · replace k := it_f (c := ((m.A 63).getD (ix x4) 0) = (nI 0)) c22 k
      refine wl_ild_n (pc' := 29) rfl e_2 rfl ?_
      refine wp_p (pc' := 30) (lv' := lv0) (st' := [.int (nI 1), .int x2]) rfl rfl ?_
      refine wp_iadd (v := x2 + (nI 1)) (pc' := 31) rfl rfl rfl ?_
      refine wp_p (pc' := 35) (lv' := lv0) (st' := [.int (x2 + (nI 1))]) rfl rfl ?_
      refine wl_st1 (pc' := 36) (k0 := 2) (v := .int (x2 + (nI 1))) (r := []) rfl rfl (fun lv78 e79 f80 => ?_)
      have e81 := f80 0 _ e_0 (by decide) rfl
      have e82 := f80 1 _ e_1 (by decide) rfl
      have e83 := f80 3 _ e_3 (by decide) rfl
      have e84 := f80 4 _ e_4 (by decide) rfl
      refine wl_ild_n (pc' := 37) rfl e83 rfl ?_
      refine wp_if_ne (pc' := 40) rfl rfl (fun c85 => ?_) (fun c85 => ?_)
      · replace k := it_f (c := x3 = (nI 0)) c85 k
        refine wp_p (pc' := 55) (lv' := lv78) (st' := [.int (nI 1)]) rfl rfl ?_
        refine wp_p (pc' := 59) (lv' := lv78) (st' := [.int (nI 1)]) rfl rfl ?_
        refine wl_st1 (pc' := 60) (k0 := 3) (v := .int (nI 1)) (r := []) rfl rfl (fun lv86 e87 f88 => ?_)
        have e89 := f88 0 _ e81 (by decide) rfl
        have e90 := f88 1 _ e82 (by decide) rfl
        have e91 := f88 4 _ e84 (by decide) rfl
        have e92 := f88 2 _ e79 (by decide) rfl
        refine wp_p (pc' := 61) (lv' := lv86) (st' := [.int (nI 0)]) rfl rfl ?_
        refine wl_st1 (pc' := 63) (k0 := 5) (v := .int (nI 0)) (r := []) rfl rfl (fun lv93 e94 f95 => ?_)
        have e96 := f95 0 _ e89 (by decide) rfl
        have e97 := f95 1 _ e90 (by decide) rfl
        have e98 := f95 4 _ e91 (by decide) rfl
        have e99 := f95 2 _ e92 (by decide) rfl
        have e100 := f95 3 _ e87 (by decide) rfl
        exact k _ ⟨e96, e97, e99, e100, e98, e94, trivial⟩
      · replace k := it_t (c := x3 = (nI 0)) c85 k
        refine wl_ald_n (pc' := 41) rfl e81 rfl ?_
        refine wp_get (v := .ref 62) (pc' := 44) rfl (hq_42 _) rfl rfl ?_
        refine wl_ild (pc' := 46) rfl e84 rfl ?_
        obtain ⟨k101, k⟩ := k
        refine wl_laload (g := m.B 62) (pc' := 47) rfl (hq_62 _) k101 rfl ?_
        refine wp_p (pc' := 50) (lv' := lv78) (st' := [.long 1099511627776, .long ((m.B 62).getD (ix x4) 0)]) rfl rfl ?_
        refine wp_lcmp (v := lg_cmp ((m.B 62).getD (ix x4) 0) 1099511627776) (pc' := 51) rfl rfl rfl ?_
        refine wp_if_ne (pc' := 54) rfl rfl (fun c102 => ?_) (fun c102 => ?_)
        · replace k := it_f (c := (lg_cmp ((m.B 62).getD (ix x4) 0) 1099511627776) = (nI 0)) c102 k
          refine wp_p (pc' := 59) (lv' := lv78) (st' := [.int (nI 0)]) rfl rfl ?_
          refine wl_st1 (pc' := 60) (k0 := 3) (v := .int (nI 0)) (r := []) rfl rfl (fun lv103 e104 f105 => ?_)
          have e106 := f105 0 _ e81 (by decide) rfl
          have e107 := f105 1 _ e82 (by decide) rfl
          have e108 := f105 4 _ e84 (by decide) rfl
          have e109 := f105 2 _ e79 (by decide) rfl
          refine wp_p (pc' := 61) (lv' := lv103) (st' := [.int (nI 0)]) rfl rfl ?_
          refine wl_st1 (pc' := 63) (k0 := 5) (v := .int (nI 0)) (r := []) rfl rfl (fun lv110 e111 f112 => ?_)
          have e113 := f112 0 _ e106 (by decide) rfl
          have e114 := f112 1 _ e107 (by decide) rfl
          have e115 := f112 4 _ e108 (by decide) rfl
          have e116 := f112 2 _ e109 (by decide) rfl
          have e117 := f112 3 _ e104 (by decide) rfl
          exact k _ ⟨e113, e114, e116, e117, e115, e111, trivial⟩
        · replace k := it_t (c := (lg_cmp ((m.B 62).getD (ix x4) 0) 1099511627776) = (nI 0)) c102 k
          refine wp_p (pc' := 55) (lv' := lv78) (st' := [.int (nI 1)]) rfl rfl ?_
          refine wp_p (pc' := 59) (lv' := lv78) (st' := [.int (nI 1)]) rfl rfl ?_
          refine wl_st1 (pc' := 60) (k0 := 3) (v := .int (nI 1)) (r := []) rfl rfl (fun lv118 e119 f120 => ?_)
          have e121 := f120 0 _ e81 (by decide) rfl
          have e122 := f120 1 _ e82 (by decide) rfl
          have e123 := f120 4 _ e84 (by decide) rfl
          have e124 := f120 2 _ e79 (by decide) rfl
          refine wp_p (pc' := 61) (lv' := lv118) (st' := [.int (nI 0)]) rfl rfl ?_
          refine wl_st1 (pc' := 63) (k0 := 5) (v := .int (nI 0)) (r := []) rfl rfl (fun lv125 e126 f127 => ?_)
          have e128 := f127 0 _ e121 (by decide) rfl
          have e129 := f127 1 _ e122 (by decide) rfl
          have e130 := f127 4 _ e123 (by decide) rfl
          have e131 := f127 2 _ e124 (by decide) rfl
          have e132 := f127 3 _ e119 (by decide) rfl
          exact k _ ⟨e128, e129, e131, e132, e130, e126, trivial⟩
set_option maxRecDepth 20000 in
theorem sg_182_131 {d : Nat} {m : Mm} {K : Option Value → Mm → Prop} (x1 : Int32) (x2 : Int32) (x4 : Int32) (k : ok (m.A 57).length x1 ∧ (if ((m.A 57).getD (ix x1) 0) ≤ x4 then K (some (.int (nI 0))) (m.uF 42 53 x2) else ok (m.B 62).length x4 ∧ ok (m.B 58).length ((((nI 80) * x1) + ((nI 4) * x4)) + (m.F 42 20)) ∧ WH d 182 131 [(0, .ref 42), (1, .int x1), (2, .int x2), (4, .int (x4 + nI 1))] [] (m.uB 58 ((m.B 58).set (ix ((((nI 80) * x1) + ((nI 4) * x4)) + (m.F 42 20))) ((m.B 62).getD (ix x4) 0))) K)) : WH d 182 131 [(0, .ref 42), (1, .int x1), (2, .int x2), (4, .int x4)] [] m K := by
  intro lv0 el
  obtain ⟨e_0, e_1, e_2, e_4, _⟩ := el
  refine wl_ild (pc' := 133) rfl e_4 rfl ?_
  refine wl_ald_n (pc' := 134) rfl e_0 rfl ?_
  refine wp_get (v := .ref 57) (pc' := 137) rfl (hq_42 _) rfl rfl ?_
  refine wl_ild_n (pc' := 138) rfl e_1 rfl ?_
  obtain ⟨k1, k⟩ := k
  refine wl_iaload (g := m.A 57) (pc' := 139) rfl (hq_57 _) k1 rfl ?_
  refine wp_ic_ge (pc' := 142) rfl rfl (fun c2 => ?_) (fun c2 => ?_)
  · replace k := it_t (c := ((m.A 57).getD (ix x1) 0) ≤ x4) c2 k
    refine wl_ald_n (pc' := 175) rfl e_0 rfl ?_
    refine wl_ild_n (pc' := 176) rfl e_2 rfl ?_
    refine wl_put (pc' := 179) (h2 := hp (m.uF 42 53 x2)) rfl (hq_42 _) rfl rfl rfl (pf_42_53 _ _) ?_
    refine wp_p (pc' := 180) (lv' := lv0) (st' := [.int (nI 0)]) rfl rfl ?_
    exact wl_ret rfl rfl ⟨_, rfl, k⟩
  · replace k := it_f (c := ((m.A 57).getD (ix x1) 0) ≤ x4) c2 k
    refine wl_ald_n (pc' := 143) rfl e_0 rfl ?_
    refine wp_get (v := .ref 58) (pc' := 146) rfl (hq_42 _) rfl rfl ?_
    refine wp_p (pc' := 148) (lv' := lv0) (st' := [.int (nI 80), .ref 58]) rfl rfl ?_
    refine wl_ild_n (pc' := 149) rfl e_1 rfl ?_
    refine wp_imul (v := (nI 80) * x1) (pc' := 150) rfl rfl rfl ?_
    refine wp_p (pc' := 151) (lv' := lv0) (st' := [.int (nI 4), .int ((nI 80) * x1), .ref 58]) rfl rfl ?_
    refine wl_ild (pc' := 153) rfl e_4 rfl ?_
    refine wp_imul (v := (nI 4) * x4) (pc' := 154) rfl rfl rfl ?_
    refine wp_iadd (v := ((nI 80) * x1) + ((nI 4) * x4)) (pc' := 155) rfl rfl rfl ?_
    refine wl_ald_n (pc' := 156) rfl e_0 rfl ?_
    refine wp_get (v := .int (m.F 42 20)) (pc' := 159) rfl (hq_42 _) rfl rfl ?_
    refine wp_iadd (v := (((nI 80) * x1) + ((nI 4) * x4)) + (m.F 42 20)) (pc' := 160) rfl rfl rfl ?_
    refine wl_ald_n (pc' := 161) rfl e_0 rfl ?_
    refine wp_get (v := .ref 62) (pc' := 164) rfl (hq_42 _) rfl rfl ?_
    refine wl_ild (pc' := 166) rfl e_4 rfl ?_
    obtain ⟨k3, k⟩ := k
    refine wl_laload (g := m.B 62) (pc' := 167) rfl (hq_62 _) k3 rfl ?_
    obtain ⟨k4, k⟩ := k
    refine wl_lastore (g := m.B 58) (pc' := 168) (h2 := hp (m.uB 58 ((m.B 58).set (ix ((((nI 80) * x1) + ((nI 4) * x4)) + (m.F 42 20))) ((m.B 62).getD (ix x4) 0)))) rfl (hq_58 _) k4 rfl (pa_58 _ _) ?_
    refine wl_iinc (pc' := 171) (v := x4 + nI 1) rfl e_4 rfl rfl rfl (fun lv5 e6 f7 => ?_)
    have e8 := f7 0 _ e_0 (by decide) rfl
    have e9 := f7 1 _ e_1 (by decide) rfl
    have e10 := f7 2 _ e_2 (by decide) rfl
    refine wp_p (pc' := 131) (lv' := lv5) (st' := []) rfl rfl ?_
    exact k _ ⟨e8, e9, e10, e6, trivial⟩
set_option maxRecDepth 20000 in
theorem sg_182_63 {d : Nat} {m : Mm} {K : Option Value → Mm → Prop} (x1 : Int32) (x2 : Int32) (x3 : Int32) (x4 : Int32) (x5 : Int32) (k : (if x4 ≤ x5 then WH d 182 7 [(0, .ref 42), (1, .int x1), (2, .int x2), (3, .int x3), (4, .int (x4 + nI 1))] [] m K else (if x3 = (nI 0) then ok (m.B 62).length x5 ∧ ok (m.B 62).length x4 ∧ (if (lg_cmp ((m.B 62).getD (ix x5) 0) ((m.B 62).getD (ix x4) 0)) = (nI 0) then WH d 182 63 [(0, .ref 42), (1, .int x1), (2, .int x2), (3, .int (nI 1)), (4, .int x4), (5, .int (x5 + nI 1))] [] m K else WH d 182 63 [(0, .ref 42), (1, .int x1), (2, .int x2), (3, .int (nI 0)), (4, .int x4), (5, .int (x5 + nI 1))] [] m K) else WH d 182 63 [(0, .ref 42), (1, .int x1), (2, .int x2), (3, .int (nI 1)), (4, .int x4), (5, .int (x5 + nI 1))] [] m K))) : WH d 182 63 [(0, .ref 42), (1, .int x1), (2, .int x2), (3, .int x3), (4, .int x4), (5, .int x5)] [] m K := by
  intro lv0 el
  obtain ⟨e_0, e_1, e_2, e_3, e_4, e_5, _⟩ := el
  refine wl_ild (pc' := 65) rfl e_5 rfl ?_
  refine wl_ild (pc' := 67) rfl e_4 rfl ?_
  refine wp_ic_ge (pc' := 70) rfl rfl (fun c1 => ?_) (fun c1 => ?_)
  · replace k := it_t (c := x4 ≤ x5) c1 k
    refine wl_iinc (pc' := 107) (v := x4 + nI 1) rfl e_4 rfl rfl rfl (fun lv2 e3 f4 => ?_)
    have e5 := f4 0 _ e_0 (by decide) rfl
    have e6 := f4 1 _ e_1 (by decide) rfl
    have e7 := f4 2 _ e_2 (by decide) rfl
    have e8 := f4 3 _ e_3 (by decide) rfl
    have e9 := f4 5 _ e_5 (by decide) rfl
    refine wp_p (pc' := 7) (lv' := lv2) (st' := []) rfl rfl ?_
    exact k _ ⟨e5, e6, e7, e8, e3, trivial⟩
  · replace k := it_f (c := x4 ≤ x5) c1 k
    refine wl_ild_n (pc' := 71) rfl e_3 rfl ?_
    refine wp_if_ne (pc' := 74) rfl rfl (fun c10 => ?_) (fun c10 => ?_)
    · replace k := it_f (c := x3 = (nI 0)) c10 k
      refine wp_p (pc' := 93) (lv' := lv0) (st' := [.int (nI 1)]) rfl rfl ?_
      refine wp_p (pc' := 97) (lv' := lv0) (st' := [.int (nI 1)]) rfl rfl ?_
      refine wl_st1 (pc' := 98) (k0 := 3) (v := .int (nI 1)) (r := []) rfl rfl (fun lv11 e12 f13 => ?_)
      have e14 := f13 0 _ e_0 (by decide) rfl
      have e15 := f13 1 _ e_1 (by decide) rfl
      have e16 := f13 2 _ e_2 (by decide) rfl
      have e17 := f13 4 _ e_4 (by decide) rfl
      have e18 := f13 5 _ e_5 (by decide) rfl
      refine wl_iinc (pc' := 101) (v := x5 + nI 1) rfl e18 rfl rfl rfl (fun lv19 e20 f21 => ?_)
      have e22 := f21 0 _ e14 (by decide) rfl
      have e23 := f21 1 _ e15 (by decide) rfl
      have e24 := f21 2 _ e16 (by decide) rfl
      have e25 := f21 4 _ e17 (by decide) rfl
      have e26 := f21 3 _ e12 (by decide) rfl
      refine wp_p (pc' := 63) (lv' := lv19) (st' := []) rfl rfl ?_
      exact k _ ⟨e22, e23, e24, e26, e25, e20, trivial⟩
    · replace k := it_t (c := x3 = (nI 0)) c10 k
      refine wl_ald_n (pc' := 75) rfl e_0 rfl ?_
      refine wp_get (v := .ref 62) (pc' := 78) rfl (hq_42 _) rfl rfl ?_
      refine wl_ild (pc' := 80) rfl e_5 rfl ?_
      obtain ⟨k27, k⟩ := k
      refine wl_laload (g := m.B 62) (pc' := 81) rfl (hq_62 _) k27 rfl ?_
      refine wl_ald_n (pc' := 82) rfl e_0 rfl ?_
      refine wp_get (v := .ref 62) (pc' := 85) rfl (hq_42 _) rfl rfl ?_
      refine wl_ild (pc' := 87) rfl e_4 rfl ?_
      obtain ⟨k28, k⟩ := k
      refine wl_laload (g := m.B 62) (pc' := 88) rfl (hq_62 _) k28 rfl ?_
      refine wp_lcmp (v := lg_cmp ((m.B 62).getD (ix x5) 0) ((m.B 62).getD (ix x4) 0)) (pc' := 89) rfl rfl rfl ?_
      refine wp_if_ne (pc' := 92) rfl rfl (fun c29 => ?_) (fun c29 => ?_)
      · replace k := it_f (c := (lg_cmp ((m.B 62).getD (ix x5) 0) ((m.B 62).getD (ix x4) 0)) = (nI 0)) c29 k
        refine wp_p (pc' := 97) (lv' := lv0) (st' := [.int (nI 0)]) rfl rfl ?_
        refine wl_st1 (pc' := 98) (k0 := 3) (v := .int (nI 0)) (r := []) rfl rfl (fun lv30 e31 f32 => ?_)
        have e33 := f32 0 _ e_0 (by decide) rfl
        have e34 := f32 1 _ e_1 (by decide) rfl
        have e35 := f32 2 _ e_2 (by decide) rfl
        have e36 := f32 4 _ e_4 (by decide) rfl
        have e37 := f32 5 _ e_5 (by decide) rfl
        refine wl_iinc (pc' := 101) (v := x5 + nI 1) rfl e37 rfl rfl rfl (fun lv38 e39 f40 => ?_)
        have e41 := f40 0 _ e33 (by decide) rfl
        have e42 := f40 1 _ e34 (by decide) rfl
        have e43 := f40 2 _ e35 (by decide) rfl
        have e44 := f40 4 _ e36 (by decide) rfl
        have e45 := f40 3 _ e31 (by decide) rfl
        refine wp_p (pc' := 63) (lv' := lv38) (st' := []) rfl rfl ?_
        exact k _ ⟨e41, e42, e43, e45, e44, e39, trivial⟩
      · replace k := it_t (c := (lg_cmp ((m.B 62).getD (ix x5) 0) ((m.B 62).getD (ix x4) 0)) = (nI 0)) c29 k
        refine wp_p (pc' := 93) (lv' := lv0) (st' := [.int (nI 1)]) rfl rfl ?_
        refine wp_p (pc' := 97) (lv' := lv0) (st' := [.int (nI 1)]) rfl rfl ?_
        refine wl_st1 (pc' := 98) (k0 := 3) (v := .int (nI 1)) (r := []) rfl rfl (fun lv46 e47 f48 => ?_)
        have e49 := f48 0 _ e_0 (by decide) rfl
        have e50 := f48 1 _ e_1 (by decide) rfl
        have e51 := f48 2 _ e_2 (by decide) rfl
        have e52 := f48 4 _ e_4 (by decide) rfl
        have e53 := f48 5 _ e_5 (by decide) rfl
        refine wl_iinc (pc' := 101) (v := x5 + nI 1) rfl e53 rfl rfl rfl (fun lv54 e55 f56 => ?_)
        have e57 := f56 0 _ e49 (by decide) rfl
        have e58 := f56 1 _ e50 (by decide) rfl
        have e59 := f56 2 _ e51 (by decide) rfl
        have e60 := f56 4 _ e52 (by decide) rfl
        have e61 := f56 3 _ e47 (by decide) rfl
        refine wp_p (pc' := 63) (lv' := lv54) (st' := []) rfl rfl ?_
        exact k _ ⟨e57, e58, e59, e61, e60, e55, trivial⟩
/-! 183: QueryTablesModel.remove -/
set_option maxRecDepth 20000 in
theorem sp_183 {d : Nat} {m : Mm} {K : Option Value → Mm → Prop} (x1 : Int32) (k : WH d 183 4 [(0, .ref 42), (1, .int x1), (2, .int (nI 0)), (3, .int (nI 0))] [] m K) : WP d 183 [.ref 42, .int x1] m K := by
  have e_0 : sm_lk (lv_args 0 [.ref 42, .int x1]) 0 = some (.ref 42) := rfl
  have e_1 : sm_lk (lv_args 0 [.ref 42, .int x1]) 1 = some (.int x1) := rfl
  show sm_wp d 183 0 (lv_args 0 [.ref 42, .int x1]) [] (hp m) (WQ K)
  generalize lv_args 0 [.ref 42, .int x1] = lv0 at *
  refine wp_p (pc' := 1) (lv' := lv0) (st' := [.int (nI 0)]) rfl rfl ?_
  refine wl_st1 (pc' := 2) (k0 := 2) (v := .int (nI 0)) (r := []) rfl rfl (fun lv1 e2 f3 => ?_)
  have e4 := f3 0 _ e_0 (by decide) rfl
  have e5 := f3 1 _ e_1 (by decide) rfl
  refine wp_p (pc' := 3) (lv' := lv1) (st' := [.int (nI 0)]) rfl rfl ?_
  refine wl_st1 (pc' := 4) (k0 := 3) (v := .int (nI 0)) (r := []) rfl rfl (fun lv6 e7 f8 => ?_)
  have e9 := f8 0 _ e4 (by decide) rfl
  have e10 := f8 1 _ e5 (by decide) rfl
  have e11 := f8 2 _ e2 (by decide) rfl
  exact k _ ⟨e9, e10, e11, e7, trivial⟩
set_option maxRecDepth 20000 in
theorem sg_183_4 {d : Nat} {m : Mm} {K : Option Value → Mm → Prop} (x1 : Int32) (x2 : Int32) (x3 : Int32) (k : ok (m.A 57).length x1 ∧ (if ((m.A 57).getD (ix x1) 0) ≤ x3 then ok (m.A 57).length x1 ∧ K none (m.uA 57 ((m.A 57).set (ix x1) x2)) else ok (m.A 63).length x3 ∧ (if ((m.A 63).getD (ix x3) 0) = (nI 0) then WH d 183 39 [(0, .ref 42), (1, .int x1), (2, .int x2), (3, .int x3), (4, .int (nI 0))] [] m K else WH d 183 4 [(0, .ref 42), (1, .int x1), (2, .int x2), (3, .int (x3 + nI 1))] [] (m.uF 42 53 ((m.F 42 53) + (nI 1))) K))) : WH d 183 4 [(0, .ref 42), (1, .int x1), (2, .int x2), (3, .int x3)] [] m K := by
  intro lv0 el
  obtain ⟨e_0, e_1, e_2, e_3, _⟩ := el
  refine wl_ild_n (pc' := 5) rfl e_3 rfl ?_
  refine wl_ald_n (pc' := 6) rfl e_0 rfl ?_
  refine wp_get (v := .ref 57) (pc' := 9) rfl (hq_42 _) rfl rfl ?_
  refine wl_ild_n (pc' := 10) rfl e_1 rfl ?_
  obtain ⟨k1, k⟩ := k
  refine wl_iaload (g := m.A 57) (pc' := 11) rfl (hq_57 _) k1 rfl ?_
  refine wp_ic_ge (pc' := 14) rfl rfl (fun c2 => ?_) (fun c2 => ?_)
  · replace k := it_t (c := ((m.A 57).getD (ix x1) 0) ≤ x3) c2 k
    refine wl_ald_n (pc' := 93) rfl e_0 rfl ?_
    refine wp_get (v := .ref 57) (pc' := 96) rfl (hq_42 _) rfl rfl ?_
    refine wl_ild_n (pc' := 97) rfl e_1 rfl ?_
    refine wl_ild_n (pc' := 98) rfl e_2 rfl ?_
    obtain ⟨k3, k⟩ := k
    refine wl_iastore (g := m.A 57) (pc' := 99) (h2 := hp (m.uA 57 ((m.A 57).set (ix x1) x2))) rfl (hq_57 _) k3 rfl (pa_57 _ _) ?_
    exact wp_r rfl rfl ⟨_, rfl, k⟩
  · replace k := it_f (c := ((m.A 57).getD (ix x1) 0) ≤ x3) c2 k
    refine wl_ald_n (pc' := 15) rfl e_0 rfl ?_
    refine wp_get (v := .ref 63) (pc' := 18) rfl (hq_42 _) rfl rfl ?_
    refine wl_ild_n (pc' := 19) rfl e_3 rfl ?_
    obtain ⟨k4, k⟩ := k
    refine wl_baload (g := m.A 63) (pc' := 20) rfl (hq_63 _) k4 rfl ?_
    refine wp_if_eq (pc' := 23) rfl rfl (fun c5 => ?_) (fun c5 => ?_)
    · replace k := it_t (c := ((m.A 63).getD (ix x3) 0) = (nI 0)) c5 k
      refine wp_p (pc' := 37) (lv' := lv0) (st' := [.int (nI 0)]) rfl rfl ?_
      refine wl_st1 (pc' := 39) (k0 := 4) (v := .int (nI 0)) (r := []) rfl rfl (fun lv6 e7 f8 => ?_)
      have e9 := f8 0 _ e_0 (by decide) rfl
      have e10 := f8 1 _ e_1 (by decide) rfl
      have e11 := f8 2 _ e_2 (by decide) rfl
      have e12 := f8 3 _ e_3 (by decide) rfl
      exact k _ ⟨e9, e10, e11, e12, e7, trivial⟩
    · replace k := it_f (c := ((m.A 63).getD (ix x3) 0) = (nI 0)) c5 k
      refine wl_ald_n (pc' := 24) rfl e_0 rfl ?_
      refine wp_p (pc' := 25) (lv' := lv0) (st' := [.ref 42, .ref 42]) rfl rfl ?_
      refine wp_get (v := .int (m.F 42 53)) (pc' := 28) rfl (hq_42 _) rfl rfl ?_
      refine wp_p (pc' := 29) (lv' := lv0) (st' := [.int (nI 1), .int (m.F 42 53), .ref 42]) rfl rfl ?_
      refine wp_iadd (v := (m.F 42 53) + (nI 1)) (pc' := 30) rfl rfl rfl ?_
      refine wl_put (pc' := 33) (h2 := hp (m.uF 42 53 ((m.F 42 53) + (nI 1)))) rfl (hq_42 _) rfl rfl rfl (pf_42_53 _ _) ?_
      refine wp_p (pc' := 86) (lv' := lv0) (st' := []) rfl rfl ?_
      refine wl_iinc (pc' := 89) (v := x3 + nI 1) rfl e_3 rfl rfl rfl (fun lv13 e14 f15 => ?_)
      have e16 := f15 0 _ e_0 (by decide) rfl
      have e17 := f15 1 _ e_1 (by decide) rfl
      have e18 := f15 2 _ e_2 (by decide) rfl
      refine wp_p (pc' := 4) (lv' := lv13) (st' := []) rfl rfl ?_
      exact k _ ⟨e16, e17, e18, e14, trivial⟩
set_option maxRecDepth 20000 in
theorem sg_183_39 {d : Nat} {m : Mm} {K : Option Value → Mm → Prop} (x1 : Int32) (x2 : Int32) (x3 : Int32) (x4 : Int32) (k : (if (nI 4) ≤ x4 then WH d 183 4 [(0, .ref 42), (1, .int x1), (2, .int (x2 + nI 1)), (3, .int (x3 + nI 1))] [] m K else ok (m.B 58).length ((((nI 80) * x1) + ((nI 4) * x3)) + x4) ∧ ok (m.B 58).length ((((nI 80) * x1) + ((nI 4) * x2)) + x4) ∧ WH d 183 39 [(0, .ref 42), (1, .int x1), (2, .int x2), (3, .int x3), (4, .int (x4 + nI 1))] [] (m.uB 58 ((m.B 58).set (ix ((((nI 80) * x1) + ((nI 4) * x2)) + x4)) ((m.B 58).getD (ix ((((nI 80) * x1) + ((nI 4) * x3)) + x4)) 0))) K)) : WH d 183 39 [(0, .ref 42), (1, .int x1), (2, .int x2), (3, .int x3), (4, .int x4)] [] m K := by
  intro lv0 el
  obtain ⟨e_0, e_1, e_2, e_3, e_4, _⟩ := el
  refine wl_ild (pc' := 41) rfl e_4 rfl ?_
  refine wp_p (pc' := 42) (lv' := lv0) (st' := [.int (nI 4), .int x4]) rfl rfl ?_
  refine wp_ic_ge (pc' := 45) rfl rfl (fun c1 => ?_) (fun c1 => ?_)
  · replace k := it_t (c := (nI 4) ≤ x4) c1 k
    refine wl_iinc (pc' := 86) (v := x2 + nI 1) rfl e_2 rfl rfl rfl (fun lv2 e3 f4 => ?_)
    have e5 := f4 0 _ e_0 (by decide) rfl
    have e6 := f4 1 _ e_1 (by decide) rfl
    have e7 := f4 3 _ e_3 (by decide) rfl
    have e8 := f4 4 _ e_4 (by decide) rfl
    refine wl_iinc (pc' := 89) (v := x3 + nI 1) rfl e7 rfl rfl rfl (fun lv9 e10 f11 => ?_)
    have e12 := f11 0 _ e5 (by decide) rfl
    have e13 := f11 1 _ e6 (by decide) rfl
    have e14 := f11 4 _ e8 (by decide) rfl
    have e15 := f11 2 _ e3 (by decide) rfl
    refine wp_p (pc' := 4) (lv' := lv9) (st' := []) rfl rfl ?_
    exact k _ ⟨e12, e13, e15, e10, trivial⟩
  · replace k := it_f (c := (nI 4) ≤ x4) c1 k
    refine wl_ald_n (pc' := 46) rfl e_0 rfl ?_
    refine wp_get (v := .ref 58) (pc' := 49) rfl (hq_42 _) rfl rfl ?_
    refine wp_p (pc' := 51) (lv' := lv0) (st' := [.int (nI 80), .ref 58]) rfl rfl ?_
    refine wl_ild_n (pc' := 52) rfl e_1 rfl ?_
    refine wp_imul (v := (nI 80) * x1) (pc' := 53) rfl rfl rfl ?_
    refine wp_p (pc' := 54) (lv' := lv0) (st' := [.int (nI 4), .int ((nI 80) * x1), .ref 58]) rfl rfl ?_
    refine wl_ild_n (pc' := 55) rfl e_2 rfl ?_
    refine wp_imul (v := (nI 4) * x2) (pc' := 56) rfl rfl rfl ?_
    refine wp_iadd (v := ((nI 80) * x1) + ((nI 4) * x2)) (pc' := 57) rfl rfl rfl ?_
    refine wl_ild (pc' := 59) rfl e_4 rfl ?_
    refine wp_iadd (v := (((nI 80) * x1) + ((nI 4) * x2)) + x4) (pc' := 60) rfl rfl rfl ?_
    refine wl_ald_n (pc' := 61) rfl e_0 rfl ?_
    refine wp_get (v := .ref 58) (pc' := 64) rfl (hq_42 _) rfl rfl ?_
    refine wp_p (pc' := 66) (lv' := lv0) (st' := [.int (nI 80), .ref 58, .int ((((nI 80) * x1) + ((nI 4) * x2)) + x4), .ref 58]) rfl rfl ?_
    refine wl_ild_n (pc' := 67) rfl e_1 rfl ?_
    refine wp_imul (v := (nI 80) * x1) (pc' := 68) rfl rfl rfl ?_
    refine wp_p (pc' := 69) (lv' := lv0) (st' := [.int (nI 4), .int ((nI 80) * x1), .ref 58, .int ((((nI 80) * x1) + ((nI 4) * x2)) + x4), .ref 58]) rfl rfl ?_
    refine wl_ild_n (pc' := 70) rfl e_3 rfl ?_
    refine wp_imul (v := (nI 4) * x3) (pc' := 71) rfl rfl rfl ?_
    refine wp_iadd (v := ((nI 80) * x1) + ((nI 4) * x3)) (pc' := 72) rfl rfl rfl ?_
    refine wl_ild (pc' := 74) rfl e_4 rfl ?_
    refine wp_iadd (v := (((nI 80) * x1) + ((nI 4) * x3)) + x4) (pc' := 75) rfl rfl rfl ?_
    obtain ⟨k16, k⟩ := k
    refine wl_laload (g := m.B 58) (pc' := 76) rfl (hq_58 _) k16 rfl ?_
    obtain ⟨k17, k⟩ := k
    refine wl_lastore (g := m.B 58) (pc' := 77) (h2 := hp (m.uB 58 ((m.B 58).set (ix ((((nI 80) * x1) + ((nI 4) * x2)) + x4)) ((m.B 58).getD (ix ((((nI 80) * x1) + ((nI 4) * x3)) + x4)) 0)))) rfl (hq_58 _) k17 rfl (pa_58 _ _) ?_
    refine wl_iinc (pc' := 80) (v := x4 + nI 1) rfl e_4 rfl rfl rfl (fun lv18 e19 f20 => ?_)
    have e21 := f20 0 _ e_0 (by decide) rfl
    have e22 := f20 1 _ e_1 (by decide) rfl
    have e23 := f20 2 _ e_2 (by decide) rfl
    have e24 := f20 3 _ e_3 (by decide) rfl
    refine wp_p (pc' := 39) (lv' := lv18) (st' := []) rfl rfl ?_
    exact k _ ⟨e21, e22, e23, e24, e19, trivial⟩
/-! 184: QueryTablesModel.choose -/
set_option maxRecDepth 20000 in
theorem sp_184 {d : Nat} {m : Mm} {K : Option Value → Mm → Prop} (k : ok (m.A 50).length (nI 0) ∧ (if (m.F 42 19) = (nI 2) then ok (m.A 50).length (nI 1) ∧ WH d 184 33 [(0, .ref 42), (1, .int ((m.A 50).getD (ix (nI 0)) 0)), (2, .int ((m.A 50).getD (ix (nI 1)) 0)), (3, .int (nI 0))] [] (m.uF 42 48 (nI 0)) K else WH d 184 33 [(0, .ref 42), (1, .int ((m.A 50).getD (ix (nI 0)) 0)), (2, .int (-1)), (3, .int (nI 0))] [] (m.uF 42 48 (nI 0)) K)) : WP d 184 [.ref 42] m K := by
  have e_0 : sm_lk (lv_args 0 [.ref 42]) 0 = some (.ref 42) := rfl
  show sm_wp d 184 0 (lv_args 0 [.ref 42]) [] (hp m) (WQ K)
  generalize lv_args 0 [.ref 42] = lv0 at *
  refine wl_ald_n (pc' := 1) rfl e_0 rfl ?_
  refine wp_get (v := .ref 50) (pc' := 4) rfl (hq_42 _) rfl rfl ?_
  refine wp_p (pc' := 5) (lv' := lv0) (st' := [.int (nI 0), .ref 50]) rfl rfl ?_
  obtain ⟨k1, k⟩ := k
  refine wl_iaload (g := m.A 50) (pc' := 6) rfl (hq_50 _) k1 rfl ?_
  refine wl_st1 (pc' := 7) (k0 := 1) (v := .int ((m.A 50).getD (ix (nI 0)) 0)) (r := []) rfl rfl (fun lv2 e3 f4 => ?_)
  have e5 := f4 0 _ e_0 (by decide) rfl
  refine wl_ald_n (pc' := 8) rfl e5 rfl ?_
  refine wp_get (v := .int (m.F 42 19)) (pc' := 11) rfl (hq_42 _) rfl rfl ?_
  refine wp_p (pc' := 12) (lv' := lv2) (st' := [.int (nI 2), .int (m.F 42 19)]) rfl rfl ?_
  refine wp_ic_ne (pc' := 15) rfl rfl (fun c6 => ?_) (fun c6 => ?_)
  · replace k := it_f (c := (m.F 42 19) = (nI 2)) c6 k
    refine wp_p (pc' := 25) (lv' := lv2) (st' := [.int (-1)]) rfl rfl ?_
    refine wl_st1 (pc' := 26) (k0 := 2) (v := .int (-1)) (r := []) rfl rfl (fun lv7 e8 f9 => ?_)
    have e10 := f9 0 _ e5 (by decide) rfl
    have e11 := f9 1 _ e3 (by decide) rfl
    refine wl_ald_n (pc' := 27) rfl e10 rfl ?_
    refine wp_p (pc' := 28) (lv' := lv7) (st' := [.int (nI 0), .ref 42]) rfl rfl ?_
    refine wl_put (pc' := 31) (h2 := hp (m.uF 42 48 (nI 0))) rfl (hq_42 _) rfl rfl rfl (pf_42_48 _ _) ?_
    refine wp_p (pc' := 32) (lv' := lv7) (st' := [.int (nI 0)]) rfl rfl ?_
    refine wl_st1 (pc' := 33) (k0 := 3) (v := .int (nI 0)) (r := []) rfl rfl (fun lv12 e13 f14 => ?_)
    have e15 := f14 0 _ e10 (by decide) rfl
    have e16 := f14 1 _ e11 (by decide) rfl
    have e17 := f14 2 _ e8 (by decide) rfl
    exact k _ ⟨e15, e16, e17, e13, trivial⟩
  · replace k := it_t (c := (m.F 42 19) = (nI 2)) c6 k
    refine wl_ald_n (pc' := 16) rfl e5 rfl ?_
    refine wp_get (v := .ref 50) (pc' := 19) rfl (hq_42 _) rfl rfl ?_
    refine wp_p (pc' := 20) (lv' := lv2) (st' := [.int (nI 1), .ref 50]) rfl rfl ?_
    obtain ⟨k18, k⟩ := k
    refine wl_iaload (g := m.A 50) (pc' := 21) rfl (hq_50 _) k18 rfl ?_
    refine wp_p (pc' := 25) (lv' := lv2) (st' := [.int ((m.A 50).getD (ix (nI 1)) 0)]) rfl rfl ?_
    refine wl_st1 (pc' := 26) (k0 := 2) (v := .int ((m.A 50).getD (ix (nI 1)) 0)) (r := []) rfl rfl (fun lv19 e20 f21 => ?_)
    have e22 := f21 0 _ e5 (by decide) rfl
    have e23 := f21 1 _ e3 (by decide) rfl
    refine wl_ald_n (pc' := 27) rfl e22 rfl ?_
    refine wp_p (pc' := 28) (lv' := lv19) (st' := [.int (nI 0), .ref 42]) rfl rfl ?_
    refine wl_put (pc' := 31) (h2 := hp (m.uF 42 48 (nI 0))) rfl (hq_42 _) rfl rfl rfl (pf_42_48 _ _) ?_
    refine wp_p (pc' := 32) (lv' := lv19) (st' := [.int (nI 0)]) rfl rfl ?_
    refine wl_st1 (pc' := 33) (k0 := 3) (v := .int (nI 0)) (r := []) rfl rfl (fun lv24 e25 f26 => ?_)
    have e27 := f26 0 _ e22 (by decide) rfl
    have e28 := f26 1 _ e23 (by decide) rfl
    have e29 := f26 2 _ e20 (by decide) rfl
    exact k _ ⟨e27, e28, e29, e25, trivial⟩
set_option maxRecDepth 20000 in
theorem sg_184_33 {d : Nat} {m : Mm} {K : Option Value → Mm → Prop} (x1 : Int32) (x2 : Int32) (x3 : Int32) (k : ok (m.A 57).length x1 ∧ (if ((m.A 57).getD (ix x1) 0) ≤ x3 then WH d 184 199 [(0, .ref 42), (1, .int x1), (2, .int x2)] [] (m.uF 42 54 (m.F 42 22)) K else (if (nI 0) ≤ x2 then ok (m.A 57).length x2 ∧ WH d 184 62 [(0, .ref 42), (1, .int x1), (2, .int x2), (3, .int x3), (4, .int ((m.A 57).getD (ix x2) 0)), (5, .int (nI 0))] [] m K else WH d 184 62 [(0, .ref 42), (1, .int x1), (2, .int x2), (3, .int x3), (4, .int (nI 1)), (5, .int (nI 0))] [] m K))) : WH d 184 33 [(0, .ref 42), (1, .int x1), (2, .int x2), (3, .int x3)] [] m K := by
  intro lv0 el
  obtain ⟨e_0, e_1, e_2, e_3, _⟩ := el
  refine wl_ild_n (pc' := 34) rfl e_3 rfl ?_
  refine wl_ald_n (pc' := 35) rfl e_0 rfl ?_
  refine wp_get (v := .ref 57) (pc' := 38) rfl (hq_42 _) rfl rfl ?_
  refine wl_ild_n (pc' := 39) rfl e_1 rfl ?_
  obtain ⟨k1, k⟩ := k
  refine wl_iaload (g := m.A 57) (pc' := 40) rfl (hq_57 _) k1 rfl ?_
  refine wp_ic_ge (pc' := 43) rfl rfl (fun c2 => ?_) (fun c2 => ?_)
  · replace k := it_t (c := ((m.A 57).getD (ix x1) 0) ≤ x3) c2 k
    refine wl_ald_n (pc' := 192) rfl e_0 rfl ?_
    refine wl_ald_n (pc' := 193) rfl e_0 rfl ?_
    refine wp_get (v := .int (m.F 42 22)) (pc' := 196) rfl (hq_42 _) rfl rfl ?_
    refine wl_put (pc' := 199) (h2 := hp (m.uF 42 54 (m.F 42 22))) rfl (hq_42 _) rfl rfl rfl (pf_42_54 _ _) ?_
    exact k _ ⟨e_0, e_1, e_2, trivial⟩
  · replace k := it_f (c := ((m.A 57).getD (ix x1) 0) ≤ x3) c2 k
    refine wl_ild_n (pc' := 44) rfl e_2 rfl ?_
    refine wp_if_ge (pc' := 47) rfl rfl (fun c3 => ?_) (fun c3 => ?_)
    · replace k := it_t (c := (nI 0) ≤ x2) c3 k
      refine wl_ald_n (pc' := 52) rfl e_0 rfl ?_
      refine wp_get (v := .ref 57) (pc' := 55) rfl (hq_42 _) rfl rfl ?_
      refine wl_ild_n (pc' := 56) rfl e_2 rfl ?_
      obtain ⟨k4, k⟩ := k
      refine wl_iaload (g := m.A 57) (pc' := 57) rfl (hq_57 _) k4 rfl ?_
      refine wl_st1 (pc' := 59) (k0 := 4) (v := .int ((m.A 57).getD (ix x2) 0)) (r := []) rfl rfl (fun lv5 e6 f7 => ?_)
      have e8 := f7 0 _ e_0 (by decide) rfl
      have e9 := f7 1 _ e_1 (by decide) rfl
      have e10 := f7 2 _ e_2 (by decide) rfl
      have e11 := f7 3 _ e_3 (by decide) rfl
      refine wp_p (pc' := 60) (lv' := lv5) (st' := [.int (nI 0)]) rfl rfl ?_
      refine wl_st1 (pc' := 62) (k0 := 5) (v := .int (nI 0)) (r := []) rfl rfl (fun lv12 e13 f14 => ?_)
      have e15 := f14 0 _ e8 (by decide) rfl
      have e16 := f14 1 _ e9 (by decide) rfl
      have e17 := f14 2 _ e10 (by decide) rfl
      have e18 := f14 3 _ e11 (by decide) rfl
      have e19 := f14 4 _ e6 (by decide) rfl
      exact k _ ⟨e15, e16, e17, e18, e19, e13, trivial⟩
    · replace k := it_f (c := (nI 0) ≤ x2) c3 k
      refine wp_p (pc' := 48) (lv' := lv0) (st' := [.int (nI 1)]) rfl rfl ?_
      refine wp_p (pc' := 57) (lv' := lv0) (st' := [.int (nI 1)]) rfl rfl ?_
      refine wl_st1 (pc' := 59) (k0 := 4) (v := .int (nI 1)) (r := []) rfl rfl (fun lv20 e21 f22 => ?_)
      have e23 := f22 0 _ e_0 (by decide) rfl
      have e24 := f22 1 _ e_1 (by decide) rfl
      have e25 := f22 2 _ e_2 (by decide) rfl
      have e26 := f22 3 _ e_3 (by decide) rfl
      refine wp_p (pc' := 60) (lv' := lv20) (st' := [.int (nI 0)]) rfl rfl ?_
      refine wl_st1 (pc' := 62) (k0 := 5) (v := .int (nI 0)) (r := []) rfl rfl (fun lv27 e28 f29 => ?_)
      have e30 := f29 0 _ e23 (by decide) rfl
      have e31 := f29 1 _ e24 (by decide) rfl
      have e32 := f29 2 _ e25 (by decide) rfl
      have e33 := f29 3 _ e26 (by decide) rfl
      have e34 := f29 4 _ e21 (by decide) rfl
      exact k _ ⟨e30, e31, e32, e33, e34, e28, trivial⟩
set_option maxRecDepth 20000 in
theorem sg_184_199 {d : Nat} {m : Mm} {K : Option Value → Mm → Prop} (x1 : Int32) (x2 : Int32) (k : (if (m.F 42 48) ≤ (m.F 42 53) then WH (d + 1) 184 326 [(0, .ref 42), (1, .int x1), (2, .int x2)] [] m K else (if (m.F 42 32) ≤ (m.F 42 53) then WH (d + 1) 184 326 [(0, .ref 42), (1, .int x1), (2, .int x2)] [] m K else WP d 185 [.ref 42, .int x1, .int x2] m (fun v m3 => ∃ w4, v = some (.int w4) ∧ ok (m3.A 67).length w4 ∧ ok (m3.A 64).length w4 ∧ ok (m3.A 60).length x1 ∧ (if x2 < (nI 0) then WH (d + 1) 184 263 [(0, .ref 42), (1, .int x1), (2, .int x2)] [] ((m3.uA 67 ((m3.A 67).set (ix w4) (vp_nar .boolean (nI 1)))).uA 60 ((m3.A 60).set (ix x1) ((m3.A 64).getD (ix w4) 0))) K else ok (m3.A 65).length w4 ∧ ok ((m3.A 60).set (ix x1) ((m3.A 64).getD (ix w4) 0)).length x2 ∧ WH (d + 1) 184 263 [(0, .ref 42), (1, .int x1), (2, .int x2)] [] (((m3.uA 67 ((m3.A 67).set (ix w4) (vp_nar .boolean (nI 1)))).uA 60 ((m3.A 60).set (ix x1) ((m3.A 64).getD (ix w4) 0))).uA 60 (((m3.A 60).set (ix x1) ((m3.A 64).getD (ix w4) 0)).set (ix x2) ((m3.A 65).getD (ix w4) 0))) K))))) : WH (d + 1) 184 199 [(0, .ref 42), (1, .int x1), (2, .int x2)] [] m K := by
  intro lv0 el
  obtain ⟨e_0, e_1, e_2, _⟩ := el
  refine wl_ald_n (pc' := 200) rfl e_0 rfl ?_
  refine wp_get (v := .int (m.F 42 53)) (pc' := 203) rfl (hq_42 _) rfl rfl ?_
  refine wl_ald_n (pc' := 204) rfl e_0 rfl ?_
  refine wp_get (v := .int (m.F 42 48)) (pc' := 207) rfl (hq_42 _) rfl rfl ?_
  refine wp_ic_ge (pc' := 210) rfl rfl (fun c1 => ?_) (fun c1 => ?_)
  · replace k := it_t (c := (m.F 42 48) ≤ (m.F 42 53)) c1 k
    exact k _ ⟨e_0, e_1, e_2, trivial⟩
  · replace k := it_f (c := (m.F 42 48) ≤ (m.F 42 53)) c1 k
    refine wl_ald_n (pc' := 211) rfl e_0 rfl ?_
    refine wp_get (v := .int (m.F 42 53)) (pc' := 214) rfl (hq_42 _) rfl rfl ?_
    refine wl_ald_n (pc' := 215) rfl e_0 rfl ?_
    refine wp_get (v := .int (m.F 42 32)) (pc' := 218) rfl (hq_42 _) rfl rfl ?_
    refine wp_ic_ge (pc' := 221) rfl rfl (fun c2 => ?_) (fun c2 => ?_)
    · replace k := it_t (c := (m.F 42 32) ≤ (m.F 42 53)) c2 k
      exact k _ ⟨e_0, e_1, e_2, trivial⟩
    · replace k := it_f (c := (m.F 42 32) ≤ (m.F 42 53)) c2 k
      refine wl_ald_n (pc' := 222) rfl e_0 rfl ?_
      refine wl_ild_n (pc' := 223) rfl e_1 rfl ?_
      refine wl_ild_n (pc' := 224) rfl e_2 rfl ?_
      refine wl_cv (As := [.ref 42, .int x1, .int x2]) (r := []) (pc' := 227) rfl rfl rfl k ?_
      rintro _ m3 ⟨w4, rfl, k⟩
      show sm_wp (d + 1) 184 227 lv0 [.int w4] (hp m3) (WQ K)
      refine wl_st1 (pc' := 228) (k0 := 3) (v := .int w4) (r := []) rfl rfl (fun lv5 e6 f7 => ?_)
      have e8 := f7 0 _ e_0 (by decide) rfl
      have e9 := f7 1 _ e_1 (by decide) rfl
      have e10 := f7 2 _ e_2 (by decide) rfl
      refine wl_ald_n (pc' := 229) rfl e8 rfl ?_
      refine wp_get (v := .ref 67) (pc' := 232) rfl (hq_42 _) rfl rfl ?_
      refine wl_ild_n (pc' := 233) rfl e6 rfl ?_
      refine wp_p (pc' := 234) (lv' := lv5) (st' := [.int (nI 1), .int w4, .ref 67]) rfl rfl ?_
      obtain ⟨k11, k⟩ := k
      refine wl_bastore (g := m3.A 67) (pc' := 235) (h2 := hp (m3.uA 67 ((m3.A 67).set (ix w4) (vp_nar .boolean (nI 1))))) rfl (hq_67 _) k11 rfl (pa_67 _ _) ?_
      refine wl_ald_n (pc' := 236) rfl e8 rfl ?_
      refine wp_get (v := .ref 60) (pc' := 239) rfl (hq_42 _) rfl rfl ?_
      refine wl_ild_n (pc' := 240) rfl e9 rfl ?_
      refine wl_ald_n (pc' := 241) rfl e8 rfl ?_
      refine wp_get (v := .ref 64) (pc' := 244) rfl (hq_42 _) rfl rfl ?_
      refine wl_ild_n (pc' := 245) rfl e6 rfl ?_
      obtain ⟨k12, k⟩ := k
      refine wl_iaload (g := m3.A 64) (pc' := 246) rfl (hq_64 _) k12 rfl ?_
      obtain ⟨k13, k⟩ := k
      refine wl_iastore (g := m3.A 60) (pc' := 247) (h2 := hp ((m3.uA 67 ((m3.A 67).set (ix w4) (vp_nar .boolean (nI 1)))).uA 60 ((m3.A 60).set (ix x1) ((m3.A 64).getD (ix w4) 0)))) rfl (hq_60 _) k13 rfl (pa_60 _ _) ?_
      refine wl_ild_n (pc' := 248) rfl e10 rfl ?_
      refine wp_if_lt (pc' := 251) rfl rfl (fun c14 => ?_) (fun c14 => ?_)
      · replace k := it_t (c := x2 < (nI 0)) c14 k
        exact k _ ⟨e8, e9, e10, trivial⟩
      · replace k := it_f (c := x2 < (nI 0)) c14 k
        refine wl_ald_n (pc' := 252) rfl e8 rfl ?_
        refine wp_get (v := .ref 60) (pc' := 255) rfl (hq_42 _) rfl rfl ?_
        refine wl_ild_n (pc' := 256) rfl e10 rfl ?_
        refine wl_ald_n (pc' := 257) rfl e8 rfl ?_
        refine wp_get (v := .ref 65) (pc' := 260) rfl (hq_42 _) rfl rfl ?_
        refine wl_ild_n (pc' := 261) rfl e6 rfl ?_
        obtain ⟨k15, k⟩ := k
        refine wl_iaload (g := m3.A 65) (pc' := 262) rfl (hq_65 _) k15 rfl ?_
        obtain ⟨k16, k⟩ := k
        refine wl_iastore (g := (m3.A 60).set (ix x1) ((m3.A 64).getD (ix w4) 0)) (pc' := 263) (h2 := hp (((m3.uA 67 ((m3.A 67).set (ix w4) (vp_nar .boolean (nI 1)))).uA 60 ((m3.A 60).set (ix x1) ((m3.A 64).getD (ix w4) 0))).uA 60 (((m3.A 60).set (ix x1) ((m3.A 64).getD (ix w4) 0)).set (ix x2) ((m3.A 65).getD (ix w4) 0)))) rfl (hq_60 _) k16 rfl (pa_60 _ _) ?_
        exact k _ ⟨e8, e9, e10, trivial⟩
set_option maxRecDepth 20000 in
theorem sg_184_62 {d : Nat} {m : Mm} {K : Option Value → Mm → Prop} (x1 : Int32) (x2 : Int32) (x3 : Int32) (x4 : Int32) (x5 : Int32) (k : (if x4 ≤ x5 then WH d 184 33 [(0, .ref 42), (1, .int x1), (2, .int x2), (3, .int (x3 + nI 1))] [] m K else ok (m.A 60).length x1 ∧ (if x2 < (nI 0) then WH d 184 88 [(0, .ref 42), (1, .int x1), (2, .int x2), (3, .int x3), (4, .int x4), (5, .int x5)] [] (m.uA 60 ((m.A 60).set (ix x1) x3)) K else ok ((m.A 60).set (ix x1) x3).length x2 ∧ WH d 184 88 [(0, .ref 42), (1, .int x1), (2, .int x2), (3, .int x3), (4, .int x4), (5, .int x5)] [] ((m.uA 60 ((m.A 60).set (ix x1) x3)).uA 60 (((m.A 60).set (ix x1) x3).set (ix x2) x5)) K))) : WH d 184 62 [(0, .ref 42), (1, .int x1), (2, .int x2), (3, .int x3), (4, .int x4), (5, .int x5)] [] m K := by
  intro lv0 el
  obtain ⟨e_0, e_1, e_2, e_3, e_4, e_5, _⟩ := el
  refine wl_ild (pc' := 64) rfl e_5 rfl ?_
  refine wl_ild (pc' := 66) rfl e_4 rfl ?_
  refine wp_ic_ge (pc' := 69) rfl rfl (fun c1 => ?_) (fun c1 => ?_)
  · replace k := it_t (c := x4 ≤ x5) c1 k
    refine wl_iinc (pc' := 188) (v := x3 + nI 1) rfl e_3 rfl rfl rfl (fun lv2 e3 f4 => ?_)
    have e5 := f4 0 _ e_0 (by decide) rfl
    have e6 := f4 1 _ e_1 (by decide) rfl
    have e7 := f4 2 _ e_2 (by decide) rfl
    have e8 := f4 4 _ e_4 (by decide) rfl
    have e9 := f4 5 _ e_5 (by decide) rfl
    refine wp_p (pc' := 33) (lv' := lv2) (st' := []) rfl rfl ?_
    exact k _ ⟨e5, e6, e7, e3, trivial⟩
  · replace k := it_f (c := x4 ≤ x5) c1 k
    refine wl_ald_n (pc' := 70) rfl e_0 rfl ?_
    refine wp_get (v := .ref 60) (pc' := 73) rfl (hq_42 _) rfl rfl ?_
    refine wl_ild_n (pc' := 74) rfl e_1 rfl ?_
    refine wl_ild_n (pc' := 75) rfl e_3 rfl ?_
    obtain ⟨k10, k⟩ := k
    refine wl_iastore (g := m.A 60) (pc' := 76) (h2 := hp (m.uA 60 ((m.A 60).set (ix x1) x3))) rfl (hq_60 _) k10 rfl (pa_60 _ _) ?_
    refine wl_ild_n (pc' := 77) rfl e_2 rfl ?_
    refine wp_if_lt (pc' := 80) rfl rfl (fun c11 => ?_) (fun c11 => ?_)
    · replace k := it_t (c := x2 < (nI 0)) c11 k
      exact k _ ⟨e_0, e_1, e_2, e_3, e_4, e_5, trivial⟩
    · replace k := it_f (c := x2 < (nI 0)) c11 k
      refine wl_ald_n (pc' := 81) rfl e_0 rfl ?_
      refine wp_get (v := .ref 60) (pc' := 84) rfl (hq_42 _) rfl rfl ?_
      refine wl_ild_n (pc' := 85) rfl e_2 rfl ?_
      refine wl_ild (pc' := 87) rfl e_5 rfl ?_
      obtain ⟨k12, k⟩ := k
      refine wl_iastore (g := (m.A 60).set (ix x1) x3) (pc' := 88) (h2 := hp ((m.uA 60 ((m.A 60).set (ix x1) x3)).uA 60 (((m.A 60).set (ix x1) x3).set (ix x2) x5))) rfl (hq_60 _) k12 rfl (pa_60 _ _) ?_
      exact k _ ⟨e_0, e_1, e_2, e_3, e_4, e_5, trivial⟩
set_option maxRecDepth 20000 in
theorem sg_184_326 {d : Nat} {m : Mm} {K : Option Value → Mm → Prop} (x1 : Int32) (x2 : Int32) (k : (if (nI 0) ≤ x2 then WP d 178 [.ref 42] m (fun v m2 => v = none ∧ WH (d + 1) 184 342 [] [] m2 K) else WP d 177 [.ref 42, .int x1] m (fun v m3 => v = none ∧ WH (d + 1) 184 342 [] [] m3 K))) : WH (d + 1) 184 326 [(0, .ref 42), (1, .int x1), (2, .int x2)] [] m K := by
  intro lv0 el
  obtain ⟨e_0, e_1, e_2, _⟩ := el
  refine wl_ild_n (pc' := 327) rfl e_2 rfl ?_
  refine wp_if_ge (pc' := 330) rfl rfl (fun c1 => ?_) (fun c1 => ?_)
  · replace k := it_t (c := (nI 0) ≤ x2) c1 k
    refine wl_ald_n (pc' := 339) rfl e_0 rfl ?_
    refine wl_cv (As := [.ref 42]) (r := []) (pc' := 342) rfl rfl rfl k ?_
    rintro _ m2 ⟨rfl, k⟩
    show sm_wp (d + 1) 184 342 lv0 [] (hp m2) (WQ K)
    exact k _ trivial
  · replace k := it_f (c := (nI 0) ≤ x2) c1 k
    refine wl_ald_n (pc' := 331) rfl e_0 rfl ?_
    refine wl_ild_n (pc' := 332) rfl e_1 rfl ?_
    refine wl_cv (As := [.ref 42, .int x1]) (r := []) (pc' := 335) rfl rfl rfl k ?_
    rintro _ m3 ⟨rfl, k⟩
    show sm_wp (d + 1) 184 335 lv0 [] (hp m3) (WQ K)
    refine wp_p (pc' := 342) (lv' := lv0) (st' := []) rfl rfl ?_
    exact k _ trivial
set_option maxRecDepth 20000 in
theorem sg_184_263 {d : Nat} {m : Mm} {K : Option Value → Mm → Prop} (x1 : Int32) (x2 : Int32) (k : WH d 184 266 [(0, .ref 42), (1, .int x1), (2, .int x2), (4, .int (nI 0))] [] m K) : WH d 184 263 [(0, .ref 42), (1, .int x1), (2, .int x2)] [] m K := by
  intro lv0 el
  obtain ⟨e_0, e_1, e_2, _⟩ := el
  refine wp_p (pc' := 264) (lv' := lv0) (st' := [.int (nI 0)]) rfl rfl ?_
  refine wl_st1 (pc' := 266) (k0 := 4) (v := .int (nI 0)) (r := []) rfl rfl (fun lv1 e2 f3 => ?_)
  have e4 := f3 0 _ e_0 (by decide) rfl
  have e5 := f3 1 _ e_1 (by decide) rfl
  have e6 := f3 2 _ e_2 (by decide) rfl
  exact k _ ⟨e4, e5, e6, e2, trivial⟩
set_option maxRecDepth 20000 in
theorem sg_184_88 {d : Nat} {m : Mm} {K : Option Value → Mm → Prop} (x1 : Int32) (x2 : Int32) (x3 : Int32) (x4 : Int32) (x5 : Int32) (k : WP d 169 [.ref 42] m (fun v m1 => ∃ w2, v = some (.int w2) ∧ (if w2 = (nI 0) then WH (d + 1) 184 179 [(0, .ref 42), (1, .int x1), (2, .int x2), (3, .int x3), (4, .int x4), (5, .int x5)] [] m1 K else (if (m1.F 42 48) = (nI 60) then K (some (.int (nI 5))) m1 else ok (m1.A 64).length (m1.F 42 48) ∧ ok (m1.A 65).length (m1.F 42 48) ∧ (if (m1.F 42 28) = (nI 0) then ok (m1.B 66).length (m1.F 42 48) ∧ ok (m1.A 67).length (m1.F 42 48) ∧ WH (d + 1) 184 179 [(0, .ref 42), (1, .int x1), (2, .int x2), (3, .int x3), (4, .int x4), (5, .int x5)] [] (((((m1.uA 64 ((m1.A 64).set (ix (m1.F 42 48)) x3)).uA 65 ((m1.A 65).set (ix (m1.F 42 48)) x5)).uB 66 ((m1.B 66).set (ix (m1.F 42 48)) 0)).uA 67 ((m1.A 67).set (ix (m1.F 42 48)) (vp_nar .boolean (nI 0)))).uF 42 48 ((m1.F 42 48) + (nI 1))) K else WP d 167 [.ref 42, .int (m1.F 42 30), .int (m1.F 42 31)] ((m1.uA 64 ((m1.A 64).set (ix (m1.F 42 48)) x3)).uA 65 ((m1.A 65).set (ix (m1.F 42 48)) x5)) (fun v m10 => ∃ w11, v = some (.long w11) ∧ ok (m10.B 66).length (m1.F 42 48) ∧ ok (m10.A 67).length (m10.F 42 48) ∧ WH (d + 1) 184 179 [(0, .ref 42), (1, .int x1), (2, .int x2), (3, .int x3), (4, .int x4), (5, .int x5)] [] (((m10.uB 66 ((m10.B 66).set (ix (m1.F 42 48)) w11)).uA 67 ((m10.A 67).set (ix (m10.F 42 48)) (vp_nar .boolean (nI 0)))).uF 42 48 ((m10.F 42 48) + (nI 1))) K)))))) : WH (d + 1) 184 88 [(0, .ref 42), (1, .int x1), (2, .int x2), (3, .int x3), (4, .int x4), (5, .int x5)] [] m K := by
  intro lv0 el
  obtain ⟨e_0, e_1, e_2, e_3, e_4, e_5, _⟩ := el
  refine wl_ald_n (pc' := 89) rfl e_0 rfl ?_
  refine wl_cv (As := [.ref 42]) (r := []) (pc' := 92) rfl rfl rfl k ?_
  rintro _ m1 ⟨w2, rfl, k⟩
  show sm_wp (d + 1) 184 92 lv0 [.int w2] (hp m1) (WQ K)
  refine wp_if_eq (pc' := 95) rfl rfl (fun c3 => ?_) (fun c3 => ?_)
  · replace k := it_t (c := w2 = (nI 0)) c3 k
    exact k _ ⟨e_0, e_1, e_2, e_3, e_4, e_5, trivial⟩
  · replace k := it_f (c := w2 = (nI 0)) c3 k
    refine wl_ald_n (pc' := 96) rfl e_0 rfl ?_
    refine wp_get (v := .int (m1.F 42 48)) (pc' := 99) rfl (hq_42 _) rfl rfl ?_
    refine wp_p (pc' := 101) (lv' := lv0) (st' := [.int (nI 60), .int (m1.F 42 48)]) rfl rfl ?_
    refine wp_ic_ne (pc' := 104) rfl rfl (fun c4 => ?_) (fun c4 => ?_)
    · replace k := it_f (c := (m1.F 42 48) = (nI 60)) c4 k
      refine wl_ald_n (pc' := 107) rfl e_0 rfl ?_
      refine wp_get (v := .ref 64) (pc' := 110) rfl (hq_42 _) rfl rfl ?_
      refine wl_ald_n (pc' := 111) rfl e_0 rfl ?_
      refine wp_get (v := .int (m1.F 42 48)) (pc' := 114) rfl (hq_42 _) rfl rfl ?_
      refine wl_ild_n (pc' := 115) rfl e_3 rfl ?_
      obtain ⟨k5, k⟩ := k
      refine wl_iastore (g := m1.A 64) (pc' := 116) (h2 := hp (m1.uA 64 ((m1.A 64).set (ix (m1.F 42 48)) x3))) rfl (hq_64 _) k5 rfl (pa_64 _ _) ?_
      refine wl_ald_n (pc' := 117) rfl e_0 rfl ?_
      refine wp_get (v := .ref 65) (pc' := 120) rfl (hq_42 _) rfl rfl ?_
      refine wl_ald_n (pc' := 121) rfl e_0 rfl ?_
      refine wp_get (v := .int (m1.F 42 48)) (pc' := 124) rfl (hq_42 _) rfl rfl ?_
      refine wl_ild (pc' := 126) rfl e_5 rfl ?_
      obtain ⟨k6, k⟩ := k
      refine wl_iastore (g := m1.A 65) (pc' := 127) (h2 := hp ((m1.uA 64 ((m1.A 64).set (ix (m1.F 42 48)) x3)).uA 65 ((m1.A 65).set (ix (m1.F 42 48)) x5))) rfl (hq_65 _) k6 rfl (pa_65 _ _) ?_
      refine wl_ald_n (pc' := 128) rfl e_0 rfl ?_
      refine wp_get (v := .ref 66) (pc' := 131) rfl (hq_42 _) rfl rfl ?_
      refine wl_ald_n (pc' := 132) rfl e_0 rfl ?_
      refine wp_get (v := .int (m1.F 42 48)) (pc' := 135) rfl (hq_42 _) rfl rfl ?_
      refine wl_ald_n (pc' := 136) rfl e_0 rfl ?_
      refine wp_get (v := .int (m1.F 42 28)) (pc' := 139) rfl (hq_42 _) rfl rfl ?_
      refine wp_if_eq (pc' := 142) rfl rfl (fun c7 => ?_) (fun c7 => ?_)
      · replace k := it_t (c := (m1.F 42 28) = (nI 0)) c7 k
        refine wp_p (pc' := 158) (lv' := lv0) (st' := [.long 0, .int (m1.F 42 48), .ref 66]) rfl rfl ?_
        obtain ⟨k8, k⟩ := k
        refine wl_lastore (g := m1.B 66) (pc' := 159) (h2 := hp (((m1.uA 64 ((m1.A 64).set (ix (m1.F 42 48)) x3)).uA 65 ((m1.A 65).set (ix (m1.F 42 48)) x5)).uB 66 ((m1.B 66).set (ix (m1.F 42 48)) 0))) rfl (hq_66 _) k8 rfl (pa_66 _ _) ?_
        refine wl_ald_n (pc' := 160) rfl e_0 rfl ?_
        refine wp_get (v := .ref 67) (pc' := 163) rfl (hq_42 _) rfl rfl ?_
        refine wl_ald_n (pc' := 164) rfl e_0 rfl ?_
        refine wp_get (v := .int (m1.F 42 48)) (pc' := 167) rfl (hq_42 _) rfl rfl ?_
        refine wp_p (pc' := 168) (lv' := lv0) (st' := [.int (nI 0), .int (m1.F 42 48), .ref 67]) rfl rfl ?_
        obtain ⟨k9, k⟩ := k
        refine wl_bastore (g := m1.A 67) (pc' := 169) (h2 := hp ((((m1.uA 64 ((m1.A 64).set (ix (m1.F 42 48)) x3)).uA 65 ((m1.A 65).set (ix (m1.F 42 48)) x5)).uB 66 ((m1.B 66).set (ix (m1.F 42 48)) 0)).uA 67 ((m1.A 67).set (ix (m1.F 42 48)) (vp_nar .boolean (nI 0))))) rfl (hq_67 _) k9 rfl (pa_67 _ _) ?_
        refine wl_ald_n (pc' := 170) rfl e_0 rfl ?_
        refine wp_p (pc' := 171) (lv' := lv0) (st' := [.ref 42, .ref 42]) rfl rfl ?_
        refine wp_get (v := .int (m1.F 42 48)) (pc' := 174) rfl (hq_42 _) rfl rfl ?_
        refine wp_p (pc' := 175) (lv' := lv0) (st' := [.int (nI 1), .int (m1.F 42 48), .ref 42]) rfl rfl ?_
        refine wp_iadd (v := (m1.F 42 48) + (nI 1)) (pc' := 176) rfl rfl rfl ?_
        refine wl_put (pc' := 179) (h2 := hp (((((m1.uA 64 ((m1.A 64).set (ix (m1.F 42 48)) x3)).uA 65 ((m1.A 65).set (ix (m1.F 42 48)) x5)).uB 66 ((m1.B 66).set (ix (m1.F 42 48)) 0)).uA 67 ((m1.A 67).set (ix (m1.F 42 48)) (vp_nar .boolean (nI 0)))).uF 42 48 ((m1.F 42 48) + (nI 1)))) rfl (hq_42 _) rfl rfl rfl (pf_42_48 _ _) ?_
        exact k _ ⟨e_0, e_1, e_2, e_3, e_4, e_5, trivial⟩
      · replace k := it_f (c := (m1.F 42 28) = (nI 0)) c7 k
        refine wl_ald_n (pc' := 143) rfl e_0 rfl ?_
        refine wl_ald_n (pc' := 144) rfl e_0 rfl ?_
        refine wp_get (v := .int (m1.F 42 30)) (pc' := 147) rfl (hq_42 _) rfl rfl ?_
        refine wl_ald_n (pc' := 148) rfl e_0 rfl ?_
        refine wp_get (v := .int (m1.F 42 31)) (pc' := 151) rfl (hq_42 _) rfl rfl ?_
        refine wl_cv (As := [.ref 42, .int (m1.F 42 30), .int (m1.F 42 31)]) (r := [.int (m1.F 42 48), .ref 66]) (pc' := 154) rfl rfl rfl k ?_
        rintro _ m10 ⟨w11, rfl, k⟩
        show sm_wp (d + 1) 184 154 lv0 [.long w11, .int (m1.F 42 48), .ref 66] (hp m10) (WQ K)
        refine wp_p (pc' := 158) (lv' := lv0) (st' := [.long w11, .int (m1.F 42 48), .ref 66]) rfl rfl ?_
        obtain ⟨k12, k⟩ := k
        refine wl_lastore (g := m10.B 66) (pc' := 159) (h2 := hp (m10.uB 66 ((m10.B 66).set (ix (m1.F 42 48)) w11))) rfl (hq_66 _) k12 rfl (pa_66 _ _) ?_
        refine wl_ald_n (pc' := 160) rfl e_0 rfl ?_
        refine wp_get (v := .ref 67) (pc' := 163) rfl (hq_42 _) rfl rfl ?_
        refine wl_ald_n (pc' := 164) rfl e_0 rfl ?_
        refine wp_get (v := .int (m10.F 42 48)) (pc' := 167) rfl (hq_42 _) rfl rfl ?_
        refine wp_p (pc' := 168) (lv' := lv0) (st' := [.int (nI 0), .int (m10.F 42 48), .ref 67]) rfl rfl ?_
        obtain ⟨k13, k⟩ := k
        refine wl_bastore (g := m10.A 67) (pc' := 169) (h2 := hp ((m10.uB 66 ((m10.B 66).set (ix (m1.F 42 48)) w11)).uA 67 ((m10.A 67).set (ix (m10.F 42 48)) (vp_nar .boolean (nI 0))))) rfl (hq_67 _) k13 rfl (pa_67 _ _) ?_
        refine wl_ald_n (pc' := 170) rfl e_0 rfl ?_
        refine wp_p (pc' := 171) (lv' := lv0) (st' := [.ref 42, .ref 42]) rfl rfl ?_
        refine wp_get (v := .int (m10.F 42 48)) (pc' := 174) rfl (hq_42 _) rfl rfl ?_
        refine wp_p (pc' := 175) (lv' := lv0) (st' := [.int (nI 1), .int (m10.F 42 48), .ref 42]) rfl rfl ?_
        refine wp_iadd (v := (m10.F 42 48) + (nI 1)) (pc' := 176) rfl rfl rfl ?_
        refine wl_put (pc' := 179) (h2 := hp (((m10.uB 66 ((m10.B 66).set (ix (m1.F 42 48)) w11)).uA 67 ((m10.A 67).set (ix (m10.F 42 48)) (vp_nar .boolean (nI 0)))).uF 42 48 ((m10.F 42 48) + (nI 1)))) rfl (hq_42 _) rfl rfl rfl (pf_42_48 _ _) ?_
        exact k _ ⟨e_0, e_1, e_2, e_3, e_4, e_5, trivial⟩
    · replace k := it_t (c := (m1.F 42 48) = (nI 60)) c4 k
      refine wp_p (pc' := 105) (lv' := lv0) (st' := [.int (nI 5)]) rfl rfl ?_
      exact wl_ret rfl rfl ⟨_, rfl, k⟩
set_option maxRecDepth 20000 in
theorem sg_184_342 {d : Nat} {m : Mm} {K : Option Value → Mm → Prop} (k : K (some (.int (nI 0))) m) : WH d 184 342 [] [] m K := by
  intro lv0 el
  refine wp_p (pc' := 343) (lv' := lv0) (st' := [.int (nI 0)]) rfl rfl ?_
  exact wl_ret rfl rfl ⟨_, rfl, k⟩
set_option maxRecDepth 20000 in
theorem sg_184_266 {d : Nat} {m : Mm} {K : Option Value → Mm → Prop} (x1 : Int32) (x2 : Int32) (x4 : Int32) (k : (if (m.F 42 22) ≤ x4 then WH (d + 1) 184 199 [(0, .ref 42), (1, .int x1), (2, .int x2)] [] (m.uF 42 53 ((m.F 42 53) + (nI 1))) K else ok (m.A 51).length x4 ∧ ok (m.A 52).length x4 ∧ WP d 167 [.ref 42, .int ((m.A 51).getD (ix x4) 0), .int ((m.A 52).getD (ix x4) 0)] m (fun v m4 => ∃ w5, v = some (.long w5) ∧ ok (m4.B 68).length (((nI 3) * (m.F 42 53)) + x4) ∧ WH (d + 1) 184 266 [(0, .ref 42), (1, .int x1), (2, .int x2), (4, .int (x4 + nI 1))] [] (m4.uB 68 ((m4.B 68).set (ix (((nI 3) * (m.F 42 53)) + x4)) w5)) K))) : WH (d + 1) 184 266 [(0, .ref 42), (1, .int x1), (2, .int x2), (4, .int x4)] [] m K := by
  intro lv0 el
  obtain ⟨e_0, e_1, e_2, e_4, _⟩ := el
  refine wl_ild (pc' := 268) rfl e_4 rfl ?_
  refine wl_ald_n (pc' := 269) rfl e_0 rfl ?_
  refine wp_get (v := .int (m.F 42 22)) (pc' := 272) rfl (hq_42 _) rfl rfl ?_
  refine wp_ic_ge (pc' := 275) rfl rfl (fun c1 => ?_) (fun c1 => ?_)
  · replace k := it_t (c := (m.F 42 22) ≤ x4) c1 k
    refine wl_ald_n (pc' := 314) rfl e_0 rfl ?_
    refine wp_p (pc' := 315) (lv' := lv0) (st' := [.ref 42, .ref 42]) rfl rfl ?_
    refine wp_get (v := .int (m.F 42 53)) (pc' := 318) rfl (hq_42 _) rfl rfl ?_
    refine wp_p (pc' := 319) (lv' := lv0) (st' := [.int (nI 1), .int (m.F 42 53), .ref 42]) rfl rfl ?_
    refine wp_iadd (v := (m.F 42 53) + (nI 1)) (pc' := 320) rfl rfl rfl ?_
    refine wl_put (pc' := 323) (h2 := hp (m.uF 42 53 ((m.F 42 53) + (nI 1)))) rfl (hq_42 _) rfl rfl rfl (pf_42_53 _ _) ?_
    refine wp_p (pc' := 199) (lv' := lv0) (st' := []) rfl rfl ?_
    exact k _ ⟨e_0, e_1, e_2, trivial⟩
  · replace k := it_f (c := (m.F 42 22) ≤ x4) c1 k
    refine wl_ald_n (pc' := 276) rfl e_0 rfl ?_
    refine wp_get (v := .ref 68) (pc' := 279) rfl (hq_42 _) rfl rfl ?_
    refine wp_p (pc' := 280) (lv' := lv0) (st' := [.int (nI 3), .ref 68]) rfl rfl ?_
    refine wl_ald_n (pc' := 281) rfl e_0 rfl ?_
    refine wp_get (v := .int (m.F 42 53)) (pc' := 284) rfl (hq_42 _) rfl rfl ?_
    refine wp_imul (v := (nI 3) * (m.F 42 53)) (pc' := 285) rfl rfl rfl ?_
    refine wl_ild (pc' := 287) rfl e_4 rfl ?_
    refine wp_iadd (v := ((nI 3) * (m.F 42 53)) + x4) (pc' := 288) rfl rfl rfl ?_
    refine wl_ald_n (pc' := 289) rfl e_0 rfl ?_
    refine wl_ald_n (pc' := 290) rfl e_0 rfl ?_
    refine wp_get (v := .ref 51) (pc' := 293) rfl (hq_42 _) rfl rfl ?_
    refine wl_ild (pc' := 295) rfl e_4 rfl ?_
    obtain ⟨k2, k⟩ := k
    refine wl_iaload (g := m.A 51) (pc' := 296) rfl (hq_51 _) k2 rfl ?_
    refine wl_ald_n (pc' := 297) rfl e_0 rfl ?_
    refine wp_get (v := .ref 52) (pc' := 300) rfl (hq_42 _) rfl rfl ?_
    refine wl_ild (pc' := 302) rfl e_4 rfl ?_
    obtain ⟨k3, k⟩ := k
    refine wl_iaload (g := m.A 52) (pc' := 303) rfl (hq_52 _) k3 rfl ?_
    refine wl_cv (As := [.ref 42, .int ((m.A 51).getD (ix x4) 0), .int ((m.A 52).getD (ix x4) 0)]) (r := [.int (((nI 3) * (m.F 42 53)) + x4), .ref 68]) (pc' := 306) rfl rfl rfl k ?_
    rintro _ m4 ⟨w5, rfl, k⟩
    show sm_wp (d + 1) 184 306 lv0 [.long w5, .int (((nI 3) * (m.F 42 53)) + x4), .ref 68] (hp m4) (WQ K)
    obtain ⟨k6, k⟩ := k
    refine wl_lastore (g := m4.B 68) (pc' := 307) (h2 := hp (m4.uB 68 ((m4.B 68).set (ix (((nI 3) * (m.F 42 53)) + x4)) w5))) rfl (hq_68 _) k6 rfl (pa_68 _ _) ?_
    refine wl_iinc (pc' := 310) (v := x4 + nI 1) rfl e_4 rfl rfl rfl (fun lv7 e8 f9 => ?_)
    have e10 := f9 0 _ e_0 (by decide) rfl
    have e11 := f9 1 _ e_1 (by decide) rfl
    have e12 := f9 2 _ e_2 (by decide) rfl
    refine wp_p (pc' := 266) (lv' := lv7) (st' := []) rfl rfl ?_
    exact k _ ⟨e10, e11, e12, e8, trivial⟩
set_option maxRecDepth 20000 in
theorem sg_184_179 {d : Nat} {m : Mm} {K : Option Value → Mm → Prop} (x1 : Int32) (x2 : Int32) (x3 : Int32) (x4 : Int32) (x5 : Int32) (k : WH d 184 62 [(0, .ref 42), (1, .int x1), (2, .int x2), (3, .int x3), (4, .int x4), (5, .int (x5 + nI 1))] [] m K) : WH d 184 179 [(0, .ref 42), (1, .int x1), (2, .int x2), (3, .int x3), (4, .int x4), (5, .int x5)] [] m K := by
  intro lv0 el
  obtain ⟨e_0, e_1, e_2, e_3, e_4, e_5, _⟩ := el
  refine wl_iinc (pc' := 182) (v := x5 + nI 1) rfl e_5 rfl rfl rfl (fun lv1 e2 f3 => ?_)
  have e4 := f3 0 _ e_0 (by decide) rfl
  have e5 := f3 1 _ e_1 (by decide) rfl
  have e6 := f3 2 _ e_2 (by decide) rfl
  have e7 := f3 3 _ e_3 (by decide) rfl
  have e8 := f3 4 _ e_4 (by decide) rfl
  refine wp_p (pc' := 62) (lv' := lv1) (st' := []) rfl rfl ?_
  exact k _ ⟨e4, e5, e6, e7, e8, e2, trivial⟩
/-! 185: QueryTablesModel.next -/
set_option maxRecDepth 20000 in
theorem sp_185 {d : Nat} {m : Mm} {K : Option Value → Mm → Prop} (x1 : Int32) (x2 : Int32) (k : WH d 185 5 [(0, .ref 42), (1, .int x1), (2, .int x2), (3, .int (-1)), (4, .int (nI 0))] [] m K) : WP d 185 [.ref 42, .int x1, .int x2] m K := by
  have e_0 : sm_lk (lv_args 0 [.ref 42, .int x1, .int x2]) 0 = some (.ref 42) := rfl
  have e_1 : sm_lk (lv_args 0 [.ref 42, .int x1, .int x2]) 1 = some (.int x1) := rfl
  have e_2 : sm_lk (lv_args 0 [.ref 42, .int x1, .int x2]) 2 = some (.int x2) := rfl
  show sm_wp d 185 0 (lv_args 0 [.ref 42, .int x1, .int x2]) [] (hp m) (WQ K)
  generalize lv_args 0 [.ref 42, .int x1, .int x2] = lv0 at *
  refine wp_p (pc' := 1) (lv' := lv0) (st' := [.int (-1)]) rfl rfl ?_
  refine wl_st1 (pc' := 2) (k0 := 3) (v := .int (-1)) (r := []) rfl rfl (fun lv1 e2 f3 => ?_)
  have e4 := f3 0 _ e_0 (by decide) rfl
  have e5 := f3 1 _ e_1 (by decide) rfl
  have e6 := f3 2 _ e_2 (by decide) rfl
  refine wp_p (pc' := 3) (lv' := lv1) (st' := [.int (nI 0)]) rfl rfl ?_
  refine wl_st1 (pc' := 5) (k0 := 4) (v := .int (nI 0)) (r := []) rfl rfl (fun lv7 e8 f9 => ?_)
  have e10 := f9 0 _ e4 (by decide) rfl
  have e11 := f9 1 _ e5 (by decide) rfl
  have e12 := f9 2 _ e6 (by decide) rfl
  have e13 := f9 3 _ e2 (by decide) rfl
  exact k _ ⟨e10, e11, e12, e13, e8, trivial⟩
set_option maxRecDepth 20000 in
theorem sg_185_5 {d : Nat} {m : Mm} {K : Option Value → Mm → Prop} (x1 : Int32) (x2 : Int32) (x3 : Int32) (x4 : Int32) (k : (if (m.F 42 48) ≤ x4 then K (some (.int x3)) m else ok (m.A 67).length x4 ∧ (if ((m.A 67).getD (ix x4) 0) = (nI 0) then (if x3 < (nI 0) then WH (d + 1) 185 5 [(0, .ref 42), (1, .int x1), (2, .int x2), (3, .int x4), (4, .int (x4 + nI 1))] [] m K else WP d 186 [.ref 42, .int x4, .int x3, .int x1, .int x2] m (fun v m26 => ∃ w27, v = some (.int w27) ∧ (if w27 = (nI 0) then WH (d + 1) 185 5 [(0, .ref 42), (1, .int x1), (2, .int x2), (3, .int x3), (4, .int (x4 + nI 1))] [] m26 K else WH (d + 1) 185 5 [(0, .ref 42), (1, .int x1), (2, .int x2), (3, .int x4), (4, .int (x4 + nI 1))] [] m26 K))) else WH (d + 1) 185 5 [(0, .ref 42), (1, .int x1), (2, .int x2), (3, .int x3), (4, .int (x4 + nI 1))] [] m K))) : WH (d + 1) 185 5 [(0, .ref 42), (1, .int x1), (2, .int x2), (3, .int x3), (4, .int x4)] [] m K := by
  intro lv0 el
  obtain ⟨e_0, e_1, e_2, e_3, e_4, _⟩ := el
  refine wl_ild (pc' := 7) rfl e_4 rfl ?_
  refine wl_ald_n (pc' := 8) rfl e_0 rfl ?_
  refine wp_get (v := .int (m.F 42 48)) (pc' := 11) rfl (hq_42 _) rfl rfl ?_
  refine wp_ic_ge (pc' := 14) rfl rfl (fun c1 => ?_) (fun c1 => ?_)
  · replace k := it_t (c := (m.F 42 48) ≤ x4) c1 k
    refine wl_ild_n (pc' := 50) rfl e_3 rfl ?_
    exact wl_ret rfl rfl ⟨_, rfl, k⟩
  · replace k := it_f (c := (m.F 42 48) ≤ x4) c1 k
    refine wl_ald_n (pc' := 15) rfl e_0 rfl ?_
    refine wp_get (v := .ref 67) (pc' := 18) rfl (hq_42 _) rfl rfl ?_
    refine wl_ild (pc' := 20) rfl e_4 rfl ?_
    obtain ⟨k2, k⟩ := k
    refine wl_baload (g := m.A 67) (pc' := 21) rfl (hq_67 _) k2 rfl ?_
    refine wp_if_ne (pc' := 24) rfl rfl (fun c3 => ?_) (fun c3 => ?_)
    · replace k := it_f (c := ((m.A 67).getD (ix x4) 0) = (nI 0)) c3 k
      refine wl_iinc (pc' := 46) (v := x4 + nI 1) rfl e_4 rfl rfl rfl (fun lv4 e5 f6 => ?_)
      have e7 := f6 0 _ e_0 (by decide) rfl
      have e8 := f6 1 _ e_1 (by decide) rfl
      have e9 := f6 2 _ e_2 (by decide) rfl
      have e10 := f6 3 _ e_3 (by decide) rfl
      refine wp_p (pc' := 5) (lv' := lv4) (st' := []) rfl rfl ?_
      exact k _ ⟨e7, e8, e9, e10, e5, trivial⟩
    · replace k := it_t (c := ((m.A 67).getD (ix x4) 0) = (nI 0)) c3 k
      refine wl_ild_n (pc' := 25) rfl e_3 rfl ?_
      refine wp_if_lt (pc' := 28) rfl rfl (fun c11 => ?_) (fun c11 => ?_)
      · replace k := it_t (c := x3 < (nI 0)) c11 k
        refine wl_ild (pc' := 42) rfl e_4 rfl ?_
        refine wl_st1 (pc' := 43) (k0 := 3) (v := .int x4) (r := []) rfl rfl (fun lv12 e13 f14 => ?_)
        have e15 := f14 0 _ e_0 (by decide) rfl
        have e16 := f14 1 _ e_1 (by decide) rfl
        have e17 := f14 2 _ e_2 (by decide) rfl
        have e18 := f14 4 _ e_4 (by decide) rfl
        refine wl_iinc (pc' := 46) (v := x4 + nI 1) rfl e18 rfl rfl rfl (fun lv19 e20 f21 => ?_)
        have e22 := f21 0 _ e15 (by decide) rfl
        have e23 := f21 1 _ e16 (by decide) rfl
        have e24 := f21 2 _ e17 (by decide) rfl
        have e25 := f21 3 _ e13 (by decide) rfl
        refine wp_p (pc' := 5) (lv' := lv19) (st' := []) rfl rfl ?_
        exact k _ ⟨e22, e23, e24, e25, e20, trivial⟩
      · replace k := it_f (c := x3 < (nI 0)) c11 k
        refine wl_ald_n (pc' := 29) rfl e_0 rfl ?_
        refine wl_ild (pc' := 31) rfl e_4 rfl ?_
        refine wl_ild_n (pc' := 32) rfl e_3 rfl ?_
        refine wl_ild_n (pc' := 33) rfl e_1 rfl ?_
        refine wl_ild_n (pc' := 34) rfl e_2 rfl ?_
        refine wl_cv (As := [.ref 42, .int x4, .int x3, .int x1, .int x2]) (r := []) (pc' := 37) rfl rfl rfl k ?_
        rintro _ m26 ⟨w27, rfl, k⟩
        show sm_wp (d + 1) 185 37 lv0 [.int w27] (hp m26) (WQ K)
        refine wp_if_eq (pc' := 40) rfl rfl (fun c28 => ?_) (fun c28 => ?_)
        · replace k := it_t (c := w27 = (nI 0)) c28 k
          refine wl_iinc (pc' := 46) (v := x4 + nI 1) rfl e_4 rfl rfl rfl (fun lv29 e30 f31 => ?_)
          have e32 := f31 0 _ e_0 (by decide) rfl
          have e33 := f31 1 _ e_1 (by decide) rfl
          have e34 := f31 2 _ e_2 (by decide) rfl
          have e35 := f31 3 _ e_3 (by decide) rfl
          refine wp_p (pc' := 5) (lv' := lv29) (st' := []) rfl rfl ?_
          exact k _ ⟨e32, e33, e34, e35, e30, trivial⟩
        · replace k := it_f (c := w27 = (nI 0)) c28 k
          refine wl_ild (pc' := 42) rfl e_4 rfl ?_
          refine wl_st1 (pc' := 43) (k0 := 3) (v := .int x4) (r := []) rfl rfl (fun lv36 e37 f38 => ?_)
          have e39 := f38 0 _ e_0 (by decide) rfl
          have e40 := f38 1 _ e_1 (by decide) rfl
          have e41 := f38 2 _ e_2 (by decide) rfl
          have e42 := f38 4 _ e_4 (by decide) rfl
          refine wl_iinc (pc' := 46) (v := x4 + nI 1) rfl e42 rfl rfl rfl (fun lv43 e44 f45 => ?_)
          have e46 := f45 0 _ e39 (by decide) rfl
          have e47 := f45 1 _ e40 (by decide) rfl
          have e48 := f45 2 _ e41 (by decide) rfl
          have e49 := f45 3 _ e37 (by decide) rfl
          refine wp_p (pc' := 5) (lv' := lv43) (st' := []) rfl rfl ?_
          exact k _ ⟨e46, e47, e48, e49, e44, trivial⟩
