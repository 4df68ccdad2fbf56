/-! SEGMENTS of the methods 138 to 145 (by program, wip/whole/gen25.py): what must hold of a way from one place to the next -/
/-! 138: QueryTablesModel.split -/
set_option maxRecDepth 20000 in
theorem sp_138 {d : Nat} {m : Mm} {K : Option Value → Mm → Prop} (k : WH d 138 7 [(0, .ref 42), (1, .int (nI 0))] [] (m.uF 42 2 (nI 0)) K) : WP d 138 [.ref 42] m K := by
  have e_0 : sm_lk (lv_args 0 [.ref 42]) 0 = some (.ref 42) := rfl
  show sm_wp d 138 0 (lv_args 0 [.ref 42]) [] (hp m) (WQ K)
  generalize lv_args 0 [.ref 42] = lv0 at *
  refine wl_ald_n (pc' := 1) rfl e_0 rfl ?_
  refine wp_p (pc' := 2) (lv' := lv0) (st' := [.int (nI 0), .ref 42]) rfl rfl ?_
  refine wl_put (pc' := 5) (h2 := hp (m.uF 42 2 (nI 0))) rfl (hq_42 _) rfl rfl rfl (pf_42_2 _ _) ?_
  refine wp_p (pc' := 6) (lv' := lv0) (st' := [.int (nI 0)]) rfl rfl ?_
  refine wl_st1 (pc' := 7) (k0 := 1) (v := .int (nI 0)) (r := []) rfl rfl (fun lv1 e2 f3 => ?_)
  have e4 := f3 0 _ e_0 (by decide) rfl
  exact k _ ⟨e4, e2, trivial⟩
set_option maxRecDepth 20000 in
theorem sg_138_7 {d : Nat} {m : Mm} {K : Option Value → Mm → Prop} (x1 : Int32) (k : (if (m.F 42 1) ≤ x1 then ok (m.A 44).length (m.F 42 2) ∧ K none (m.uA 44 ((m.A 44).set (ix (m.F 42 2)) (nI 0))) else ok (m.A 43).length x1 ∧ WP d 135 [.int ((m.A 43).getD (ix x1) 0)] m (fun v m30 => ∃ w31, v = some (.int w31) ∧ (if w31 = (nI 0) then WP d 136 [.int ((m.A 43).getD (ix x1) 0)] m30 (fun v m33 => ∃ w34, v = some (.int w34) ∧ (if w34 = (nI 0) then (if ((m.A 43).getD (ix x1) 0) < (nI 65) then WH (d + 1) 138 253 [(0, .ref 42), (1, .int x1), (2, .int ((m.A 43).getD (ix x1) 0)), (3, .int (nI 1)), (4, .int (nI 0)), (5, .int (nI 0))] [] m33 K else (if (nI 67) < ((m.A 43).getD (ix x1) 0) then WH (d + 1) 138 253 [(0, .ref 42), (1, .int x1), (2, .int ((m.A 43).getD (ix x1) 0)), (3, .int (nI 1)), (4, .int (nI 0)), (5, .int (nI 0))] [] m33 K else WH (d + 1) 138 266 [(0, .ref 42), (1, .int x1), (2, .int ((m.A 43).getD (ix x1) 0)), (3, .int (nI 1)), (4, .int (((m.A 43).getD (ix x1) 0) - (nI 65))), (5, .int (nI 2))] [] m33 K)) else WH (d + 1) 138 44 [(0, .ref 42), (1, .int x1), (2, .int ((m.A 43).getD (ix x1) 0)), (4, .int (nI 0))] [] m33 K)) else WH (d + 1) 138 44 [(0, .ref 42), (1, .int x1), (2, .int ((m.A 43).getD (ix x1) 0)), (4, .int (nI 0))] [] m30 K)))) : WH (d + 1) 138 7 [(0, .ref 42), (1, .int x1)] [] m K := by
  intro lv0 el
  obtain ⟨e_0, e_1, _⟩ := el
  refine wl_ild_n (pc' := 8) rfl e_1 rfl ?_
  refine wl_ald_n (pc' := 9) rfl e_0 rfl ?_
  refine wp_get (v := .int (m.F 42 1)) (pc' := 12) rfl (hq_42 _) rfl rfl ?_
  refine wp_ic_ge (pc' := 15) rfl rfl (fun c1 => ?_) (fun c1 => ?_)
  · replace k := it_t (c := (m.F 42 1) ≤ x1) c1 k
    refine wl_ald_n (pc' := 338) rfl e_0 rfl ?_
    refine wp_get (v := .ref 44) (pc' := 341) rfl (hq_42 _) rfl rfl ?_
    refine wl_ald_n (pc' := 342) rfl e_0 rfl ?_
    refine wp_get (v := .int (m.F 42 2)) (pc' := 345) rfl (hq_42 _) rfl rfl ?_
    refine wp_p (pc' := 346) (lv' := lv0) (st' := [.int (nI 0), .int (m.F 42 2), .ref 44]) rfl rfl ?_
    obtain ⟨k2, k⟩ := k
    refine wl_iastore (g := m.A 44) (pc' := 347) (h2 := hp (m.uA 44 ((m.A 44).set (ix (m.F 42 2)) (nI 0)))) rfl (hq_44 _) k2 rfl (pa_44 _ _) ?_
    exact wp_r rfl rfl ⟨_, rfl, k⟩
  · replace k := it_f (c := (m.F 42 1) ≤ x1) c1 k
    refine wl_ald_n (pc' := 16) rfl e_0 rfl ?_
    refine wp_get (v := .ref 43) (pc' := 19) rfl (hq_42 _) rfl rfl ?_
    refine wl_ild_n (pc' := 20) rfl e_1 rfl ?_
    obtain ⟨k3, k⟩ := k
    refine wl_caload (g := m.A 43) (pc' := 21) rfl (hq_43 _) k3 rfl ?_
    refine wl_st1 (pc' := 22) (k0 := 2) (v := .int ((m.A 43).getD (ix x1) 0)) (r := []) rfl rfl (fun lv4 e5 f6 => ?_)
    have e7 := f6 0 _ e_0 (by decide) rfl
    have e8 := f6 1 _ e_1 (by decide) rfl
    refine wp_p (pc' := 23) (lv' := lv4) (st' := [.int (nI 1)]) rfl rfl ?_
    refine wl_st1 (pc' := 24) (k0 := 3) (v := .int (nI 1)) (r := []) rfl rfl (fun lv9 e10 f11 => ?_)
    have e12 := f11 0 _ e7 (by decide) rfl
    have e13 := f11 1 _ e8 (by decide) rfl
    have e14 := f11 2 _ e5 (by decide) rfl
    refine wp_p (pc' := 25) (lv' := lv9) (st' := [.int (nI 0)]) rfl rfl ?_
    refine wl_st1 (pc' := 27) (k0 := 4) (v := .int (nI 0)) (r := []) rfl rfl (fun lv15 e16 f17 => ?_)
    have e18 := f17 0 _ e12 (by decide) rfl
    have e19 := f17 1 _ e13 (by decide) rfl
    have e20 := f17 2 _ e14 (by decide) rfl
    have e21 := f17 3 _ e10 (by decide) rfl
    refine wp_p (pc' := 28) (lv' := lv15) (st' := [.int (nI 0)]) rfl rfl ?_
    refine wl_st1 (pc' := 30) (k0 := 5) (v := .int (nI 0)) (r := []) rfl rfl (fun lv22 e23 f24 => ?_)
    have e25 := f24 0 _ e18 (by decide) rfl
    have e26 := f24 1 _ e19 (by decide) rfl
    have e27 := f24 2 _ e20 (by decide) rfl
    have e28 := f24 3 _ e21 (by decide) rfl
    have e29 := f24 4 _ e16 (by decide) rfl
    refine wl_ild_n (pc' := 31) rfl e27 rfl ?_
    refine wl_cs (As := [.int ((m.A 43).getD (ix x1) 0)]) (r := []) (pc' := 34) rfl rfl rfl rfl k ?_
    rintro _ m30 ⟨w31, rfl, k⟩
    show sm_wp (d + 1) 138 34 lv22 [.int w31] (hp m30) (WQ K)
    refine wp_if_ne (pc' := 37) rfl rfl (fun c32 => ?_) (fun c32 => ?_)
    · replace k := it_f (c := w31 = (nI 0)) c32 k
      exact k _ ⟨e25, e26, e27, e29, trivial⟩
    · replace k := it_t (c := w31 = (nI 0)) c32 k
      refine wl_ild_n (pc' := 38) rfl e27 rfl ?_
      refine wl_cs (As := [.int ((m.A 43).getD (ix x1) 0)]) (r := []) (pc' := 41) rfl rfl rfl rfl k ?_
      rintro _ m33 ⟨w34, rfl, k⟩
      show sm_wp (d + 1) 138 41 lv22 [.int w34] (hp m33) (WQ K)
      refine wp_if_eq (pc' := 44) rfl rfl (fun c35 => ?_) (fun c35 => ?_)
      · replace k := it_t (c := w34 = (nI 0)) c35 k
        refine wl_ild_n (pc' := 230) rfl e27 rfl ?_
        refine wp_p (pc' := 232) (lv' := lv22) (st' := [.int (nI 65), .int ((m.A 43).getD (ix x1) 0)]) rfl rfl ?_
        refine wp_ic_lt (pc' := 235) rfl rfl (fun c36 => ?_) (fun c36 => ?_)
        · replace k := it_t (c := ((m.A 43).getD (ix x1) 0) < (nI 65)) c36 k
          exact k _ ⟨e25, e26, e27, e28, e29, e23, trivial⟩
        · replace k := it_f (c := ((m.A 43).getD (ix x1) 0) < (nI 65)) c36 k
          refine wl_ild_n (pc' := 236) rfl e27 rfl ?_
          refine wp_p (pc' := 238) (lv' := lv22) (st' := [.int (nI 67), .int ((m.A 43).getD (ix x1) 0)]) rfl rfl ?_
          refine wp_ic_gt (pc' := 241) rfl rfl (fun c37 => ?_) (fun c37 => ?_)
          · replace k := it_t (c := (nI 67) < ((m.A 43).getD (ix x1) 0)) c37 k
            exact k _ ⟨e25, e26, e27, e28, e29, e23, trivial⟩
          · replace k := it_f (c := (nI 67) < ((m.A 43).getD (ix x1) 0)) c37 k
            refine wp_p (pc' := 242) (lv' := lv22) (st' := [.int (nI 2)]) rfl rfl ?_
            refine wl_st1 (pc' := 244) (k0 := 5) (v := .int (nI 2)) (r := []) rfl rfl (fun lv38 e39 f40 => ?_)
            have e41 := f40 0 _ e25 (by decide) rfl
            have e42 := f40 1 _ e26 (by decide) rfl
            have e43 := f40 2 _ e27 (by decide) rfl
            have e44 := f40 3 _ e28 (by decide) rfl
            have e45 := f40 4 _ e29 (by decide) rfl
            refine wl_ild_n (pc' := 245) rfl e43 rfl ?_
            refine wp_p (pc' := 247) (lv' := lv38) (st' := [.int (nI 65), .int ((m.A 43).getD (ix x1) 0)]) rfl rfl ?_
            refine wp_isub (v := ((m.A 43).getD (ix x1) 0) - (nI 65)) (pc' := 248) rfl rfl rfl ?_
            refine wl_st1 (pc' := 250) (k0 := 4) (v := .int (((m.A 43).getD (ix x1) 0) - (nI 65))) (r := []) rfl rfl (fun lv46 e47 f48 => ?_)
            have e49 := f48 0 _ e41 (by decide) rfl
            have e50 := f48 1 _ e42 (by decide) rfl
            have e51 := f48 2 _ e43 (by decide) rfl
            have e52 := f48 3 _ e44 (by decide) rfl
            have e53 := f48 5 _ e39 (by decide) rfl
            refine wp_p (pc' := 266) (lv' := lv46) (st' := []) rfl rfl ?_
            exact k _ ⟨e49, e50, e51, e52, e47, e53, trivial⟩
      · replace k := it_f (c := w34 = (nI 0)) c35 k
        exact k _ ⟨e25, e26, e27, e29, trivial⟩
set_option maxRecDepth 20000 in
theorem sg_138_44 {d : Nat} {m : Mm} {K : Option Value → Mm → Prop} (x1 : Int32) (x2 : Int32) (x4 : Int32) (k : WP d 135 [.int x2] m (fun v m1 => ∃ w2, v = some (.int w2) ∧ (if w2 = (nI 0) then WH (d + 1) 138 60 [(0, .ref 42), (1, .int x1), (2, .int x2), (3, .int (nI 0)), (4, .int x4), (5, .int (nI 3))] [] m1 K else WH (d + 1) 138 60 [(0, .ref 42), (1, .int x1), (2, .int x2), (3, .int (nI 0)), (4, .int x4), (5, .int (nI 1))] [] m1 K))) : WH (d + 1) 138 44 [(0, .ref 42), (1, .int x1), (2, .int x2), (4, .int x4)] [] m K := by
  intro lv0 el
  obtain ⟨e_0, e_1, e_2, e_4, _⟩ := el
  refine wl_ild_n (pc' := 45) rfl e_2 rfl ?_
  refine wl_cs (As := [.int x2]) (r := []) (pc' := 48) rfl rfl rfl rfl k ?_
  rintro _ m1 ⟨w2, rfl, k⟩
  show sm_wp (d + 1) 138 48 lv0 [.int w2] (hp m1) (WQ K)
  refine wp_if_eq (pc' := 51) rfl rfl (fun c3 => ?_) (fun c3 => ?_)
  · replace k := it_t (c := w2 = (nI 0)) c3 k
    refine wp_p (pc' := 56) (lv' := lv0) (st' := [.int (nI 3)]) rfl rfl ?_
    refine wl_st1 (pc' := 58) (k0 := 5) (v := .int (nI 3)) (r := []) rfl rfl (fun lv4 e5 f6 => ?_)
    have e7 := f6 0 _ e_0 (by decide) rfl
    have e8 := f6 1 _ e_1 (by decide) rfl
    have e9 := f6 2 _ e_2 (by decide) rfl
    have e10 := f6 4 _ e_4 (by decide) rfl
    refine wp_p (pc' := 59) (lv' := lv4) (st' := [.int (nI 0)]) rfl rfl ?_
    refine wl_st1 (pc' := 60) (k0 := 3) (v := .int (nI 0)) (r := []) rfl rfl (fun lv11 e12 f13 => ?_)
    have e14 := f13 0 _ e7 (by decide) rfl
    have e15 := f13 1 _ e8 (by decide) rfl
    have e16 := f13 2 _ e9 (by decide) rfl
    have e17 := f13 4 _ e10 (by decide) rfl
    have e18 := f13 5 _ e5 (by decide) rfl
    exact k _ ⟨e14, e15, e16, e12, e17, e18, trivial⟩
  · replace k := it_f (c := w2 = (nI 0)) c3 k
    refine wp_p (pc' := 52) (lv' := lv0) (st' := [.int (nI 1)]) rfl rfl ?_
    refine wp_p (pc' := 56) (lv' := lv0) (st' := [.int (nI 1)]) rfl rfl ?_
    refine wl_st1 (pc' := 58) (k0 := 5) (v := .int (nI 1)) (r := []) rfl rfl (fun lv19 e20 f21 => ?_)
    have e22 := f21 0 _ e_0 (by decide) rfl
    have e23 := f21 1 _ e_1 (by decide) rfl
    have e24 := f21 2 _ e_2 (by decide) rfl
    have e25 := f21 4 _ e_4 (by decide) rfl
    refine wp_p (pc' := 59) (lv' := lv19) (st' := [.int (nI 0)]) rfl rfl ?_
    refine wl_st1 (pc' := 60) (k0 := 3) (v := .int (nI 0)) (r := []) rfl rfl (fun lv26 e27 f28 => ?_)
    have e29 := f28 0 _ e22 (by decide) rfl
    have e30 := f28 1 _ e23 (by decide) rfl
    have e31 := f28 2 _ e24 (by decide) rfl
    have e32 := f28 4 _ e25 (by decide) rfl
    have e33 := f28 5 _ e20 (by decide) rfl
    exact k _ ⟨e29, e30, e31, e27, e32, e33, trivial⟩
set_option maxRecDepth 20000 in
theorem sg_138_253 {d : Nat} {m : Mm} {K : Option Value → Mm → Prop} (x1 : Int32) (x2 : Int32) (x3 : Int32) (x4 : Int32) (x5 : Int32) (k : WP d 137 [.int x2] m (fun v m1 => ∃ w2, v = some (.int w2) ∧ (if w2 = (nI 0) then WH (d + 1) 138 266 [(0, .ref 42), (1, .int x1), (2, .int x2), (3, .int x3), (4, .int x4), (5, .int x5)] [] m1 K else WH (d + 1) 138 266 [(0, .ref 42), (1, .int x1), (2, .int x2), (3, .int x3), (4, .int x2), (5, .int (nI 4))] [] m1 K))) : WH (d + 1) 138 253 [(0, .ref 42), (1, .int x1), (2, .int x2), (3, .int x3), (4, .int x4), (5, .int x5)] [] m K := by
  intro lv0 el
  obtain ⟨e_0, e_1, e_2, e_3, e_4, e_5, _⟩ := el
  refine wl_ild_n (pc' := 254) rfl e_2 rfl ?_
  refine wl_cs (As := [.int x2]) (r := []) (pc' := 257) rfl rfl rfl rfl k ?_
  rintro _ m1 ⟨w2, rfl, k⟩
  show sm_wp (d + 1) 138 257 lv0 [.int w2] (hp m1) (WQ K)
  refine wp_if_eq (pc' := 260) rfl rfl (fun c3 => ?_) (fun c3 => ?_)
  · replace k := it_t (c := w2 = (nI 0)) c3 k
    exact k _ ⟨e_0, e_1, e_2, e_3, e_4, e_5, trivial⟩
  · replace k := it_f (c := w2 = (nI 0)) c3 k
    refine wp_p (pc' := 261) (lv' := lv0) (st' := [.int (nI 4)]) rfl rfl ?_
    refine wl_st1 (pc' := 263) (k0 := 5) (v := .int (nI 4)) (r := []) rfl rfl (fun lv4 e5 f6 => ?_)
    have e7 := f6 0 _ e_0 (by decide) rfl
    have e8 := f6 1 _ e_1 (by decide) rfl
    have e9 := f6 2 _ e_2 (by decide) rfl
    have e10 := f6 3 _ e_3 (by decide) rfl
    have e11 := f6 4 _ e_4 (by decide) rfl
    refine wl_ild_n (pc' := 264) rfl e9 rfl ?_
    refine wl_st1 (pc' := 266) (k0 := 4) (v := .int x2) (r := []) rfl rfl (fun lv12 e13 f14 => ?_)
    have e15 := f14 0 _ e7 (by decide) rfl
    have e16 := f14 1 _ e8 (by decide) rfl
    have e17 := f14 2 _ e9 (by decide) rfl
    have e18 := f14 3 _ e10 (by decide) rfl
    have e19 := f14 5 _ e5 (by decide) rfl
    exact k _ ⟨e15, e16, e17, e18, e13, e19, trivial⟩
set_option maxRecDepth 20000 in
theorem sg_138_266 {d : Nat} {m : Mm} {K : Option Value → Mm → Prop} (x1 : Int32) (x2 : Int32) (x3 : Int32) (x4 : Int32) (x5 : Int32) (k : (if (m.F 42 6) = (nI 0) then (if x5 = (nI 0) then (if x2 = (nI 32) then (if x5 ≤ (nI 0) then WH d 138 330 [(0, .ref 42), (1, .int x1), (3, .int x3)] [] (m.uF 42 6 (nI 0)) K else ok (m.A 44).length (m.F 42 2) ∧ ok (m.A 45).length (m.F 42 2) ∧ WH d 138 330 [(0, .ref 42), (1, .int x1), (3, .int x3)] [] ((((m.uF 42 6 (nI 0)).uA 44 ((m.A 44).set (ix (m.F 42 2)) x5)).uA 45 ((m.A 45).set (ix (m.F 42 2)) x4)).uF 42 2 ((m.F 42 2) + (nI 1))) K) else (if x5 ≤ (nI 0) then WH d 138 330 [(0, .ref 42), (1, .int x1), (3, .int x3)] [] (m.uF 42 6 (nI 1)) K else ok (m.A 44).length (m.F 42 2) ∧ ok (m.A 45).length (m.F 42 2) ∧ WH d 138 330 [(0, .ref 42), (1, .int x1), (3, .int x3)] [] ((((m.uF 42 6 (nI 1)).uA 44 ((m.A 44).set (ix (m.F 42 2)) x5)).uA 45 ((m.A 45).set (ix (m.F 42 2)) x4)).uF 42 2 ((m.F 42 2) + (nI 1))) K)) else (if x5 ≤ (nI 0) then WH d 138 330 [(0, .ref 42), (1, .int x1), (3, .int x3)] [] (m.uF 42 6 (nI 0)) K else ok (m.A 44).length (m.F 42 2) ∧ ok (m.A 45).length (m.F 42 2) ∧ WH d 138 330 [(0, .ref 42), (1, .int x1), (3, .int x3)] [] ((((m.uF 42 6 (nI 0)).uA 44 ((m.A 44).set (ix (m.F 42 2)) x5)).uA 45 ((m.A 45).set (ix (m.F 42 2)) x4)).uF 42 2 ((m.F 42 2) + (nI 1))) K)) else (if x5 ≤ (nI 0) then WH d 138 330 [(0, .ref 42), (1, .int x1), (3, .int x3)] [] (m.uF 42 6 (nI 1)) K else ok (m.A 44).length (m.F 42 2) ∧ ok (m.A 45).length (m.F 42 2) ∧ WH d 138 330 [(0, .ref 42), (1, .int x1), (3, .int x3)] [] ((((m.uF 42 6 (nI 1)).uA 44 ((m.A 44).set (ix (m.F 42 2)) x5)).uA 45 ((m.A 45).set (ix (m.F 42 2)) x4)).uF 42 2 ((m.F 42 2) + (nI 1))) K))) : WH d 138 266 [(0, .ref 42), (1, .int x1), (2, .int x2), (3, .int x3), (4, .int x4), (5, .int x5)] [] m K := by
  intro lv0 el
  obtain ⟨e_0, e_1, e_2, e_3, e_4, e_5, _⟩ := el
  refine wl_ald_n (pc' := 267) rfl e_0 rfl ?_
  refine wl_ald_n (pc' := 268) rfl e_0 rfl ?_
  refine wp_get (v := .int (m.F 42 6)) (pc' := 271) rfl (hq_42 _) rfl rfl ?_
  refine wp_if_ne (pc' := 274) rfl rfl (fun c1 => ?_) (fun c1 => ?_)
  · replace k := it_f (c := (m.F 42 6) = (nI 0)) c1 k
    refine wp_p (pc' := 286) (lv' := lv0) (st' := [.int (nI 1), .ref 42]) rfl rfl ?_
    refine wp_p (pc' := 290) (lv' := lv0) (st' := [.int (nI 1), .ref 42]) rfl rfl ?_
    refine wl_put (pc' := 293) (h2 := hp (m.uF 42 6 (nI 1))) rfl (hq_42 _) rfl rfl rfl (pf_42_6 _ _) ?_
    refine wl_ild (pc' := 295) rfl e_5 rfl ?_
    refine wp_if_le (pc' := 298) rfl rfl (fun c2 => ?_) (fun c2 => ?_)
    · replace k := it_t (c := x5 ≤ (nI 0)) c2 k
      exact k _ ⟨e_0, e_1, e_3, trivial⟩
    · replace k := it_f (c := x5 ≤ (nI 0)) c2 k
      refine wl_ald_n (pc' := 299) rfl e_0 rfl ?_
      refine wp_get (v := .ref 44) (pc' := 302) rfl (hq_42 _) rfl rfl ?_
      refine wl_ald_n (pc' := 303) rfl e_0 rfl ?_
      refine wp_get (v := .int (m.F 42 2)) (pc' := 306) rfl (hq_42 _) rfl rfl ?_
      refine wl_ild (pc' := 308) rfl e_5 rfl ?_
      obtain ⟨k3, k⟩ := k
      refine wl_iastore (g := m.A 44) (pc' := 309) (h2 := hp ((m.uF 42 6 (nI 1)).uA 44 ((m.A 44).set (ix (m.F 42 2)) x5))) rfl (hq_44 _) k3 rfl (pa_44 _ _) ?_
      refine wl_ald_n (pc' := 310) rfl e_0 rfl ?_
      refine wp_get (v := .ref 45) (pc' := 313) rfl (hq_42 _) rfl rfl ?_
      refine wl_ald_n (pc' := 314) rfl e_0 rfl ?_
      refine wp_get (v := .int (m.F 42 2)) (pc' := 317) rfl (hq_42 _) rfl rfl ?_
      refine wl_ild (pc' := 319) rfl e_4 rfl ?_
      obtain ⟨k4, k⟩ := k
      refine wl_iastore (g := m.A 45) (pc' := 320) (h2 := hp (((m.uF 42 6 (nI 1)).uA 44 ((m.A 44).set (ix (m.F 42 2)) x5)).uA 45 ((m.A 45).set (ix (m.F 42 2)) x4))) rfl (hq_45 _) k4 rfl (pa_45 _ _) ?_
      refine wl_ald_n (pc' := 321) rfl e_0 rfl ?_
      refine wp_p (pc' := 322) (lv' := lv0) (st' := [.ref 42, .ref 42]) rfl rfl ?_
      refine wp_get (v := .int (m.F 42 2)) (pc' := 325) rfl (hq_42 _) rfl rfl ?_
      refine wp_p (pc' := 326) (lv' := lv0) (st' := [.int (nI 1), .int (m.F 42 2), .ref 42]) rfl rfl ?_
      refine wp_iadd (v := (m.F 42 2) + (nI 1)) (pc' := 327) rfl rfl rfl ?_
      refine wl_put (pc' := 330) (h2 := hp ((((m.uF 42 6 (nI 1)).uA 44 ((m.A 44).set (ix (m.F 42 2)) x5)).uA 45 ((m.A 45).set (ix (m.F 42 2)) x4)).uF 42 2 ((m.F 42 2) + (nI 1)))) rfl (hq_42 _) rfl rfl rfl (pf_42_2 _ _) ?_
      exact k _ ⟨e_0, e_1, e_3, trivial⟩
  · replace k := it_t (c := (m.F 42 6) = (nI 0)) c1 k
    refine wl_ild (pc' := 276) rfl e_5 rfl ?_
    refine wp_if_ne (pc' := 279) rfl rfl (fun c5 => ?_) (fun c5 => ?_)
    · replace k := it_f (c := x5 = (nI 0)) c5 k
      refine wp_p (pc' := 290) (lv' := lv0) (st' := [.int (nI 0), .ref 42]) rfl rfl ?_
      refine wl_put (pc' := 293) (h2 := hp (m.uF 42 6 (nI 0))) rfl (hq_42 _) rfl rfl rfl (pf_42_6 _ _) ?_
      refine wl_ild (pc' := 295) rfl e_5 rfl ?_
      refine wp_if_le (pc' := 298) rfl rfl (fun c6 => ?_) (fun c6 => ?_)
      · replace k := it_t (c := x5 ≤ (nI 0)) c6 k
        exact k _ ⟨e_0, e_1, e_3, trivial⟩
      · replace k := it_f (c := x5 ≤ (nI 0)) c6 k
        refine wl_ald_n (pc' := 299) rfl e_0 rfl ?_
        refine wp_get (v := .ref 44) (pc' := 302) rfl (hq_42 _) rfl rfl ?_
        refine wl_ald_n (pc' := 303) rfl e_0 rfl ?_
        refine wp_get (v := .int (m.F 42 2)) (pc' := 306) rfl (hq_42 _) rfl rfl ?_
        refine wl_ild (pc' := 308) rfl e_5 rfl ?_
        obtain ⟨k7, k⟩ := k
        refine wl_iastore (g := m.A 44) (pc' := 309) (h2 := hp ((m.uF 42 6 (nI 0)).uA 44 ((m.A 44).set (ix (m.F 42 2)) x5))) rfl (hq_44 _) k7 rfl (pa_44 _ _) ?_
        refine wl_ald_n (pc' := 310) rfl e_0 rfl ?_
        refine wp_get (v := .ref 45) (pc' := 313) rfl (hq_42 _) rfl rfl ?_
        refine wl_ald_n (pc' := 314) rfl e_0 rfl ?_
        refine wp_get (v := .int (m.F 42 2)) (pc' := 317) rfl (hq_42 _) rfl rfl ?_
        refine wl_ild (pc' := 319) rfl e_4 rfl ?_
        obtain ⟨k8, k⟩ := k
        refine wl_iastore (g := m.A 45) (pc' := 320) (h2 := hp (((m.uF 42 6 (nI 0)).uA 44 ((m.A 44).set (ix (m.F 42 2)) x5)).uA 45 ((m.A 45).set (ix (m.F 42 2)) x4))) rfl (hq_45 _) k8 rfl (pa_45 _ _) ?_
        refine wl_ald_n (pc' := 321) rfl e_0 rfl ?_
        refine wp_p (pc' := 322) (lv' := lv0) (st' := [.ref 42, .ref 42]) rfl rfl ?_
        refine wp_get (v := .int (m.F 42 2)) (pc' := 325) rfl (hq_42 _) rfl rfl ?_
        refine wp_p (pc' := 326) (lv' := lv0) (st' := [.int (nI 1), .int (m.F 42 2), .ref 42]) rfl rfl ?_
        refine wp_iadd (v := (m.F 42 2) + (nI 1)) (pc' := 327) rfl rfl rfl ?_
        refine wl_put (pc' := 330) (h2 := hp ((((m.uF 42 6 (nI 0)).uA 44 ((m.A 44).set (ix (m.F 42 2)) x5)).uA 45 ((m.A 45).set (ix (m.F 42 2)) x4)).uF 42 2 ((m.F 42 2) + (nI 1)))) rfl (hq_42 _) rfl rfl rfl (pf_42_2 _ _) ?_
        exact k _ ⟨e_0, e_1, e_3, trivial⟩
    · replace k := it_t (c := x5 = (nI 0)) c5 k
      refine wl_ild_n (pc' := 280) rfl e_2 rfl ?_
      refine wp_p (pc' := 282) (lv' := lv0) (st' := [.int (nI 32), .int x2, .ref 42]) rfl rfl ?_
      refine wp_ic_eq (pc' := 285) rfl rfl (fun c9 => ?_) (fun c9 => ?_)
      · replace k := it_t (c := x2 = (nI 32)) c9 k
        refine wp_p (pc' := 290) (lv' := lv0) (st' := [.int (nI 0), .ref 42]) rfl rfl ?_
        refine wl_put (pc' := 293) (h2 := hp (m.uF 42 6 (nI 0))) rfl (hq_42 _) rfl rfl rfl (pf_42_6 _ _) ?_
        refine wl_ild (pc' := 295) rfl e_5 rfl ?_
        refine wp_if_le (pc' := 298) rfl rfl (fun c10 => ?_) (fun c10 => ?_)
        · replace k := it_t (c := x5 ≤ (nI 0)) c10 k
          exact k _ ⟨e_0, e_1, e_3, trivial⟩
        · replace k := it_f (c := x5 ≤ (nI 0)) c10 k
          refine wl_ald_n (pc' := 299) rfl e_0 rfl ?_
          refine wp_get (v := .ref 44) (pc' := 302) rfl (hq_42 _) rfl rfl ?_
          refine wl_ald_n (pc' := 303) rfl e_0 rfl ?_
          refine wp_get (v := .int (m.F 42 2)) (pc' := 306) rfl (hq_42 _) rfl rfl ?_
          refine wl_ild (pc' := 308) rfl e_5 rfl ?_
          obtain ⟨k11, k⟩ := k
          refine wl_iastore (g := m.A 44) (pc' := 309) (h2 := hp ((m.uF 42 6 (nI 0)).uA 44 ((m.A 44).set (ix (m.F 42 2)) x5))) rfl (hq_44 _) k11 rfl (pa_44 _ _) ?_
          refine wl_ald_n (pc' := 310) rfl e_0 rfl ?_
          refine wp_get (v := .ref 45) (pc' := 313) rfl (hq_42 _) rfl rfl ?_
          refine wl_ald_n (pc' := 314) rfl e_0 rfl ?_
          refine wp_get (v := .int (m.F 42 2)) (pc' := 317) rfl (hq_42 _) rfl rfl ?_
          refine wl_ild (pc' := 319) rfl e_4 rfl ?_
          obtain ⟨k12, k⟩ := k
          refine wl_iastore (g := m.A 45) (pc' := 320) (h2 := hp (((m.uF 42 6 (nI 0)).uA 44 ((m.A 44).set (ix (m.F 42 2)) x5)).uA 45 ((m.A 45).set (ix (m.F 42 2)) x4))) rfl (hq_45 _) k12 rfl (pa_45 _ _) ?_
          refine wl_ald_n (pc' := 321) rfl e_0 rfl ?_
          refine wp_p (pc' := 322) (lv' := lv0) (st' := [.ref 42, .ref 42]) rfl rfl ?_
          refine wp_get (v := .int (m.F 42 2)) (pc' := 325) rfl (hq_42 _) rfl rfl ?_
          refine wp_p (pc' := 326) (lv' := lv0) (st' := [.int (nI 1), .int (m.F 42 2), .ref 42]) rfl rfl ?_
          refine wp_iadd (v := (m.F 42 2) + (nI 1)) (pc' := 327) rfl rfl rfl ?_
          refine wl_put (pc' := 330) (h2 := hp ((((m.uF 42 6 (nI 0)).uA 44 ((m.A 44).set (ix (m.F 42 2)) x5)).uA 45 ((m.A 45).set (ix (m.F 42 2)) x4)).uF 42 2 ((m.F 42 2) + (nI 1)))) rfl (hq_42 _) rfl rfl rfl (pf_42_2 _ _) ?_
          exact k _ ⟨e_0, e_1, e_3, trivial⟩
      · replace k := it_f (c := x2 = (nI 32)) c9 k
        refine wp_p (pc' := 286) (lv' := lv0) (st' := [.int (nI 1), .ref 42]) rfl rfl ?_
        refine wp_p (pc' := 290) (lv' := lv0) (st' := [.int (nI 1), .ref 42]) rfl rfl ?_
        refine wl_put (pc' := 293) (h2 := hp (m.uF 42 6 (nI 1))) rfl (hq_42 _) rfl rfl rfl (pf_42_6 _ _) ?_
        refine wl_ild (pc' := 295) rfl e_5 rfl ?_
        refine wp_if_le (pc' := 298) rfl rfl (fun c13 => ?_) (fun c13 => ?_)
        · replace k := it_t (c := x5 ≤ (nI 0)) c13 k
          exact k _ ⟨e_0, e_1, e_3, trivial⟩
        · replace k := it_f (c := x5 ≤ (nI 0)) c13 k
          refine wl_ald_n (pc' := 299) rfl e_0 rfl ?_
          refine wp_get (v := .ref 44) (pc' := 302) rfl (hq_42 _) rfl rfl ?_
          refine wl_ald_n (pc' := 303) rfl e_0 rfl ?_
          refine wp_get (v := .int (m.F 42 2)) (pc' := 306) rfl (hq_42 _) rfl rfl ?_
          refine wl_ild (pc' := 308) rfl e_5 rfl ?_
          obtain ⟨k14, k⟩ := k
          refine wl_iastore (g := m.A 44) (pc' := 309) (h2 := hp ((m.uF 42 6 (nI 1)).uA 44 ((m.A 44).set (ix (m.F 42 2)) x5))) rfl (hq_44 _) k14 rfl (pa_44 _ _) ?_
          refine wl_ald_n (pc' := 310) rfl e_0 rfl ?_
          refine wp_get (v := .ref 45) (pc' := 313) rfl (hq_42 _) rfl rfl ?_
          refine wl_ald_n (pc' := 314) rfl e_0 rfl ?_
          refine wp_get (v := .int (m.F 42 2)) (pc' := 317) rfl (hq_42 _) rfl rfl ?_
          refine wl_ild (pc' := 319) rfl e_4 rfl ?_
          obtain ⟨k15, k⟩ := k
          refine wl_iastore (g := m.A 45) (pc' := 320) (h2 := hp (((m.uF 42 6 (nI 1)).uA 44 ((m.A 44).set (ix (m.F 42 2)) x5)).uA 45 ((m.A 45).set (ix (m.F 42 2)) x4))) rfl (hq_45 _) k15 rfl (pa_45 _ _) ?_
          refine wl_ald_n (pc' := 321) rfl e_0 rfl ?_
          refine wp_p (pc' := 322) (lv' := lv0) (st' := [.ref 42, .ref 42]) rfl rfl ?_
          refine wp_get (v := .int (m.F 42 2)) (pc' := 325) rfl (hq_42 _) rfl rfl ?_
          refine wp_p (pc' := 326) (lv' := lv0) (st' := [.int (nI 1), .int (m.F 42 2), .ref 42]) rfl rfl ?_
          refine wp_iadd (v := (m.F 42 2) + (nI 1)) (pc' := 327) rfl rfl rfl ?_
          refine wl_put (pc' := 330) (h2 := hp ((((m.uF 42 6 (nI 1)).uA 44 ((m.A 44).set (ix (m.F 42 2)) x5)).uA 45 ((m.A 45).set (ix (m.F 42 2)) x4)).uF 42 2 ((m.F 42 2) + (nI 1)))) rfl (hq_42 _) rfl rfl rfl (pf_42_2 _ _) ?_
          exact k _ ⟨e_0, e_1, e_3, trivial⟩
set_option maxRecDepth 20000 in
theorem sg_138_60 {d : Nat} {m : Mm} {K : Option Value → Mm → Prop} (x1 : Int32) (x2 : Int32) (x3 : Int32) (x4 : Int32) (x5 : Int32) (k : (if (m.F 42 1) ≤ (x1 + x3) then WH (d + 1) 138 178 [(0, .ref 42), (1, .int x1), (2, .int x2), (3, .int x3), (4, .int x4), (5, .int x5)] [] m K else (if x5 = (nI 1) then ok (m.A 43).length (x1 + x3) ∧ WP d 135 [.int ((m.A 43).getD (ix (x1 + x3)) 0)] m (fun v m8 => ∃ w9, v = some (.int w9) ∧ (if w9 = (nI 0) then WH (d + 1) 138 178 [(0, .ref 42), (1, .int x1), (2, .int x2), (3, .int x3), (4, .int x4), (5, .int x5)] [] m8 K else WH (d + 1) 138 107 [(0, .ref 42), (1, .int x1), (2, .int x2), (3, .int x3), (4, .int x4), (5, .int x5)] [] m8 K)) else ok (m.A 43).length (x1 + x3) ∧ WP d 136 [.int ((m.A 43).getD (ix (x1 + x3)) 0)] m (fun v m4 => ∃ w5, v = some (.int w5) ∧ (if w5 = (nI 0) then WH (d + 1) 138 178 [(0, .ref 42), (1, .int x1), (2, .int x2), (3, .int x3), (4, .int x4), (5, .int x5)] [] m4 K else WH (d + 1) 138 107 [(0, .ref 42), (1, .int x1), (2, .int x2), (3, .int x3), (4, .int x4), (5, .int x5)] [] m4 K))))) : WH (d + 1) 138 60 [(0, .ref 42), (1, .int x1), (2, .int x2), (3, .int x3), (4, .int x4), (5, .int x5)] [] m K := by
  intro lv0 el
  obtain ⟨e_0, e_1, e_2, e_3, e_4, e_5, _⟩ := el
  refine wl_ild_n (pc' := 61) rfl e_1 rfl ?_
  refine wl_ild_n (pc' := 62) rfl e_3 rfl ?_
  refine wp_iadd (v := x1 + x3) (pc' := 63) rfl rfl rfl ?_
  refine wl_ald_n (pc' := 64) rfl e_0 rfl ?_
  refine wp_get (v := .int (m.F 42 1)) (pc' := 67) rfl (hq_42 _) rfl rfl ?_
  refine wp_ic_ge (pc' := 70) rfl rfl (fun c1 => ?_) (fun c1 => ?_)
  · replace k := it_t (c := (m.F 42 1) ≤ (x1 + x3)) c1 k
    exact k _ ⟨e_0, e_1, e_2, e_3, e_4, e_5, trivial⟩
  · replace k := it_f (c := (m.F 42 1) ≤ (x1 + x3)) c1 k
    refine wl_ild (pc' := 72) rfl e_5 rfl ?_
    refine wp_p (pc' := 73) (lv' := lv0) (st' := [.int (nI 1), .int x5]) rfl rfl ?_
    refine wp_ic_ne (pc' := 76) rfl rfl (fun c2 => ?_) (fun c2 => ?_)
    · replace k := it_f (c := x5 = (nI 1)) c2 k
      refine wl_ald_n (pc' := 94) rfl e_0 rfl ?_
      refine wp_get (v := .ref 43) (pc' := 97) rfl (hq_42 _) rfl rfl ?_
      refine wl_ild_n (pc' := 98) rfl e_1 rfl ?_
      refine wl_ild_n (pc' := 99) rfl e_3 rfl ?_
      refine wp_iadd (v := x1 + x3) (pc' := 100) rfl rfl rfl ?_
      obtain ⟨k3, k⟩ := k
      refine wl_caload (g := m.A 43) (pc' := 101) rfl (hq_43 _) k3 rfl ?_
      refine wl_cs (As := [.int ((m.A 43).getD (ix (x1 + x3)) 0)]) (r := []) (pc' := 104) rfl rfl rfl rfl k ?_
      rintro _ m4 ⟨w5, rfl, k⟩
      show sm_wp (d + 1) 138 104 lv0 [.int w5] (hp m4) (WQ K)
      refine wp_if_eq (pc' := 107) rfl rfl (fun c6 => ?_) (fun c6 => ?_)
      · replace k := it_t (c := w5 = (nI 0)) c6 k
        exact k _ ⟨e_0, e_1, e_2, e_3, e_4, e_5, trivial⟩
      · replace k := it_f (c := w5 = (nI 0)) c6 k
        exact k _ ⟨e_0, e_1, e_2, e_3, e_4, e_5, trivial⟩
    · replace k := it_t (c := x5 = (nI 1)) c2 k
      refine wl_ald_n (pc' := 77) rfl e_0 rfl ?_
      refine wp_get (v := .ref 43) (pc' := 80) rfl (hq_42 _) rfl rfl ?_
      refine wl_ild_n (pc' := 81) rfl e_1 rfl ?_
      refine wl_ild_n (pc' := 82) rfl e_3 rfl ?_
      refine wp_iadd (v := x1 + x3) (pc' := 83) rfl rfl rfl ?_
      obtain ⟨k7, k⟩ := k
      refine wl_caload (g := m.A 43) (pc' := 84) rfl (hq_43 _) k7 rfl ?_
      refine wl_cs (As := [.int ((m.A 43).getD (ix (x1 + x3)) 0)]) (r := []) (pc' := 87) rfl rfl rfl rfl k ?_
      rintro _ m8 ⟨w9, rfl, k⟩
      show sm_wp (d + 1) 138 87 lv0 [.int w9] (hp m8) (WQ K)
      refine wp_if_eq (pc' := 90) rfl rfl (fun c10 => ?_) (fun c10 => ?_)
      · replace k := it_t (c := w9 = (nI 0)) c10 k
        exact k _ ⟨e_0, e_1, e_2, e_3, e_4, e_5, trivial⟩
      · replace k := it_f (c := w9 = (nI 0)) c10 k
        refine wp_p (pc' := 107) (lv' := lv0) (st' := []) rfl rfl ?_
        exact k _ ⟨e_0, e_1, e_2, e_3, e_4, e_5, trivial⟩
set_option maxRecDepth 20000 in
theorem sg_138_330 {d : Nat} {m : Mm} {K : Option Value → Mm → Prop} (x1 : Int32) (x3 : Int32) (k : WH d 138 7 [(0, .ref 42), (1, .int (x1 + x3))] [] m K) : WH d 138 330 [(0, .ref 42), (1, .int x1), (3, .int x3)] [] m K := by
  intro lv0 el
  obtain ⟨e_0, e_1, e_3, _⟩ := el
  refine wl_ild_n (pc' := 331) rfl e_1 rfl ?_
  refine wl_ild_n (pc' := 332) rfl e_3 rfl ?_
  refine wp_iadd (v := x1 + x3) (pc' := 333) rfl rfl rfl ?_
  refine wl_st1 (pc' := 334) (k0 := 1) (v := .int (x1 + x3)) (r := []) rfl rfl (fun lv1 e2 f3 => ?_)
  have e4 := f3 0 _ e_0 (by decide) rfl
  have e5 := f3 3 _ e_3 (by decide) rfl
  refine wp_p (pc' := 7) (lv' := lv1) (st' := []) rfl rfl ?_
  exact k _ ⟨e4, e2, trivial⟩
set_option maxRecDepth 20000 in
theorem sg_138_178 {d : Nat} {m : Mm} {K : Option Value → Mm → Prop} (x1 : Int32) (x2 : Int32) (x3 : Int32) (x4 : Int32) (x5 : Int32) (k : (if x5 = (nI 1) then (if x3 ≤ (nI 6) then WH d 138 194 [(0, .ref 42), (1, .int x1), (2, .int x2), (3, .int x3), (4, .int x4), (5, .int x5)] [] m K else (if (m.F 42 6) = (nI 0) then (if x5 = (nI 3) then (if x3 ≤ (nI 9) then WH d 138 266 [(0, .ref 42), (1, .int x1), (2, .int x2), (3, .int x3), (4, .int (-1)), (5, .int x5)] [] (m.uF 42 6 (nI 0)) K else WH d 138 266 [(0, .ref 42), (1, .int x1), (2, .int x2), (3, .int x3), (4, .int (-1)), (5, .int x5)] [] (m.uF 42 6 (nI 1)) K) else WH d 138 266 [(0, .ref 42), (1, .int x1), (2, .int x2), (3, .int x3), (4, .int (-1)), (5, .int x5)] [] (m.uF 42 6 (nI 0)) K) else WH d 138 266 [(0, .ref 42), (1, .int x1), (2, .int x2), (3, .int x3), (4, .int (-1)), (5, .int x5)] [] (m.uF 42 6 (nI 1)) K)) else WH d 138 194 [(0, .ref 42), (1, .int x1), (2, .int x2), (3, .int x3), (4, .int x4), (5, .int x5)] [] m K)) : WH d 138 178 [(0, .ref 42), (1, .int x1), (2, .int x2), (3, .int x3), (4, .int x4), (5, .int x5)] [] m K := by
  intro lv0 el
  obtain ⟨e_0, e_1, e_2, e_3, e_4, e_5, _⟩ := el
  refine wl_ild (pc' := 180) rfl e_5 rfl ?_
  refine wp_p (pc' := 181) (lv' := lv0) (st' := [.int (nI 1), .int x5]) rfl rfl ?_
  refine wp_ic_ne (pc' := 184) rfl rfl (fun c1 => ?_) (fun c1 => ?_)
  · replace k := it_f (c := x5 = (nI 1)) c1 k
    exact k _ ⟨e_0, e_1, e_2, e_3, e_4, e_5, trivial⟩
  · replace k := it_t (c := x5 = (nI 1)) c1 k
    refine wl_ild_n (pc' := 185) rfl e_3 rfl ?_
    refine wp_p (pc' := 187) (lv' := lv0) (st' := [.int (nI 6), .int x3]) rfl rfl ?_
    refine wp_ic_le (pc' := 190) rfl rfl (fun c2 => ?_) (fun c2 => ?_)
    · replace k := it_t (c := x3 ≤ (nI 6)) c2 k
      exact k _ ⟨e_0, e_1, e_2, e_3, e_4, e_5, trivial⟩
    · replace k := it_f (c := x3 ≤ (nI 6)) c2 k
      refine wp_p (pc' := 191) (lv' := lv0) (st' := [.int (-1)]) rfl rfl ?_
      refine wp_p (pc' := 196) (lv' := lv0) (st' := [.int (-1)]) rfl rfl ?_
      refine wl_st1 (pc' := 198) (k0 := 4) (v := .int (-1)) (r := []) rfl rfl (fun lv3 e4 f5 => ?_)
      have e6 := f5 0 _ e_0 (by decide) rfl
      have e7 := f5 1 _ e_1 (by decide) rfl
      have e8 := f5 2 _ e_2 (by decide) rfl
      have e9 := f5 3 _ e_3 (by decide) rfl
      have e10 := f5 5 _ e_5 (by decide) rfl
      refine wl_ald_n (pc' := 199) rfl e6 rfl ?_
      refine wl_ald_n (pc' := 200) rfl e6 rfl ?_
      refine wp_get (v := .int (m.F 42 6)) (pc' := 203) rfl (hq_42 _) rfl rfl ?_
      refine wp_if_ne (pc' := 206) rfl rfl (fun c11 => ?_) (fun c11 => ?_)
      · replace k := it_f (c := (m.F 42 6) = (nI 0)) c11 k
        refine wp_p (pc' := 219) (lv' := lv3) (st' := [.int (nI 1), .ref 42]) rfl rfl ?_
        refine wp_p (pc' := 223) (lv' := lv3) (st' := [.int (nI 1), .ref 42]) rfl rfl ?_
        refine wl_put (pc' := 226) (h2 := hp (m.uF 42 6 (nI 1))) rfl (hq_42 _) rfl rfl rfl (pf_42_6 _ _) ?_
        refine wp_p (pc' := 266) (lv' := lv3) (st' := []) rfl rfl ?_
        exact k _ ⟨e6, e7, e8, e9, e4, e10, trivial⟩
      · replace k := it_t (c := (m.F 42 6) = (nI 0)) c11 k
        refine wl_ild (pc' := 208) rfl e10 rfl ?_
        refine wp_p (pc' := 209) (lv' := lv3) (st' := [.int (nI 3), .int x5, .ref 42]) rfl rfl ?_
        refine wp_ic_ne (pc' := 212) rfl rfl (fun c12 => ?_) (fun c12 => ?_)
        · replace k := it_f (c := x5 = (nI 3)) c12 k
          refine wp_p (pc' := 223) (lv' := lv3) (st' := [.int (nI 0), .ref 42]) rfl rfl ?_
          refine wl_put (pc' := 226) (h2 := hp (m.uF 42 6 (nI 0))) rfl (hq_42 _) rfl rfl rfl (pf_42_6 _ _) ?_
          refine wp_p (pc' := 266) (lv' := lv3) (st' := []) rfl rfl ?_
          exact k _ ⟨e6, e7, e8, e9, e4, e10, trivial⟩
        · replace k := it_t (c := x5 = (nI 3)) c12 k
          refine wl_ild_n (pc' := 213) rfl e9 rfl ?_
          refine wp_p (pc' := 215) (lv' := lv3) (st' := [.int (nI 9), .int x3, .ref 42]) rfl rfl ?_
          refine wp_ic_le (pc' := 218) rfl rfl (fun c13 => ?_) (fun c13 => ?_)
          · replace k := it_t (c := x3 ≤ (nI 9)) c13 k
            refine wp_p (pc' := 223) (lv' := lv3) (st' := [.int (nI 0), .ref 42]) rfl rfl ?_
            refine wl_put (pc' := 226) (h2 := hp (m.uF 42 6 (nI 0))) rfl (hq_42 _) rfl rfl rfl (pf_42_6 _ _) ?_
            refine wp_p (pc' := 266) (lv' := lv3) (st' := []) rfl rfl ?_
            exact k _ ⟨e6, e7, e8, e9, e4, e10, trivial⟩
          · replace k := it_f (c := x3 ≤ (nI 9)) c13 k
            refine wp_p (pc' := 219) (lv' := lv3) (st' := [.int (nI 1), .ref 42]) rfl rfl ?_
            refine wp_p (pc' := 223) (lv' := lv3) (st' := [.int (nI 1), .ref 42]) rfl rfl ?_
            refine wl_put (pc' := 226) (h2 := hp (m.uF 42 6 (nI 1))) rfl (hq_42 _) rfl rfl rfl (pf_42_6 _ _) ?_
            refine wp_p (pc' := 266) (lv' := lv3) (st' := []) rfl rfl ?_
            exact k _ ⟨e6, e7, e8, e9, e4, e10, trivial⟩
set_option maxRecDepth 20000 in
theorem sg_138_107 {d : Nat} {m : Mm} {K : Option Value → Mm → Prop} (x1 : Int32) (x2 : Int32) (x3 : Int32) (x4 : Int32) (x5 : Int32) (k : (if x5 = (nI 3) then (if (nI 9) ≤ x3 then WH d 138 60 [(0, .ref 42), (1, .int x1), (2, .int x2), (3, .int (x3 + nI 1)), (4, .int (nI 0)), (5, .int x5)] [] m K else ok (m.A 43).length (x1 + x3) ∧ WH d 138 60 [(0, .ref 42), (1, .int x1), (2, .int x2), (3, .int (x3 + nI 1)), (4, .int ((((nI 10) * x4) + ((m.A 43).getD (ix (x1 + x3)) 0)) - (nI 48))), (5, .int x5)] [] m K) else (if (nI 6) ≤ x3 then WH d 138 60 [(0, .ref 42), (1, .int x1), (2, .int x2), (3, .int (x3 + nI 1)), (4, .int (-1)), (5, .int x5)] [] m K else ok (m.A 43).length (x1 + x3) ∧ WH d 138 60 [(0, .ref 42), (1, .int x1), (2, .int x2), (3, .int (x3 + nI 1)), (4, .int ((((nI 32) * x4) + ((m.A 43).getD (ix (x1 + x3)) 0)) - (nI 96))), (5, .int x5)] [] m K))) : WH d 138 107 [(0, .ref 42), (1, .int x1), (2, .int x2), (3, .int x3), (4, .int x4), (5, .int x5)] [] m K := by
  intro lv0 el
  obtain ⟨e_0, e_1, e_2, e_3, e_4, e_5, _⟩ := el
  refine wl_ild (pc' := 109) rfl e_5 rfl ?_
  refine wp_p (pc' := 110) (lv' := lv0) (st' := [.int (nI 3), .int x5]) rfl rfl ?_
  refine wp_ic_ne (pc' := 113) rfl rfl (fun c1 => ?_) (fun c1 => ?_)
  · replace k := it_f (c := x5 = (nI 3)) c1 k
    refine wl_ild_n (pc' := 144) rfl e_3 rfl ?_
    refine wp_p (pc' := 146) (lv' := lv0) (st' := [.int (nI 6), .int x3]) rfl rfl ?_
    refine wp_ic_ge (pc' := 149) rfl rfl (fun c2 => ?_) (fun c2 => ?_)
    · replace k := it_t (c := (nI 6) ≤ x3) c2 k
      refine wp_p (pc' := 170) (lv' := lv0) (st' := [.int (-1)]) rfl rfl ?_
      refine wl_st1 (pc' := 172) (k0 := 4) (v := .int (-1)) (r := []) rfl rfl (fun lv3 e4 f5 => ?_)
      have e6 := f5 0 _ e_0 (by decide) rfl
      have e7 := f5 1 _ e_1 (by decide) rfl
      have e8 := f5 2 _ e_2 (by decide) rfl
      have e9 := f5 3 _ e_3 (by decide) rfl
      have e10 := f5 5 _ e_5 (by decide) rfl
      refine wl_iinc (pc' := 175) (v := x3 + nI 1) rfl e9 rfl rfl rfl (fun lv11 e12 f13 => ?_)
      have e14 := f13 0 _ e6 (by decide) rfl
      have e15 := f13 1 _ e7 (by decide) rfl
      have e16 := f13 2 _ e8 (by decide) rfl
      have e17 := f13 5 _ e10 (by decide) rfl
      have e18 := f13 4 _ e4 (by decide) rfl
      refine wp_p (pc' := 60) (lv' := lv11) (st' := []) rfl rfl ?_
      exact k _ ⟨e14, e15, e16, e12, e18, e17, trivial⟩
    · replace k := it_f (c := (nI 6) ≤ x3) c2 k
      refine wp_p (pc' := 151) (lv' := lv0) (st' := [.int (nI 32)]) rfl rfl ?_
      refine wl_ild (pc' := 153) rfl e_4 rfl ?_
      refine wp_imul (v := (nI 32) * x4) (pc' := 154) rfl rfl rfl ?_
      refine wl_ald_n (pc' := 155) rfl e_0 rfl ?_
      refine wp_get (v := .ref 43) (pc' := 158) rfl (hq_42 _) rfl rfl ?_
      refine wl_ild_n (pc' := 159) rfl e_1 rfl ?_
      refine wl_ild_n (pc' := 160) rfl e_3 rfl ?_
      refine wp_iadd (v := x1 + x3) (pc' := 161) rfl rfl rfl ?_
      obtain ⟨k19, k⟩ := k
      refine wl_caload (g := m.A 43) (pc' := 162) rfl (hq_43 _) k19 rfl ?_
      refine wp_iadd (v := ((nI 32) * x4) + ((m.A 43).getD (ix (x1 + x3)) 0)) (pc' := 163) rfl rfl rfl ?_
      refine wp_p (pc' := 165) (lv' := lv0) (st' := [.int (nI 96), .int (((nI 32) * x4) + ((m.A 43).getD (ix (x1 + x3)) 0))]) rfl rfl ?_
      refine wp_isub (v := (((nI 32) * x4) + ((m.A 43).getD (ix (x1 + x3)) 0)) - (nI 96)) (pc' := 166) rfl rfl rfl ?_
      refine wp_p (pc' := 170) (lv' := lv0) (st' := [.int ((((nI 32) * x4) + ((m.A 43).getD (ix (x1 + x3)) 0)) - (nI 96))]) rfl rfl ?_
      refine wl_st1 (pc' := 172) (k0 := 4) (v := .int ((((nI 32) * x4) + ((m.A 43).getD (ix (x1 + x3)) 0)) - (nI 96))) (r := []) rfl rfl (fun lv20 e21 f22 => ?_)
      have e23 := f22 0 _ e_0 (by decide) rfl
      have e24 := f22 1 _ e_1 (by decide) rfl
      have e25 := f22 2 _ e_2 (by decide) rfl
      have e26 := f22 3 _ e_3 (by decide) rfl
      have e27 := f22 5 _ e_5 (by decide) rfl
      refine wl_iinc (pc' := 175) (v := x3 + nI 1) rfl e26 rfl rfl rfl (fun lv28 e29 f30 => ?_)
      have e31 := f30 0 _ e23 (by decide) rfl
      have e32 := f30 1 _ e24 (by decide) rfl
      have e33 := f30 2 _ e25 (by decide) rfl
      have e34 := f30 5 _ e27 (by decide) rfl
      have e35 := f30 4 _ e21 (by decide) rfl
      refine wp_p (pc' := 60) (lv' := lv28) (st' := []) rfl rfl ?_
      exact k _ ⟨e31, e32, e33, e29, e35, e34, trivial⟩
  · replace k := it_t (c := x5 = (nI 3)) c1 k
    refine wl_ild_n (pc' := 114) rfl e_3 rfl ?_
    refine wp_p (pc' := 116) (lv' := lv0) (st' := [.int (nI 9), .int x3]) rfl rfl ?_
    refine wp_ic_ge (pc' := 119) rfl rfl (fun c36 => ?_) (fun c36 => ?_)
    · replace k := it_t (c := (nI 9) ≤ x3) c36 k
      refine wp_p (pc' := 140) (lv' := lv0) (st' := [.int (nI 0)]) rfl rfl ?_
      refine wp_p (pc' := 170) (lv' := lv0) (st' := [.int (nI 0)]) rfl rfl ?_
      refine wl_st1 (pc' := 172) (k0 := 4) (v := .int (nI 0)) (r := []) rfl rfl (fun lv37 e38 f39 => ?_)
      have e40 := f39 0 _ e_0 (by decide) rfl
      have e41 := f39 1 _ e_1 (by decide) rfl
      have e42 := f39 2 _ e_2 (by decide) rfl
      have e43 := f39 3 _ e_3 (by decide) rfl
      have e44 := f39 5 _ e_5 (by decide) rfl
      refine wl_iinc (pc' := 175) (v := x3 + nI 1) rfl e43 rfl rfl rfl (fun lv45 e46 f47 => ?_)
      have e48 := f47 0 _ e40 (by decide) rfl
      have e49 := f47 1 _ e41 (by decide) rfl
      have e50 := f47 2 _ e42 (by decide) rfl
      have e51 := f47 5 _ e44 (by decide) rfl
      have e52 := f47 4 _ e38 (by decide) rfl
      refine wp_p (pc' := 60) (lv' := lv45) (st' := []) rfl rfl ?_
      exact k _ ⟨e48, e49, e50, e46, e52, e51, trivial⟩
    · replace k := it_f (c := (nI 9) ≤ x3) c36 k
      refine wp_p (pc' := 121) (lv' := lv0) (st' := [.int (nI 10)]) rfl rfl ?_
      refine wl_ild (pc' := 123) rfl e_4 rfl ?_
      refine wp_imul (v := (nI 10) * x4) (pc' := 124) rfl rfl rfl ?_
      refine wl_ald_n (pc' := 125) rfl e_0 rfl ?_
      refine wp_get (v := .ref 43) (pc' := 128) rfl (hq_42 _) rfl rfl ?_
      refine wl_ild_n (pc' := 129) rfl e_1 rfl ?_
      refine wl_ild_n (pc' := 130) rfl e_3 rfl ?_
      refine wp_iadd (v := x1 + x3) (pc' := 131) rfl rfl rfl ?_
      obtain ⟨k53, k⟩ := k
      refine wl_caload (g := m.A 43) (pc' := 132) rfl (hq_43 _) k53 rfl ?_
      refine wp_iadd (v := ((nI 10) * x4) + ((m.A 43).getD (ix (x1 + x3)) 0)) (pc' := 133) rfl rfl rfl ?_
      refine wp_p (pc' := 135) (lv' := lv0) (st' := [.int (nI 48), .int (((nI 10) * x4) + ((m.A 43).getD (ix (x1 + x3)) 0))]) rfl rfl ?_
      refine wp_isub (v := (((nI 10) * x4) + ((m.A 43).getD (ix (x1 + x3)) 0)) - (nI 48)) (pc' := 136) rfl rfl rfl ?_
      refine wp_p (pc' := 170) (lv' := lv0) (st' := [.int ((((nI 10) * x4) + ((m.A 43).getD (ix (x1 + x3)) 0)) - (nI 48))]) rfl rfl ?_
      refine wl_st1 (pc' := 172) (k0 := 4) (v := .int ((((nI 10) * x4) + ((m.A 43).getD (ix (x1 + x3)) 0)) - (nI 48))) (r := []) rfl rfl (fun lv54 e55 f56 => ?_)
      have e57 := f56 0 _ e_0 (by decide) rfl
      have e58 := f56 1 _ e_1 (by decide) rfl
      have e59 := f56 2 _ e_2 (by decide) rfl
      have e60 := f56 3 _ e_3 (by decide) rfl
      have e61 := f56 5 _ e_5 (by decide) rfl
      refine wl_iinc (pc' := 175) (v := x3 + nI 1) rfl e60 rfl rfl rfl (fun lv62 e63 f64 => ?_)
      have e65 := f64 0 _ e57 (by decide) rfl
      have e66 := f64 1 _ e58 (by decide) rfl
      have e67 := f64 2 _ e59 (by decide) rfl
      have e68 := f64 5 _ e61 (by decide) rfl
      have e69 := f64 4 _ e55 (by decide) rfl
      refine wp_p (pc' := 60) (lv' := lv62) (st' := []) rfl rfl ?_
      exact k _ ⟨e65, e66, e67, e63, e69, e68, trivial⟩
set_option maxRecDepth 20000 in
theorem sg_138_194 {d : Nat} {m : Mm} {K : Option Value → Mm → Prop} (x1 : Int32) (x2 : Int32) (x3 : Int32) (x4 : Int32) (x5 : Int32) (k : (if (m.F 42 6) = (nI 0) then (if x5 = (nI 3) then (if x3 ≤ (nI 9) then WH d 138 266 [(0, .ref 42), (1, .int x1), (2, .int x2), (3, .int x3), (4, .int x4), (5, .int x5)] [] (m.uF 42 6 (nI 0)) K else WH d 138 266 [(0, .ref 42), (1, .int x1), (2, .int x2), (3, .int x3), (4, .int x4), (5, .int x5)] [] (m.uF 42 6 (nI 1)) K) else WH d 138 266 [(0, .ref 42), (1, .int x1), (2, .int x2), (3, .int x3), (4, .int x4), (5, .int x5)] [] (m.uF 42 6 (nI 0)) K) else WH d 138 266 [(0, .ref 42), (1, .int x1), (2, .int x2), (3, .int x3), (4, .int x4), (5, .int x5)] [] (m.uF 42 6 (nI 1)) K)) : WH d 138 194 [(0, .ref 42), (1, .int x1), (2, .int x2), (3, .int x3), (4, .int x4), (5, .int x5)] [] m K := by
  intro lv0 el
  obtain ⟨e_0, e_1, e_2, e_3, e_4, e_5, _⟩ := el
  refine wl_ild (pc' := 196) rfl e_4 rfl ?_
  refine wl_st1 (pc' := 198) (k0 := 4) (v := .int x4) (r := []) rfl rfl (fun lv1 e2 f3 => ?_)
  have e4 := f3 0 _ e_0 (by decide) rfl
  have e5 := f3 1 _ e_1 (by decide) rfl
  have e6 := f3 2 _ e_2 (by decide) rfl
  have e7 := f3 3 _ e_3 (by decide) rfl
  have e8 := f3 5 _ e_5 (by decide) rfl
  refine wl_ald_n (pc' := 199) rfl e4 rfl ?_
  refine wl_ald_n (pc' := 200) rfl e4 rfl ?_
  refine wp_get (v := .int (m.F 42 6)) (pc' := 203) rfl (hq_42 _) rfl rfl ?_
  refine wp_if_ne (pc' := 206) rfl rfl (fun c9 => ?_) (fun c9 => ?_)
  · replace k := it_f (c := (m.F 42 6) = (nI 0)) c9 k
    refine wp_p (pc' := 219) (lv' := lv1) (st' := [.int (nI 1), .ref 42]) rfl rfl ?_
    refine wp_p (pc' := 223) (lv' := lv1) (st' := [.int (nI 1), .ref 42]) rfl rfl ?_
    refine wl_put (pc' := 226) (h2 := hp (m.uF 42 6 (nI 1))) rfl (hq_42 _) rfl rfl rfl (pf_42_6 _ _) ?_
    refine wp_p (pc' := 266) (lv' := lv1) (st' := []) rfl rfl ?_
    exact k _ ⟨e4, e5, e6, e7, e2, e8, trivial⟩
  · replace k := it_t (c := (m.F 42 6) = (nI 0)) c9 k
    refine wl_ild (pc' := 208) rfl e8 rfl ?_
    refine wp_p (pc' := 209) (lv' := lv1) (st' := [.int (nI 3), .int x5, .ref 42]) rfl rfl ?_
    refine wp_ic_ne (pc' := 212) rfl rfl (fun c10 => ?_) (fun c10 => ?_)
    · replace k := it_f (c := x5 = (nI 3)) c10 k
      refine wp_p (pc' := 223) (lv' := lv1) (st' := [.int (nI 0), .ref 42]) rfl rfl ?_
      refine wl_put (pc' := 226) (h2 := hp (m.uF 42 6 (nI 0))) rfl (hq_42 _) rfl rfl rfl (pf_42_6 _ _) ?_
      refine wp_p (pc' := 266) (lv' := lv1) (st' := []) rfl rfl ?_
      exact k _ ⟨e4, e5, e6, e7, e2, e8, trivial⟩
    · replace k := it_t (c := x5 = (nI 3)) c10 k
      refine wl_ild_n (pc' := 213) rfl e7 rfl ?_
      refine wp_p (pc' := 215) (lv' := lv1) (st' := [.int (nI 9), .int x3, .ref 42]) rfl rfl ?_
      refine wp_ic_le (pc' := 218) rfl rfl (fun c11 => ?_) (fun c11 => ?_)
      · replace k := it_t (c := x3 ≤ (nI 9)) c11 k
        refine wp_p (pc' := 223) (lv' := lv1) (st' := [.int (nI 0), .ref 42]) rfl rfl ?_
        refine wl_put (pc' := 226) (h2 := hp (m.uF 42 6 (nI 0))) rfl (hq_42 _) rfl rfl rfl (pf_42_6 _ _) ?_
        refine wp_p (pc' := 266) (lv' := lv1) (st' := []) rfl rfl ?_
        exact k _ ⟨e4, e5, e6, e7, e2, e8, trivial⟩
      · replace k := it_f (c := x3 ≤ (nI 9)) c11 k
        refine wp_p (pc' := 219) (lv' := lv1) (st' := [.int (nI 1), .ref 42]) rfl rfl ?_
        refine wp_p (pc' := 223) (lv' := lv1) (st' := [.int (nI 1), .ref 42]) rfl rfl ?_
        refine wl_put (pc' := 226) (h2 := hp (m.uF 42 6 (nI 1))) rfl (hq_42 _) rfl rfl rfl (pf_42_6 _ _) ?_
        refine wp_p (pc' := 266) (lv' := lv1) (st' := []) rfl rfl ?_
        exact k _ ⟨e4, e5, e6, e7, e2, e8, trivial⟩
/-! 139: QueryTablesModel.word -/
set_option maxRecDepth 20000 in
theorem sp_139 {d : Nat} {m : Mm} {K : Option Value → Mm → Prop} (x0 : Int32) (x1 : Int32) (x2 : Int32) (x3 : Int32) (x4 : Int32) (x5 : Int32) (k : (if x2 = (nI 0) then (if x3 = (nI 0) then (if x4 = (nI 0) then (if x5 = (nI 0) then K (some (.int ((((nI 32) * (x0 - (nI 96))) + x1) - (nI 96)))) m else K (some (.int ((((nI 32) * ((((nI 32) * (x0 - (nI 96))) + x1) - (nI 96))) + x5) - (nI 96)))) m) else (if x5 = (nI 0) then K (some (.int ((((nI 32) * ((((nI 32) * (x0 - (nI 96))) + x1) - (nI 96))) + x4) - (nI 96)))) m else K (some (.int ((((nI 32) * ((((nI 32) * ((((nI 32) * (x0 - (nI 96))) + x1) - (nI 96))) + x4) - (nI 96))) + x5) - (nI 96)))) m)) else (if x4 = (nI 0) then (if x5 = (nI 0) then K (some (.int ((((nI 32) * ((((nI 32) * (x0 - (nI 96))) + x1) - (nI 96))) + x3) - (nI 96)))) m else K (some (.int ((((nI 32) * ((((nI 32) * ((((nI 32) * (x0 - (nI 96))) + x1) - (nI 96))) + x3) - (nI 96))) + x5) - (nI 96)))) m) else (if x5 = (nI 0) then K (some (.int ((((nI 32) * ((((nI 32) * ((((nI 32) * (x0 - (nI 96))) + x1) - (nI 96))) + x3) - (nI 96))) + x4) - (nI 96)))) m else K (some (.int ((((nI 32) * ((((nI 32) * ((((nI 32) * ((((nI 32) * (x0 - (nI 96))) + x1) - (nI 96))) + x3) - (nI 96))) + x4) - (nI 96))) + x5) - (nI 96)))) m))) else (if x3 = (nI 0) then (if x4 = (nI 0) then (if x5 = (nI 0) then K (some (.int ((((nI 32) * ((((nI 32) * (x0 - (nI 96))) + x1) - (nI 96))) + x2) - (nI 96)))) m else K (some (.int ((((nI 32) * ((((nI 32) * ((((nI 32) * (x0 - (nI 96))) + x1) - (nI 96))) + x2) - (nI 96))) + x5) - (nI 96)))) m) else (if x5 = (nI 0) then K (some (.int ((((nI 32) * ((((nI 32) * ((((nI 32) * (x0 - (nI 96))) + x1) - (nI 96))) + x2) - (nI 96))) + x4) - (nI 96)))) m else K (some (.int ((((nI 32) * ((((nI 32) * ((((nI 32) * ((((nI 32) * (x0 - (nI 96))) + x1) - (nI 96))) + x2) - (nI 96))) + x4) - (nI 96))) + x5) - (nI 96)))) m)) else (if x4 = (nI 0) then (if x5 = (nI 0) then K (some (.int ((((nI 32) * ((((nI 32) * ((((nI 32) * (x0 - (nI 96))) + x1) - (nI 96))) + x2) - (nI 96))) + x3) - (nI 96)))) m else K (some (.int ((((nI 32) * ((((nI 32) * ((((nI 32) * ((((nI 32) * (x0 - (nI 96))) + x1) - (nI 96))) + x2) - (nI 96))) + x3) - (nI 96))) + x5) - (nI 96)))) m) else (if x5 = (nI 0) then K (some (.int ((((nI 32) * ((((nI 32) * ((((nI 32) * ((((nI 32) * (x0 - (nI 96))) + x1) - (nI 96))) + x2) - (nI 96))) + x3) - (nI 96))) + x4) - (nI 96)))) m else K (some (.int ((((nI 32) * ((((nI 32) * ((((nI 32) * ((((nI 32) * ((((nI 32) * (x0 - (nI 96))) + x1) - (nI 96))) + x2) - (nI 96))) + x3) - (nI 96))) + x4) - (nI 96))) + x5) - (nI 96)))) m))))) : WP d 139 [.int x0, .int x1, .int x2, .int x3, .int x4, .int x5] m K := by
  have e_0 : sm_lk (lv_args 0 [.int x0, .int x1, .int x2, .int x3, .int x4, .int x5]) 0 = some (.int x0) := rfl
  have e_1 : sm_lk (lv_args 0 [.int x0, .int x1, .int x2, .int x3, .int x4, .int x5]) 1 = some (.int x1) := rfl
  have e_2 : sm_lk (lv_args 0 [.int x0, .int x1, .int x2, .int x3, .int x4, .int x5]) 2 = some (.int x2) := rfl
  have e_3 : sm_lk (lv_args 0 [.int x0, .int x1, .int x2, .int x3, .int x4, .int x5]) 3 = some (.int x3) := rfl
  have e_4 : sm_lk (lv_args 0 [.int x0, .int x1, .int x2, .int x3, .int x4, .int x5]) 4 = some (.int x4) := rfl
  have e_5 : sm_lk (lv_args 0 [.int x0, .int x1, .int x2, .int x3, .int x4, .int x5]) 5 = some (.int x5) := rfl
  show sm_wp d 139 0 (lv_args 0 [.int x0, .int x1, .int x2, .int x3, .int x4, .int x5]) [] (hp m) (WQ K)
  generalize lv_args 0 [.int x0, .int x1, .int x2, .int x3, .int x4, .int x5] = lv0 at *
  refine wp_p (pc' := 2) (lv' := lv0) (st' := [.int (nI 32)]) rfl rfl ?_
  refine wl_ild_n (pc' := 3) rfl e_0 rfl ?_
  refine wp_p (pc' := 5) (lv' := lv0) (st' := [.int (nI 96), .int x0, .int (nI 32)]) rfl rfl ?_
  refine wp_isub (v := x0 - (nI 96)) (pc' := 6) rfl rfl rfl ?_
  refine wp_imul (v := (nI 32) * (x0 - (nI 96))) (pc' := 7) rfl rfl rfl ?_
  refine wl_ild_n (pc' := 8) rfl e_1 rfl ?_
  refine wp_iadd (v := ((nI 32) * (x0 - (nI 96))) + x1) (pc' := 9) rfl rfl rfl ?_
  refine wp_p (pc' := 11) (lv' := lv0) (st' := [.int (nI 96), .int (((nI 32) * (x0 - (nI 96))) + x1)]) rfl rfl ?_
  refine wp_isub (v := (((nI 32) * (x0 - (nI 96))) + x1) - (nI 96)) (pc' := 12) rfl rfl rfl ?_
  refine wl_st1 (pc' := 14) (k0 := 6) (v := .int ((((nI 32) * (x0 - (nI 96))) + x1) - (nI 96))) (r := []) rfl rfl (fun lv1 e2 f3 => ?_)
  have e4 := f3 0 _ e_0 (by decide) rfl
  have e5 := f3 1 _ e_1 (by decide) rfl
  have e6 := f3 2 _ e_2 (by decide) rfl
  have e7 := f3 3 _ e_3 (by decide) rfl
  have e8 := f3 4 _ e_4 (by decide) rfl
  have e9 := f3 5 _ e_5 (by decide) rfl
  refine wl_ild_n (pc' := 15) rfl e6 rfl ?_
  refine wp_if_ne (pc' := 18) rfl rfl (fun c10 => ?_) (fun c10 => ?_)
  · replace k := it_f (c := x2 = (nI 0)) c10 k
    refine wp_p (pc' := 25) (lv' := lv1) (st' := [.int (nI 32)]) rfl rfl ?_
    refine wl_ild (pc' := 27) rfl e2 rfl ?_
    refine wp_imul (v := (nI 32) * ((((nI 32) * (x0 - (nI 96))) + x1) - (nI 96))) (pc' := 28) rfl rfl rfl ?_
    refine wl_ild_n (pc' := 29) rfl e6 rfl ?_
    refine wp_iadd (v := ((nI 32) * ((((nI 32) * (x0 - (nI 96))) + x1) - (nI 96))) + x2) (pc' := 30) rfl rfl rfl ?_
    refine wp_p (pc' := 32) (lv' := lv1) (st' := [.int (nI 96), .int (((nI 32) * ((((nI 32) * (x0 - (nI 96))) + x1) - (nI 96))) + x2)]) rfl rfl ?_
    refine wp_isub (v := (((nI 32) * ((((nI 32) * (x0 - (nI 96))) + x1) - (nI 96))) + x2) - (nI 96)) (pc' := 33) rfl rfl rfl ?_
    refine wl_st1 (pc' := 35) (k0 := 6) (v := .int ((((nI 32) * ((((nI 32) * (x0 - (nI 96))) + x1) - (nI 96))) + x2) - (nI 96))) (r := []) rfl rfl (fun lv11 e12 f13 => ?_)
    have e14 := f13 0 _ e4 (by decide) rfl
    have e15 := f13 1 _ e5 (by decide) rfl
    have e16 := f13 2 _ e6 (by decide) rfl
    have e17 := f13 3 _ e7 (by decide) rfl
    have e18 := f13 4 _ e8 (by decide) rfl
    have e19 := f13 5 _ e9 (by decide) rfl
    refine wl_ild_n (pc' := 36) rfl e17 rfl ?_
    refine wp_if_ne (pc' := 39) rfl rfl (fun c20 => ?_) (fun c20 => ?_)
    · replace k := it_f (c := x3 = (nI 0)) c20 k
      refine wp_p (pc' := 46) (lv' := lv11) (st' := [.int (nI 32)]) rfl rfl ?_
      refine wl_ild (pc' := 48) rfl e12 rfl ?_
      refine wp_imul (v := (nI 32) * ((((nI 32) * ((((nI 32) * (x0 - (nI 96))) + x1) - (nI 96))) + x2) - (nI 96))) (pc' := 49) rfl rfl rfl ?_
      refine wl_ild_n (pc' := 50) rfl e17 rfl ?_
      refine wp_iadd (v := ((nI 32) * ((((nI 32) * ((((nI 32) * (x0 - (nI 96))) + x1) - (nI 96))) + x2) - (nI 96))) + x3) (pc' := 51) rfl rfl rfl ?_
      refine wp_p (pc' := 53) (lv' := lv11) (st' := [.int (nI 96), .int (((nI 32) * ((((nI 32) * ((((nI 32) * (x0 - (nI 96))) + x1) - (nI 96))) + x2) - (nI 96))) + x3)]) rfl rfl ?_
      refine wp_isub (v := (((nI 32) * ((((nI 32) * ((((nI 32) * (x0 - (nI 96))) + x1) - (nI 96))) + x2) - (nI 96))) + x3) - (nI 96)) (pc' := 54) rfl rfl rfl ?_
      refine wl_st1 (pc' := 56) (k0 := 6) (v := .int ((((nI 32) * ((((nI 32) * ((((nI 32) * (x0 - (nI 96))) + x1) - (nI 96))) + x2) - (nI 96))) + x3) - (nI 96))) (r := []) rfl rfl (fun lv21 e22 f23 => ?_)
      have e24 := f23 0 _ e14 (by decide) rfl
      have e25 := f23 1 _ e15 (by decide) rfl
      have e26 := f23 2 _ e16 (by decide) rfl
      have e27 := f23 3 _ e17 (by decide) rfl
      have e28 := f23 4 _ e18 (by decide) rfl
      have e29 := f23 5 _ e19 (by decide) rfl
      refine wl_ild (pc' := 58) rfl e28 rfl ?_
      refine wp_if_ne (pc' := 61) rfl rfl (fun c30 => ?_) (fun c30 => ?_)
      · replace k := it_f (c := x4 = (nI 0)) c30 k
        refine wp_p (pc' := 68) (lv' := lv21) (st' := [.int (nI 32)]) rfl rfl ?_
        refine wl_ild (pc' := 70) rfl e22 rfl ?_
        refine wp_imul (v := (nI 32) * ((((nI 32) * ((((nI 32) * ((((nI 32) * (x0 - (nI 96))) + x1) - (nI 96))) + x2) - (nI 96))) + x3) - (nI 96))) (pc' := 71) rfl rfl rfl ?_
        refine wl_ild (pc' := 73) rfl e28 rfl ?_
        refine wp_iadd (v := ((nI 32) * ((((nI 32) * ((((nI 32) * ((((nI 32) * (x0 - (nI 96))) + x1) - (nI 96))) + x2) - (nI 96))) + x3) - (nI 96))) + x4) (pc' := 74) rfl rfl rfl ?_
        refine wp_p (pc' := 76) (lv' := lv21) (st' := [.int (nI 96), .int (((nI 32) * ((((nI 32) * ((((nI 32) * ((((nI 32) * (x0 - (nI 96))) + x1) - (nI 96))) + x2) - (nI 96))) + x3) - (nI 96))) + x4)]) rfl rfl ?_
        refine wp_isub (v := (((nI 32) * ((((nI 32) * ((((nI 32) * ((((nI 32) * (x0 - (nI 96))) + x1) - (nI 96))) + x2) - (nI 96))) + x3) - (nI 96))) + x4) - (nI 96)) (pc' := 77) rfl rfl rfl ?_
        refine wl_st1 (pc' := 79) (k0 := 6) (v := .int ((((nI 32) * ((((nI 32) * ((((nI 32) * ((((nI 32) * (x0 - (nI 96))) + x1) - (nI 96))) + x2) - (nI 96))) + x3) - (nI 96))) + x4) - (nI 96))) (r := []) rfl rfl (fun lv31 e32 f33 => ?_)
        have e34 := f33 0 _ e24 (by decide) rfl
        have e35 := f33 1 _ e25 (by decide) rfl
        have e36 := f33 2 _ e26 (by decide) rfl
        have e37 := f33 3 _ e27 (by decide) rfl
        have e38 := f33 4 _ e28 (by decide) rfl
        have e39 := f33 5 _ e29 (by decide) rfl
        refine wl_ild (pc' := 81) rfl e39 rfl ?_
        refine wp_if_ne (pc' := 84) rfl rfl (fun c40 => ?_) (fun c40 => ?_)
        · replace k := it_f (c := x5 = (nI 0)) c40 k
          refine wp_p (pc' := 91) (lv' := lv31) (st' := [.int (nI 32)]) rfl rfl ?_
          refine wl_ild (pc' := 93) rfl e32 rfl ?_
          refine wp_imul (v := (nI 32) * ((((nI 32) * ((((nI 32) * ((((nI 32) * ((((nI 32) * (x0 - (nI 96))) + x1) - (nI 96))) + x2) - (nI 96))) + x3) - (nI 96))) + x4) - (nI 96))) (pc' := 94) rfl rfl rfl ?_
          refine wl_ild (pc' := 96) rfl e39 rfl ?_
          refine wp_iadd (v := ((nI 32) * ((((nI 32) * ((((nI 32) * ((((nI 32) * ((((nI 32) * (x0 - (nI 96))) + x1) - (nI 96))) + x2) - (nI 96))) + x3) - (nI 96))) + x4) - (nI 96))) + x5) (pc' := 97) rfl rfl rfl ?_
          refine wp_p (pc' := 99) (lv' := lv31) (st' := [.int (nI 96), .int (((nI 32) * ((((nI 32) * ((((nI 32) * ((((nI 32) * ((((nI 32) * (x0 - (nI 96))) + x1) - (nI 96))) + x2) - (nI 96))) + x3) - (nI 96))) + x4) - (nI 96))) + x5)]) rfl rfl ?_
          refine wp_isub (v := (((nI 32) * ((((nI 32) * ((((nI 32) * ((((nI 32) * ((((nI 32) * (x0 - (nI 96))) + x1) - (nI 96))) + x2) - (nI 96))) + x3) - (nI 96))) + x4) - (nI 96))) + x5) - (nI 96)) (pc' := 100) rfl rfl rfl ?_
          exact wl_ret rfl rfl ⟨_, rfl, k⟩
        · replace k := it_t (c := x5 = (nI 0)) c40 k
          refine wl_ild (pc' := 86) rfl e32 rfl ?_
          refine wp_p (pc' := 100) (lv' := lv31) (st' := [.int ((((nI 32) * ((((nI 32) * ((((nI 32) * ((((nI 32) * (x0 - (nI 96))) + x1) - (nI 96))) + x2) - (nI 96))) + x3) - (nI 96))) + x4) - (nI 96))]) rfl rfl ?_
          exact wl_ret rfl rfl ⟨_, rfl, k⟩
      · replace k := it_t (c := x4 = (nI 0)) c30 k
        refine wl_ild (pc' := 63) rfl e22 rfl ?_
        refine wp_p (pc' := 77) (lv' := lv21) (st' := [.int ((((nI 32) * ((((nI 32) * ((((nI 32) * (x0 - (nI 96))) + x1) - (nI 96))) + x2) - (nI 96))) + x3) - (nI 96))]) rfl rfl ?_
        refine wl_st1 (pc' := 79) (k0 := 6) (v := .int ((((nI 32) * ((((nI 32) * ((((nI 32) * (x0 - (nI 96))) + x1) - (nI 96))) + x2) - (nI 96))) + x3) - (nI 96))) (r := []) rfl rfl (fun lv41 e42 f43 => ?_)
        have e44 := f43 0 _ e24 (by decide) rfl
        have e45 := f43 1 _ e25 (by decide) rfl
        have e46 := f43 2 _ e26 (by decide) rfl
        have e47 := f43 3 _ e27 (by decide) rfl
        have e48 := f43 4 _ e28 (by decide) rfl
        have e49 := f43 5 _ e29 (by decide) rfl
        refine wl_ild (pc' := 81) rfl e49 rfl ?_
        refine wp_if_ne (pc' := 84) rfl rfl (fun c50 => ?_) (fun c50 => ?_)
        · replace k := it_f (c := x5 = (nI 0)) c50 k
          refine wp_p (pc' := 91) (lv' := lv41) (st' := [.int (nI 32)]) rfl rfl ?_
          refine wl_ild (pc' := 93) rfl e42 rfl ?_
          refine wp_imul (v := (nI 32) * ((((nI 32) * ((((nI 32) * ((((nI 32) * (x0 - (nI 96))) + x1) - (nI 96))) + x2) - (nI 96))) + x3) - (nI 96))) (pc' := 94) rfl rfl rfl ?_
          refine wl_ild (pc' := 96) rfl e49 rfl ?_
          refine wp_iadd (v := ((nI 32) * ((((nI 32) * ((((nI 32) * ((((nI 32) * (x0 - (nI 96))) + x1) - (nI 96))) + x2) - (nI 96))) + x3) - (nI 96))) + x5) (pc' := 97) rfl rfl rfl ?_
          refine wp_p (pc' := 99) (lv' := lv41) (st' := [.int (nI 96), .int (((nI 32) * ((((nI 32) * ((((nI 32) * ((((nI 32) * (x0 - (nI 96))) + x1) - (nI 96))) + x2) - (nI 96))) + x3) - (nI 96))) + x5)]) rfl rfl ?_
          refine wp_isub (v := (((nI 32) * ((((nI 32) * ((((nI 32) * ((((nI 32) * (x0 - (nI 96))) + x1) - (nI 96))) + x2) - (nI 96))) + x3) - (nI 96))) + x5) - (nI 96)) (pc' := 100) rfl rfl rfl ?_
          exact wl_ret rfl rfl ⟨_, rfl, k⟩
        · replace k := it_t (c := x5 = (nI 0)) c50 k
          refine wl_ild (pc' := 86) rfl e42 rfl ?_
          refine wp_p (pc' := 100) (lv' := lv41) (st' := [.int ((((nI 32) * ((((nI 32) * ((((nI 32) * (x0 - (nI 96))) + x1) - (nI 96))) + x2) - (nI 96))) + x3) - (nI 96))]) rfl rfl ?_
          exact wl_ret rfl rfl ⟨_, rfl, k⟩
    · replace k := it_t (c := x3 = (nI 0)) c20 k
      refine wl_ild (pc' := 41) rfl e12 rfl ?_
      refine wp_p (pc' := 54) (lv' := lv11) (st' := [.int ((((nI 32) * ((((nI 32) * (x0 - (nI 96))) + x1) - (nI 96))) + x2) - (nI 96))]) rfl rfl ?_
      refine wl_st1 (pc' := 56) (k0 := 6) (v := .int ((((nI 32) * ((((nI 32) * (x0 - (nI 96))) + x1) - (nI 96))) + x2) - (nI 96))) (r := []) rfl rfl (fun lv51 e52 f53 => ?_)
      have e54 := f53 0 _ e14 (by decide) rfl
      have e55 := f53 1 _ e15 (by decide) rfl
      have e56 := f53 2 _ e16 (by decide) rfl
      have e57 := f53 3 _ e17 (by decide) rfl
      have e58 := f53 4 _ e18 (by decide) rfl
      have e59 := f53 5 _ e19 (by decide) rfl
      refine wl_ild (pc' := 58) rfl e58 rfl ?_
      refine wp_if_ne (pc' := 61) rfl rfl (fun c60 => ?_) (fun c60 => ?_)
      · replace k := it_f (c := x4 = (nI 0)) c60 k
        refine wp_p (pc' := 68) (lv' := lv51) (st' := [.int (nI 32)]) rfl rfl ?_
        refine wl_ild (pc' := 70) rfl e52 rfl ?_
        refine wp_imul (v := (nI 32) * ((((nI 32) * ((((nI 32) * (x0 - (nI 96))) + x1) - (nI 96))) + x2) - (nI 96))) (pc' := 71) rfl rfl rfl ?_
        refine wl_ild (pc' := 73) rfl e58 rfl ?_
        refine wp_iadd (v := ((nI 32) * ((((nI 32) * ((((nI 32) * (x0 - (nI 96))) + x1) - (nI 96))) + x2) - (nI 96))) + x4) (pc' := 74) rfl rfl rfl ?_
        refine wp_p (pc' := 76) (lv' := lv51) (st' := [.int (nI 96), .int (((nI 32) * ((((nI 32) * ((((nI 32) * (x0 - (nI 96))) + x1) - (nI 96))) + x2) - (nI 96))) + x4)]) rfl rfl ?_
        refine wp_isub (v := (((nI 32) * ((((nI 32) * ((((nI 32) * (x0 - (nI 96))) + x1) - (nI 96))) + x2) - (nI 96))) + x4) - (nI 96)) (pc' := 77) rfl rfl rfl ?_
        refine wl_st1 (pc' := 79) (k0 := 6) (v := .int ((((nI 32) * ((((nI 32) * ((((nI 32) * (x0 - (nI 96))) + x1) - (nI 96))) + x2) - (nI 96))) + x4) - (nI 96))) (r := []) rfl rfl (fun lv61 e62 f63 => ?_)
        have e64 := f63 0 _ e54 (by decide) rfl
        have e65 := f63 1 _ e55 (by decide) rfl
        have e66 := f63 2 _ e56 (by decide) rfl
        have e67 := f63 3 _ e57 (by decide) rfl
        have e68 := f63 4 _ e58 (by decide) rfl
        have e69 := f63 5 _ e59 (by decide) rfl
        refine wl_ild (pc' := 81) rfl e69 rfl ?_
        refine wp_if_ne (pc' := 84) rfl rfl (fun c70 => ?_) (fun c70 => ?_)
        · replace k := it_f (c := x5 = (nI 0)) c70 k
          refine wp_p (pc' := 91) (lv' := lv61) (st' := [.int (nI 32)]) rfl rfl ?_
          refine wl_ild (pc' := 93) rfl e62 rfl ?_
          refine wp_imul (v := (nI 32) * ((((nI 32) * ((((nI 32) * ((((nI 32) * (x0 - (nI 96))) + x1) - (nI 96))) + x2) - (nI 96))) + x4) - (nI 96))) (pc' := 94) rfl rfl rfl ?_
          refine wl_ild (pc' := 96) rfl e69 rfl ?_
          refine wp_iadd (v := ((nI 32) * ((((nI 32) * ((((nI 32) * ((((nI 32) * (x0 - (nI 96))) + x1) - (nI 96))) + x2) - (nI 96))) + x4) - (nI 96))) + x5) (pc' := 97) rfl rfl rfl ?_
          refine wp_p (pc' := 99) (lv' := lv61) (st' := [.int (nI 96), .int (((nI 32) * ((((nI 32) * ((((nI 32) * ((((nI 32) * (x0 - (nI 96))) + x1) - (nI 96))) + x2) - (nI 96))) + x4) - (nI 96))) + x5)]) rfl rfl ?_
          refine wp_isub (v := (((nI 32) * ((((nI 32) * ((((nI 32) * ((((nI 32) * (x0 - (nI 96))) + x1) - (nI 96))) + x2) - (nI 96))) + x4) - (nI 96))) + x5) - (nI 96)) (pc' := 100) rfl rfl rfl ?_
          exact wl_ret rfl rfl ⟨_, rfl, k⟩
        · replace k := it_t (c := x5 = (nI 0)) c70 k
          refine wl_ild (pc' := 86) rfl e62 rfl ?_
          refine wp_p (pc' := 100) (lv' := lv61) (st' := [.int ((((nI 32) * ((((nI 32) * ((((nI 32) * (x0 - (nI 96))) + x1) - (nI 96))) + x2) - (nI 96))) + x4) - (nI 96))]) rfl rfl ?_
          exact wl_ret rfl rfl ⟨_, rfl, k⟩
      · replace k := it_t (c := x4 = (nI 0)) c60 k
        refine wl_ild (pc' := 63) rfl e52 rfl ?_
        refine wp_p (pc' := 77) (lv' := lv51) (st' := [.int ((((nI 32) * ((((nI 32) * (x0 - (nI 96))) + x1) - (nI 96))) + x2) - (nI 96))]) rfl rfl ?_
        refine wl_st1 (pc' := 79) (k0 := 6) (v := .int ((((nI 32) * ((((nI 32) * (x0 - (nI 96))) + x1) - (nI 96))) + x2) - (nI 96))) (r := []) rfl rfl (fun lv71 e72 f73 => ?_)
        have e74 := f73 0 _ e54 (by decide) rfl
        have e75 := f73 1 _ e55 (by decide) rfl
        have e76 := f73 2 _ e56 (by decide) rfl
        have e77 := f73 3 _ e57 (by decide) rfl
        have e78 := f73 4 _ e58 (by decide) rfl
        have e79 := f73 5 _ e59 (by decide) rfl
        refine wl_ild (pc' := 81) rfl e79 rfl ?_
        refine wp_if_ne (pc' := 84) rfl rfl (fun c80 => ?_) (fun c80 => ?_)
        · replace k := it_f (c := x5 = (nI 0)) c80 k
          refine wp_p (pc' := 91) (lv' := lv71) (st' := [.int (nI 32)]) rfl rfl ?_
          refine wl_ild (pc' := 93) rfl e72 rfl ?_
          refine wp_imul (v := (nI 32) * ((((nI 32) * ((((nI 32) * (x0 - (nI 96))) + x1) - (nI 96))) + x2) - (nI 96))) (pc' := 94) rfl rfl rfl ?_
          refine wl_ild (pc' := 96) rfl e79 rfl ?_
          refine wp_iadd (v := ((nI 32) * ((((nI 32) * ((((nI 32) * (x0 - (nI 96))) + x1) - (nI 96))) + x2) - (nI 96))) + x5) (pc' := 97) rfl rfl rfl ?_
          refine wp_p (pc' := 99) (lv' := lv71) (st' := [.int (nI 96), .int (((nI 32) * ((((nI 32) * ((((nI 32) * (x0 - (nI 96))) + x1) - (nI 96))) + x2) - (nI 96))) + x5)]) rfl rfl ?_
          refine wp_isub (v := (((nI 32) * ((((nI 32) * ((((nI 32) * (x0 - (nI 96))) + x1) - (nI 96))) + x2) - (nI 96))) + x5) - (nI 96)) (pc' := 100) rfl rfl rfl ?_
          exact wl_ret rfl rfl ⟨_, rfl, k⟩
        · replace k := it_t (c := x5 = (nI 0)) c80 k
          refine wl_ild (pc' := 86) rfl e72 rfl ?_
          refine wp_p (pc' := 100) (lv' := lv71) (st' := [.int ((((nI 32) * ((((nI 32) * (x0 - (nI 96))) + x1) - (nI 96))) + x2) - (nI 96))]) rfl rfl ?_
          exact wl_ret rfl rfl ⟨_, rfl, k⟩
  · replace k := it_t (c := x2 = (nI 0)) c10 k
    refine wl_ild (pc' := 20) rfl e2 rfl ?_
    refine wp_p (pc' := 33) (lv' := lv1) (st' := [.int ((((nI 32) * (x0 - (nI 96))) + x1) - (nI 96))]) rfl rfl ?_
    refine wl_st1 (pc' := 35) (k0 := 6) (v := .int ((((nI 32) * (x0 - (nI 96))) + x1) - (nI 96))) (r := []) rfl rfl (fun lv81 e82 f83 => ?_)
    have e84 := f83 0 _ e4 (by decide) rfl
    have e85 := f83 1 _ e5 (by decide) rfl
    have e86 := f83 2 _ e6 (by decide) rfl
    have e87 := f83 3 _ e7 (by decide) rfl
    have e88 := f83 4 _ e8 (by decide) rfl
    have e89 := f83 5 _ e9 (by decide) rfl
    refine wl_ild_n (pc' := 36) rfl e87 rfl ?_
    refine wp_if_ne (pc' := 39) rfl rfl (fun c90 => ?_) (fun c90 => ?_)
    · replace k := it_f (c := x3 = (nI 0)) c90 k
      refine wp_p (pc' := 46) (lv' := lv81) (st' := [.int (nI 32)]) rfl rfl ?_
      refine wl_ild (pc' := 48) rfl e82 rfl ?_
      refine wp_imul (v := (nI 32) * ((((nI 32) * (x0 - (nI 96))) + x1) - (nI 96))) (pc' := 49) rfl rfl rfl ?_
      refine wl_ild_n (pc' := 50) rfl e87 rfl ?_
      refine wp_iadd (v := ((nI 32) * ((((nI 32) * (x0 - (nI 96))) + x1) - (nI 96))) + x3) (pc' := 51) rfl rfl rfl ?_
      refine wp_p (pc' := 53) (lv' := lv81) (st' := [.int (nI 96), .int (((nI 32) * ((((nI 32) * (x0 - (nI 96))) + x1) - (nI 96))) + x3)]) rfl rfl ?_
      refine wp_isub (v := (((nI 32) * ((((nI 32) * (x0 - (nI 96))) + x1) - (nI 96))) + x3) - (nI 96)) (pc' := 54) rfl rfl rfl ?_
      refine wl_st1 (pc' := 56) (k0 := 6) (v := .int ((((nI 32) * ((((nI 32) * (x0 - (nI 96))) + x1) - (nI 96))) + x3) - (nI 96))) (r := []) rfl rfl (fun lv91 e92 f93 => ?_)
      have e94 := f93 0 _ e84 (by decide) rfl
      have e95 := f93 1 _ e85 (by decide) rfl
      have e96 := f93 2 _ e86 (by decide) rfl
      have e97 := f93 3 _ e87 (by decide) rfl
      have e98 := f93 4 _ e88 (by decide) rfl
      have e99 := f93 5 _ e89 (by decide) rfl
      refine wl_ild (pc' := 58) rfl e98 rfl ?_
      refine wp_if_ne (pc' := 61) rfl rfl (fun c100 => ?_) (fun c100 => ?_)
      · replace k := it_f (c := x4 = (nI 0)) c100 k
        refine wp_p (pc' := 68) (lv' := lv91) (st' := [.int (nI 32)]) rfl rfl ?_
        refine wl_ild (pc' := 70) rfl e92 rfl ?_
        refine wp_imul (v := (nI 32) * ((((nI 32) * ((((nI 32) * (x0 - (nI 96))) + x1) - (nI 96))) + x3) - (nI 96))) (pc' := 71) rfl rfl rfl ?_
        refine wl_ild (pc' := 73) rfl e98 rfl ?_
        refine wp_iadd (v := ((nI 32) * ((((nI 32) * ((((nI 32) * (x0 - (nI 96))) + x1) - (nI 96))) + x3) - (nI 96))) + x4) (pc' := 74) rfl rfl rfl ?_
        refine wp_p (pc' := 76) (lv' := lv91) (st' := [.int (nI 96), .int (((nI 32) * ((((nI 32) * ((((nI 32) * (x0 - (nI 96))) + x1) - (nI 96))) + x3) - (nI 96))) + x4)]) rfl rfl ?_
        refine wp_isub (v := (((nI 32) * ((((nI 32) * ((((nI 32) * (x0 - (nI 96))) + x1) - (nI 96))) + x3) - (nI 96))) + x4) - (nI 96)) (pc' := 77) rfl rfl rfl ?_
        refine wl_st1 (pc' := 79) (k0 := 6) (v := .int ((((nI 32) * ((((nI 32) * ((((nI 32) * (x0 - (nI 96))) + x1) - (nI 96))) + x3) - (nI 96))) + x4) - (nI 96))) (r := []) rfl rfl (fun lv101 e102 f103 => ?_)
        have e104 := f103 0 _ e94 (by decide) rfl
        have e105 := f103 1 _ e95 (by decide) rfl
        have e106 := f103 2 _ e96 (by decide) rfl
        have e107 := f103 3 _ e97 (by decide) rfl
        have e108 := f103 4 _ e98 (by decide) rfl
        have e109 := f103 5 _ e99 (by decide) rfl
        refine wl_ild (pc' := 81) rfl e109 rfl ?_
        refine wp_if_ne (pc' := 84) rfl rfl (fun c110 => ?_) (fun c110 => ?_)
        · replace k := it_f (c := x5 = (nI 0)) c110 k
          refine wp_p (pc' := 91) (lv' := lv101) (st' := [.int (nI 32)]) rfl rfl ?_
          refine wl_ild (pc' := 93) rfl e102 rfl ?_
          refine wp_imul (v := (nI 32) * ((((nI 32) * ((((nI 32) * ((((nI 32) * (x0 - (nI 96))) + x1) - (nI 96))) + x3) - (nI 96))) + x4) - (nI 96))) (pc' := 94) rfl rfl rfl ?_
          refine wl_ild (pc' := 96) rfl e109 rfl ?_
          refine wp_iadd (v := ((nI 32) * ((((nI 32) * ((((nI 32) * ((((nI 32) * (x0 - (nI 96))) + x1) - (nI 96))) + x3) - (nI 96))) + x4) - (nI 96))) + x5) (pc' := 97) rfl rfl rfl ?_
          refine wp_p (pc' := 99) (lv' := lv101) (st' := [.int (nI 96), .int (((nI 32) * ((((nI 32) * ((((nI 32) * ((((nI 32) * (x0 - (nI 96))) + x1) - (nI 96))) + x3) - (nI 96))) + x4) - (nI 96))) + x5)]) rfl rfl ?_
          refine wp_isub (v := (((nI 32) * ((((nI 32) * ((((nI 32) * ((((nI 32) * (x0 - (nI 96))) + x1) - (nI 96))) + x3) - (nI 96))) + x4) - (nI 96))) + x5) - (nI 96)) (pc' := 100) rfl rfl rfl ?_
          exact wl_ret rfl rfl ⟨_, rfl, k⟩
        · replace k := it_t (c := x5 = (nI 0)) c110 k
          refine wl_ild (pc' := 86) rfl e102 rfl ?_
          refine wp_p (pc' := 100) (lv' := lv101) (st' := [.int ((((nI 32) * ((((nI 32) * ((((nI 32) * (x0 - (nI 96))) + x1) - (nI 96))) + x3) - (nI 96))) + x4) - (nI 96))]) rfl rfl ?_
          exact wl_ret rfl rfl ⟨_, rfl, k⟩
      · replace k := it_t (c := x4 = (nI 0)) c100 k
        refine wl_ild (pc' := 63) rfl e92 rfl ?_
        refine wp_p (pc' := 77) (lv' := lv91) (st' := [.int ((((nI 32) * ((((nI 32) * (x0 - (nI 96))) + x1) - (nI 96))) + x3) - (nI 96))]) rfl rfl ?_
        refine wl_st1 (pc' := 79) (k0 := 6) (v := .int ((((nI 32) * ((((nI 32) * (x0 - (nI 96))) + x1) - (nI 96))) + x3) - (nI 96))) (r := []) rfl rfl (fun lv111 e112 f113 => ?_)
        have e114 := f113 0 _ e94 (by decide) rfl
        have e115 := f113 1 _ e95 (by decide) rfl
        have e116 := f113 2 _ e96 (by decide) rfl
        have e117 := f113 3 _ e97 (by decide) rfl
        have e118 := f113 4 _ e98 (by decide) rfl
        have e119 := f113 5 _ e99 (by decide) rfl
        refine wl_ild (pc' := 81) rfl e119 rfl ?_
        refine wp_if_ne (pc' := 84) rfl rfl (fun c120 => ?_) (fun c120 => ?_)
        · replace k := it_f (c := x5 = (nI 0)) c120 k
          refine wp_p (pc' := 91) (lv' := lv111) (st' := [.int (nI 32)]) rfl rfl ?_
          refine wl_ild (pc' := 93) rfl e112 rfl ?_
          refine wp_imul (v := (nI 32) * ((((nI 32) * ((((nI 32) * (x0 - (nI 96))) + x1) - (nI 96))) + x3) - (nI 96))) (pc' := 94) rfl rfl rfl ?_
          refine wl_ild (pc' := 96) rfl e119 rfl ?_
          refine wp_iadd (v := ((nI 32) * ((((nI 32) * ((((nI 32) * (x0 - (nI 96))) + x1) - (nI 96))) + x3) - (nI 96))) + x5) (pc' := 97) rfl rfl rfl ?_
          refine wp_p (pc' := 99) (lv' := lv111) (st' := [.int (nI 96), .int (((nI 32) * ((((nI 32) * ((((nI 32) * (x0 - (nI 96))) + x1) - (nI 96))) + x3) - (nI 96))) + x5)]) rfl rfl ?_
          refine wp_isub (v := (((nI 32) * ((((nI 32) * ((((nI 32) * (x0 - (nI 96))) + x1) - (nI 96))) + x3) - (nI 96))) + x5) - (nI 96)) (pc' := 100) rfl rfl rfl ?_
          exact wl_ret rfl rfl ⟨_, rfl, k⟩
        · replace k := it_t (c := x5 = (nI 0)) c120 k
          refine wl_ild (pc' := 86) rfl e112 rfl ?_
          refine wp_p (pc' := 100) (lv' := lv111) (st' := [.int ((((nI 32) * ((((nI 32) * (x0 - (nI 96))) + x1) - (nI 96))) + x3) - (nI 96))]) rfl rfl ?_
          exact wl_ret rfl rfl ⟨_, rfl, k⟩
    · replace k := it_t (c := x3 = (nI 0)) c90 k
      refine wl_ild (pc' := 41) rfl e82 rfl ?_
      refine wp_p (pc' := 54) (lv' := lv81) (st' := [.int ((((nI 32) * (x0 - (nI 96))) + x1) - (nI 96))]) rfl rfl ?_
      refine wl_st1 (pc' := 56) (k0 := 6) (v := .int ((((nI 32) * (x0 - (nI 96))) + x1) - (nI 96))) (r := []) rfl rfl (fun lv121 e122 f123 => ?_)
      have e124 := f123 0 _ e84 (by decide) rfl
      have e125 := f123 1 _ e85 (by decide) rfl
      have e126 := f123 2 _ e86 (by decide) rfl
      have e127 := f123 3 _ e87 (by decide) rfl
      have e128 := f123 4 _ e88 (by decide) rfl
      have e129 := f123 5 _ e89 (by decide) rfl
      refine wl_ild (pc' := 58) rfl e128 rfl ?_
      refine wp_if_ne (pc' := 61) rfl rfl (fun c130 => ?_) (fun c130 => ?_)
      · replace k := it_f (c := x4 = (nI 0)) c130 k
        refine wp_p (pc' := 68) (lv' := lv121) (st' := [.int (nI 32)]) rfl rfl ?_
        refine wl_ild (pc' := 70) rfl e122 rfl ?_
        refine wp_imul (v := (nI 32) * ((((nI 32) * (x0 - (nI 96))) + x1) - (nI 96))) (pc' := 71) rfl rfl rfl ?_
        refine wl_ild (pc' := 73) rfl e128 rfl ?_
        refine wp_iadd (v := ((nI 32) * ((((nI 32) * (x0 - (nI 96))) + x1) - (nI 96))) + x4) (pc' := 74) rfl rfl rfl ?_
        refine wp_p (pc' := 76) (lv' := lv121) (st' := [.int (nI 96), .int (((nI 32) * ((((nI 32) * (x0 - (nI 96))) + x1) - (nI 96))) + x4)]) rfl rfl ?_
        refine wp_isub (v := (((nI 32) * ((((nI 32) * (x0 - (nI 96))) + x1) - (nI 96))) + x4) - (nI 96)) (pc' := 77) rfl rfl rfl ?_
        refine wl_st1 (pc' := 79) (k0 := 6) (v := .int ((((nI 32) * ((((nI 32) * (x0 - (nI 96))) + x1) - (nI 96))) + x4) - (nI 96))) (r := []) rfl rfl (fun lv131 e132 f133 => ?_)
        have e134 := f133 0 _ e124 (by decide) rfl
        have e135 := f133 1 _ e125 (by decide) rfl
        have e136 := f133 2 _ e126 (by decide) rfl
        have e137 := f133 3 _ e127 (by decide) rfl
        have e138 := f133 4 _ e128 (by decide) rfl
        have e139 := f133 5 _ e129 (by decide) rfl
        refine wl_ild (pc' := 81) rfl e139 rfl ?_
        refine wp_if_ne (pc' := 84) rfl rfl (fun c140 => ?_) (fun c140 => ?_)
        · replace k := it_f (c := x5 = (nI 0)) c140 k
          refine wp_p (pc' := 91) (lv' := lv131) (st' := [.int (nI 32)]) rfl rfl ?_
          refine wl_ild (pc' := 93) rfl e132 rfl ?_
          refine wp_imul (v := (nI 32) * ((((nI 32) * ((((nI 32) * (x0 - (nI 96))) + x1) - (nI 96))) + x4) - (nI 96))) (pc' := 94) rfl rfl rfl ?_
          refine wl_ild (pc' := 96) rfl e139 rfl ?_
          refine wp_iadd (v := ((nI 32) * ((((nI 32) * ((((nI 32) * (x0 - (nI 96))) + x1) - (nI 96))) + x4) - (nI 96))) + x5) (pc' := 97) rfl rfl rfl ?_
          refine wp_p (pc' := 99) (lv' := lv131) (st' := [.int (nI 96), .int (((nI 32) * ((((nI 32) * ((((nI 32) * (x0 - (nI 96))) + x1) - (nI 96))) + x4) - (nI 96))) + x5)]) rfl rfl ?_
          refine wp_isub (v := (((nI 32) * ((((nI 32) * ((((nI 32) * (x0 - (nI 96))) + x1) - (nI 96))) + x4) - (nI 96))) + x5) - (nI 96)) (pc' := 100) rfl rfl rfl ?_
          exact wl_ret rfl rfl ⟨_, rfl, k⟩
        · replace k := it_t (c := x5 = (nI 0)) c140 k
          refine wl_ild (pc' := 86) rfl e132 rfl ?_
          refine wp_p (pc' := 100) (lv' := lv131) (st' := [.int ((((nI 32) * ((((nI 32) * (x0 - (nI 96))) + x1) - (nI 96))) + x4) - (nI 96))]) rfl rfl ?_
          exact wl_ret rfl rfl ⟨_, rfl, k⟩
      · replace k := it_t (c := x4 = (nI 0)) c130 k
        refine wl_ild (pc' := 63) rfl e122 rfl ?_
        refine wp_p (pc' := 77) (lv' := lv121) (st' := [.int ((((nI 32) * (x0 - (nI 96))) + x1) - (nI 96))]) rfl rfl ?_
        refine wl_st1 (pc' := 79) (k0 := 6) (v := .int ((((nI 32) * (x0 - (nI 96))) + x1) - (nI 96))) (r := []) rfl rfl (fun lv141 e142 f143 => ?_)
        have e144 := f143 0 _ e124 (by decide) rfl
        have e145 := f143 1 _ e125 (by decide) rfl
        have e146 := f143 2 _ e126 (by decide) rfl
        have e147 := f143 3 _ e127 (by decide) rfl
        have e148 := f143 4 _ e128 (by decide) rfl
        have e149 := f143 5 _ e129 (by decide) rfl
        refine wl_ild (pc' := 81) rfl e149 rfl ?_
        refine wp_if_ne (pc' := 84) rfl rfl (fun c150 => ?_) (fun c150 => ?_)
        · replace k := it_f (c := x5 = (nI 0)) c150 k
          refine wp_p (pc' := 91) (lv' := lv141) (st' := [.int (nI 32)]) rfl rfl ?_
          refine wl_ild (pc' := 93) rfl e142 rfl ?_
          refine wp_imul (v := (nI 32) * ((((nI 32) * (x0 - (nI 96))) + x1) - (nI 96))) (pc' := 94) rfl rfl rfl ?_
          refine wl_ild (pc' := 96) rfl e149 rfl ?_
          refine wp_iadd (v := ((nI 32) * ((((nI 32) * (x0 - (nI 96))) + x1) - (nI 96))) + x5) (pc' := 97) rfl rfl rfl ?_
          refine wp_p (pc' := 99) (lv' := lv141) (st' := [.int (nI 96), .int (((nI 32) * ((((nI 32) * (x0 - (nI 96))) + x1) - (nI 96))) + x5)]) rfl rfl ?_
          refine wp_isub (v := (((nI 32) * ((((nI 32) * (x0 - (nI 96))) + x1) - (nI 96))) + x5) - (nI 96)) (pc' := 100) rfl rfl rfl ?_
          exact wl_ret rfl rfl ⟨_, rfl, k⟩
        · replace k := it_t (c := x5 = (nI 0)) c150 k
          refine wl_ild (pc' := 86) rfl e142 rfl ?_
          refine wp_p (pc' := 100) (lv' := lv141) (st' := [.int ((((nI 32) * (x0 - (nI 96))) + x1) - (nI 96))]) rfl rfl ?_
          exact wl_ret rfl rfl ⟨_, rfl, k⟩
/-! 140: QueryTablesModel.isSign -/
set_option maxRecDepth 20000 in
theorem sp_140 {d : Nat} {m : Mm} {K : Option Value → Mm → Prop} (x1 : Int32) (k : ok (m.A 44).length (m.F 42 5) ∧ (if ((m.A 44).getD (ix (m.F 42 5)) 0) = (nI 4) then ok (m.A 45).length (m.F 42 5) ∧ (if ((m.A 45).getD (ix (m.F 42 5)) 0) = x1 then K (some (.int (nI 1))) m else K (some (.int (nI 0))) m) else K (some (.int (nI 0))) m)) : WP d 140 [.ref 42, .int x1] m K := by
  have e_0 : sm_lk (lv_args 0 [.ref 42, .int x1]) 0 = some (.ref 42) := rfl
  have e_1 : sm_lk (lv_args 0 [.ref 42, .int x1]) 1 = some (.int x1) := rfl
  show sm_wp d 140 0 (lv_args 0 [.ref 42, .int x1]) [] (hp m) (WQ K)
  generalize lv_args 0 [.ref 42, .int x1] = lv0 at *
  refine wl_ald_n (pc' := 1) rfl e_0 rfl ?_
  refine wp_get (v := .ref 44) (pc' := 4) rfl (hq_42 _) rfl rfl ?_
  refine wl_ald_n (pc' := 5) rfl e_0 rfl ?_
  refine wp_get (v := .int (m.F 42 5)) (pc' := 8) rfl (hq_42 _) rfl rfl ?_
  obtain ⟨k1, k⟩ := k
  refine wl_iaload (g := m.A 44) (pc' := 9) rfl (hq_44 _) k1 rfl ?_
  refine wp_p (pc' := 10) (lv' := lv0) (st' := [.int (nI 4), .int ((m.A 44).getD (ix (m.F 42 5)) 0)]) rfl rfl ?_
  refine wp_ic_ne (pc' := 13) rfl rfl (fun c2 => ?_) (fun c2 => ?_)
  · replace k := it_f (c := ((m.A 44).getD (ix (m.F 42 5)) 0) = (nI 4)) c2 k
    refine wp_p (pc' := 31) (lv' := lv0) (st' := [.int (nI 0)]) rfl rfl ?_
    exact wl_ret rfl rfl ⟨_, rfl, k⟩
  · replace k := it_t (c := ((m.A 44).getD (ix (m.F 42 5)) 0) = (nI 4)) c2 k
    refine wl_ald_n (pc' := 14) rfl e_0 rfl ?_
    refine wp_get (v := .ref 45) (pc' := 17) rfl (hq_42 _) rfl rfl ?_
    refine wl_ald_n (pc' := 18) rfl e_0 rfl ?_
    refine wp_get (v := .int (m.F 42 5)) (pc' := 21) rfl (hq_42 _) rfl rfl ?_
    obtain ⟨k3, k⟩ := k
    refine wl_iaload (g := m.A 45) (pc' := 22) rfl (hq_45 _) k3 rfl ?_
    refine wl_ild_n (pc' := 23) rfl e_1 rfl ?_
    refine wp_ic_ne (pc' := 26) rfl rfl (fun c4 => ?_) (fun c4 => ?_)
    · replace k := it_f (c := ((m.A 45).getD (ix (m.F 42 5)) 0) = x1) c4 k
      refine wp_p (pc' := 31) (lv' := lv0) (st' := [.int (nI 0)]) rfl rfl ?_
      exact wl_ret rfl rfl ⟨_, rfl, k⟩
    · replace k := it_t (c := ((m.A 45).getD (ix (m.F 42 5)) 0) = x1) c4 k
      refine wp_p (pc' := 27) (lv' := lv0) (st' := [.int (nI 1)]) rfl rfl ?_
      refine wp_p (pc' := 31) (lv' := lv0) (st' := [.int (nI 1)]) rfl rfl ?_
      exact wl_ret rfl rfl ⟨_, rfl, k⟩
/-! 141: QueryTablesModel.takeSign -/
set_option maxRecDepth 20000 in
theorem sp_141 {d : Nat} {m : Mm} {K : Option Value → Mm → Prop} (x1 : Int32) (k : WP d 140 [.ref 42, .int x1] m (fun v m1 => ∃ w2, v = some (.int w2) ∧ (if w2 = (nI 0) then isB w2 ∧ K (some (.int w2)) (m1.uF 42 5 (m1.F 42 5)) else isB w2 ∧ K (some (.int w2)) (m1.uF 42 5 ((m1.F 42 5) + (nI 1)))))) : WP (d + 1) 141 [.ref 42, .int x1] m K := by
  have e_0 : sm_lk (lv_args 0 [.ref 42, .int x1]) 0 = some (.ref 42) := rfl
  have e_1 : sm_lk (lv_args 0 [.ref 42, .int x1]) 1 = some (.int x1) := rfl
  show sm_wp (d + 1) 141 0 (lv_args 0 [.ref 42, .int x1]) [] (hp m) (WQ K)
  generalize lv_args 0 [.ref 42, .int x1] = lv0 at *
  refine wl_ald_n (pc' := 1) rfl e_0 rfl ?_
  refine wl_ild_n (pc' := 2) rfl e_1 rfl ?_
  refine wl_cv (As := [.ref 42, .int x1]) (r := []) (pc' := 5) rfl rfl rfl k ?_
  rintro _ m1 ⟨w2, rfl, k⟩
  show sm_wp (d + 1) 141 5 lv0 [.int w2] (hp m1) (WQ K)
  refine wl_st1 (pc' := 6) (k0 := 2) (v := .int w2) (r := []) rfl rfl (fun lv3 e4 f5 => ?_)
  have e6 := f5 0 _ e_0 (by decide) rfl
  have e7 := f5 1 _ e_1 (by decide) rfl
  refine wl_ald_n (pc' := 7) rfl e6 rfl ?_
  refine wl_ild_n (pc' := 8) rfl e4 rfl ?_
  refine wp_if_eq (pc' := 11) rfl rfl (fun c8 => ?_) (fun c8 => ?_)
  · replace k := it_t (c := w2 = (nI 0)) c8 k
    refine wl_ald_n (pc' := 21) rfl e6 rfl ?_
    refine wp_get (v := .int (m1.F 42 5)) (pc' := 24) rfl (hq_42 _) rfl rfl ?_
    refine wl_put (pc' := 27) (h2 := hp (m1.uF 42 5 (m1.F 42 5))) rfl (hq_42 _) rfl rfl rfl (pf_42_5 _ _) ?_
    refine wl_ild_n (pc' := 28) rfl e4 rfl ?_
    obtain ⟨k9, k⟩ := k
    exact wl_ret rfl k9 ⟨_, rfl, k⟩
  · replace k := it_f (c := w2 = (nI 0)) c8 k
    refine wl_ald_n (pc' := 12) rfl e6 rfl ?_
    refine wp_get (v := .int (m1.F 42 5)) (pc' := 15) rfl (hq_42 _) rfl rfl ?_
    refine wp_p (pc' := 16) (lv' := lv3) (st' := [.int (nI 1), .int (m1.F 42 5), .ref 42]) rfl rfl ?_
    refine wp_iadd (v := (m1.F 42 5) + (nI 1)) (pc' := 17) rfl rfl rfl ?_
    refine wp_p (pc' := 24) (lv' := lv3) (st' := [.int ((m1.F 42 5) + (nI 1)), .ref 42]) rfl rfl ?_
    refine wl_put (pc' := 27) (h2 := hp (m1.uF 42 5 ((m1.F 42 5) + (nI 1)))) rfl (hq_42 _) rfl rfl rfl (pf_42_5 _ _) ?_
    refine wl_ild_n (pc' := 28) rfl e4 rfl ?_
    obtain ⟨k10, k⟩ := k
    exact wl_ret rfl k10 ⟨_, rfl, k⟩
/-! 142: QueryTablesModel.takeWord -/
set_option maxRecDepth 20000 in
theorem sp_142 {d : Nat} {m : Mm} {K : Option Value → Mm → Prop} (x1 : Int32) (k : ok (m.A 44).length (m.F 42 5) ∧ (if ((m.A 44).getD (ix (m.F 42 5)) 0) = (nI 1) then ok (m.A 45).length (m.F 42 5) ∧ (if ((m.A 45).getD (ix (m.F 42 5)) 0) = x1 then K (some (.int (nI 1))) (m.uF 42 5 ((m.F 42 5) + (nI 1))) else K (some (.int (nI 0))) (m.uF 42 5 (m.F 42 5))) else K (some (.int (nI 0))) (m.uF 42 5 (m.F 42 5)))) : WP d 142 [.ref 42, .int x1] m K := by
  have e_0 : sm_lk (lv_args 0 [.ref 42, .int x1]) 0 = some (.ref 42) := rfl
  have e_1 : sm_lk (lv_args 0 [.ref 42, .int x1]) 1 = some (.int x1) := rfl
  show sm_wp d 142 0 (lv_args 0 [.ref 42, .int x1]) [] (hp m) (WQ K)
  generalize lv_args 0 [.ref 42, .int x1] = lv0 at *
  refine wl_ald_n (pc' := 1) rfl e_0 rfl ?_
  refine wp_get (v := .ref 44) (pc' := 4) rfl (hq_42 _) rfl rfl ?_
  refine wl_ald_n (pc' := 5) rfl e_0 rfl ?_
  refine wp_get (v := .int (m.F 42 5)) (pc' := 8) rfl (hq_42 _) rfl rfl ?_
  obtain ⟨k1, k⟩ := k
  refine wl_iaload (g := m.A 44) (pc' := 9) rfl (hq_44 _) k1 rfl ?_
  refine wp_p (pc' := 10) (lv' := lv0) (st' := [.int (nI 1), .int ((m.A 44).getD (ix (m.F 42 5)) 0)]) rfl rfl ?_
  refine wp_ic_ne (pc' := 13) rfl rfl (fun c2 => ?_) (fun c2 => ?_)
  · replace k := it_f (c := ((m.A 44).getD (ix (m.F 42 5)) 0) = (nI 1)) c2 k
    refine wp_p (pc' := 31) (lv' := lv0) (st' := [.int (nI 0)]) rfl rfl ?_
    refine wl_st1 (pc' := 32) (k0 := 2) (v := .int (nI 0)) (r := []) rfl rfl (fun lv3 e4 f5 => ?_)
    have e6 := f5 0 _ e_0 (by decide) rfl
    have e7 := f5 1 _ e_1 (by decide) rfl
    refine wl_ald_n (pc' := 33) rfl e6 rfl ?_
    refine wl_ild_n (pc' := 34) rfl e4 rfl ?_
    refine wp_p (pc' := 46) (lv' := lv3) (st' := [.ref 42]) rfl rfl ?_
    refine wl_ald_n (pc' := 47) rfl e6 rfl ?_
    refine wp_get (v := .int (m.F 42 5)) (pc' := 50) rfl (hq_42 _) rfl rfl ?_
    refine wl_put (pc' := 53) (h2 := hp (m.uF 42 5 (m.F 42 5))) rfl (hq_42 _) rfl rfl rfl (pf_42_5 _ _) ?_
    refine wl_ild_n (pc' := 54) rfl e4 rfl ?_
    exact wl_ret rfl rfl ⟨_, rfl, k⟩
  · replace k := it_t (c := ((m.A 44).getD (ix (m.F 42 5)) 0) = (nI 1)) c2 k
    refine wl_ald_n (pc' := 14) rfl e_0 rfl ?_
    refine wp_get (v := .ref 45) (pc' := 17) rfl (hq_42 _) rfl rfl ?_
    refine wl_ald_n (pc' := 18) rfl e_0 rfl ?_
    refine wp_get (v := .int (m.F 42 5)) (pc' := 21) rfl (hq_42 _) rfl rfl ?_
    obtain ⟨k8, k⟩ := k
    refine wl_iaload (g := m.A 45) (pc' := 22) rfl (hq_45 _) k8 rfl ?_
    refine wl_ild_n (pc' := 23) rfl e_1 rfl ?_
    refine wp_ic_ne (pc' := 26) rfl rfl (fun c9 => ?_) (fun c9 => ?_)
    · replace k := it_f (c := ((m.A 45).getD (ix (m.F 42 5)) 0) = x1) c9 k
      refine wp_p (pc' := 31) (lv' := lv0) (st' := [.int (nI 0)]) rfl rfl ?_
      refine wl_st1 (pc' := 32) (k0 := 2) (v := .int (nI 0)) (r := []) rfl rfl (fun lv10 e11 f12 => ?_)
      have e13 := f12 0 _ e_0 (by decide) rfl
      have e14 := f12 1 _ e_1 (by decide) rfl
      refine wl_ald_n (pc' := 33) rfl e13 rfl ?_
      refine wl_ild_n (pc' := 34) rfl e11 rfl ?_
      refine wp_p (pc' := 46) (lv' := lv10) (st' := [.ref 42]) rfl rfl ?_
      refine wl_ald_n (pc' := 47) rfl e13 rfl ?_
      refine wp_get (v := .int (m.F 42 5)) (pc' := 50) rfl (hq_42 _) rfl rfl ?_
      refine wl_put (pc' := 53) (h2 := hp (m.uF 42 5 (m.F 42 5))) rfl (hq_42 _) rfl rfl rfl (pf_42_5 _ _) ?_
      refine wl_ild_n (pc' := 54) rfl e11 rfl ?_
      exact wl_ret rfl rfl ⟨_, rfl, k⟩
    · replace k := it_t (c := ((m.A 45).getD (ix (m.F 42 5)) 0) = x1) c9 k
      refine wp_p (pc' := 27) (lv' := lv0) (st' := [.int (nI 1)]) rfl rfl ?_
      refine wp_p (pc' := 31) (lv' := lv0) (st' := [.int (nI 1)]) rfl rfl ?_
      refine wl_st1 (pc' := 32) (k0 := 2) (v := .int (nI 1)) (r := []) rfl rfl (fun lv15 e16 f17 => ?_)
      have e18 := f17 0 _ e_0 (by decide) rfl
      have e19 := f17 1 _ e_1 (by decide) rfl
      refine wl_ald_n (pc' := 33) rfl e18 rfl ?_
      refine wl_ild_n (pc' := 34) rfl e16 rfl ?_
      refine wp_p (pc' := 37) (lv' := lv15) (st' := [.ref 42]) rfl rfl ?_
      refine wl_ald_n (pc' := 38) rfl e18 rfl ?_
      refine wp_get (v := .int (m.F 42 5)) (pc' := 41) rfl (hq_42 _) rfl rfl ?_
      refine wp_p (pc' := 42) (lv' := lv15) (st' := [.int (nI 1), .int (m.F 42 5), .ref 42]) rfl rfl ?_
      refine wp_iadd (v := (m.F 42 5) + (nI 1)) (pc' := 43) rfl rfl rfl ?_
      refine wp_p (pc' := 50) (lv' := lv15) (st' := [.int ((m.F 42 5) + (nI 1)), .ref 42]) rfl rfl ?_
      refine wl_put (pc' := 53) (h2 := hp (m.uF 42 5 ((m.F 42 5) + (nI 1)))) rfl (hq_42 _) rfl rfl rfl (pf_42_5 _ _) ?_
      refine wl_ild_n (pc' := 54) rfl e16 rfl ?_
      exact wl_ret rfl rfl ⟨_, rfl, k⟩
/-! 143: QueryTablesModel.take -/
set_option maxRecDepth 20000 in
theorem sp_143 {d : Nat} {m : Mm} {K : Option Value → Mm → Prop} (x1 : Int32) (k : ok (m.A 44).length (m.F 42 5) ∧ (if ((m.A 44).getD (ix (m.F 42 5)) 0) = x1 then (if (m.F 42 6) = (nI 0) then ok (m.A 45).length (m.F 42 5) ∧ K (some (.int ((m.A 45).getD (ix (m.F 42 5)) 0))) ((m.uF 42 6 (nI 0)).uF 42 5 ((m.F 42 5) + (nI 1))) else ok (m.A 45).length (m.F 42 5) ∧ K (some (.int ((m.A 45).getD (ix (m.F 42 5)) 0))) ((m.uF 42 6 (nI 1)).uF 42 5 ((m.F 42 5) + (nI 1)))) else (if (m.F 42 6) = (nI 0) then K (some (.int (nI 0))) ((m.uF 42 6 (nI 1)).uF 42 5 (m.F 42 5)) else K (some (.int (nI 0))) ((m.uF 42 6 (nI 1)).uF 42 5 (m.F 42 5))))) : WP d 143 [.ref 42, .int x1] m K := by
  have e_0 : sm_lk (lv_args 0 [.ref 42, .int x1]) 0 = some (.ref 42) := rfl
  have e_1 : sm_lk (lv_args 0 [.ref 42, .int x1]) 1 = some (.int x1) := rfl
  show sm_wp d 143 0 (lv_args 0 [.ref 42, .int x1]) [] (hp m) (WQ K)
  generalize lv_args 0 [.ref 42, .int x1] = lv0 at *
  refine wl_ald_n (pc' := 1) rfl e_0 rfl ?_
  refine wp_get (v := .ref 44) (pc' := 4) rfl (hq_42 _) rfl rfl ?_
  refine wl_ald_n (pc' := 5) rfl e_0 rfl ?_
  refine wp_get (v := .int (m.F 42 5)) (pc' := 8) rfl (hq_42 _) rfl rfl ?_
  obtain ⟨k1, k⟩ := k
  refine wl_iaload (g := m.A 44) (pc' := 9) rfl (hq_44 _) k1 rfl ?_
  refine wl_ild_n (pc' := 10) rfl e_1 rfl ?_
  refine wp_ic_ne (pc' := 13) rfl rfl (fun c2 => ?_) (fun c2 => ?_)
  · replace k := it_f (c := ((m.A 44).getD (ix (m.F 42 5)) 0) = x1) c2 k
    refine wp_p (pc' := 18) (lv' := lv0) (st' := [.int (nI 0)]) rfl rfl ?_
    refine wl_st1 (pc' := 19) (k0 := 2) (v := .int (nI 0)) (r := []) rfl rfl (fun lv3 e4 f5 => ?_)
    have e6 := f5 0 _ e_0 (by decide) rfl
    have e7 := f5 1 _ e_1 (by decide) rfl
    refine wl_ald_n (pc' := 20) rfl e6 rfl ?_
    refine wl_ald_n (pc' := 21) rfl e6 rfl ?_
    refine wp_get (v := .int (m.F 42 6)) (pc' := 24) rfl (hq_42 _) rfl rfl ?_
    refine wp_if_ne (pc' := 27) rfl rfl (fun c8 => ?_) (fun c8 => ?_)
    · replace k := it_f (c := (m.F 42 6) = (nI 0)) c8 k
      refine wp_p (pc' := 32) (lv' := lv3) (st' := [.int (nI 1), .ref 42]) rfl rfl ?_
      refine wp_p (pc' := 36) (lv' := lv3) (st' := [.int (nI 1), .ref 42]) rfl rfl ?_
      refine wl_put (pc' := 39) (h2 := hp (m.uF 42 6 (nI 1))) rfl (hq_42 _) rfl rfl rfl (pf_42_6 _ _) ?_
      refine wl_ild_n (pc' := 40) rfl e4 rfl ?_
      refine wp_p (pc' := 55) (lv' := lv3) (st' := []) rfl rfl ?_
      refine wp_p (pc' := 56) (lv' := lv3) (st' := [.int (nI 0)]) rfl rfl ?_
      refine wl_st1 (pc' := 57) (k0 := 3) (v := .int (nI 0)) (r := []) rfl rfl (fun lv9 e10 f11 => ?_)
      have e12 := f11 0 _ e6 (by decide) rfl
      have e13 := f11 1 _ e7 (by decide) rfl
      have e14 := f11 2 _ e4 (by decide) rfl
      refine wl_ald_n (pc' := 58) rfl e12 rfl ?_
      refine wl_ild_n (pc' := 59) rfl e14 rfl ?_
      refine wp_p (pc' := 71) (lv' := lv9) (st' := [.ref 42]) rfl rfl ?_
      refine wl_ald_n (pc' := 72) rfl e12 rfl ?_
      refine wp_get (v := .int (m.F 42 5)) (pc' := 75) rfl (hq_42 _) rfl rfl ?_
      refine wl_put (pc' := 78) (h2 := hp ((m.uF 42 6 (nI 1)).uF 42 5 (m.F 42 5))) rfl (hq_42 _) rfl rfl rfl (pf_42_5 _ _) ?_
      refine wl_ild_n (pc' := 79) rfl e10 rfl ?_
      exact wl_ret rfl rfl ⟨_, rfl, k⟩
    · replace k := it_t (c := (m.F 42 6) = (nI 0)) c8 k
      refine wl_ild_n (pc' := 28) rfl e4 rfl ?_
      refine wp_p (pc' := 31) (lv' := lv3) (st' := [.ref 42]) rfl rfl ?_
      refine wp_p (pc' := 32) (lv' := lv3) (st' := [.int (nI 1), .ref 42]) rfl rfl ?_
      refine wp_p (pc' := 36) (lv' := lv3) (st' := [.int (nI 1), .ref 42]) rfl rfl ?_
      refine wl_put (pc' := 39) (h2 := hp (m.uF 42 6 (nI 1))) rfl (hq_42 _) rfl rfl rfl (pf_42_6 _ _) ?_
      refine wl_ild_n (pc' := 40) rfl e4 rfl ?_
      refine wp_p (pc' := 55) (lv' := lv3) (st' := []) rfl rfl ?_
      refine wp_p (pc' := 56) (lv' := lv3) (st' := [.int (nI 0)]) rfl rfl ?_
      refine wl_st1 (pc' := 57) (k0 := 3) (v := .int (nI 0)) (r := []) rfl rfl (fun lv15 e16 f17 => ?_)
      have e18 := f17 0 _ e6 (by decide) rfl
      have e19 := f17 1 _ e7 (by decide) rfl
      have e20 := f17 2 _ e4 (by decide) rfl
      refine wl_ald_n (pc' := 58) rfl e18 rfl ?_
      refine wl_ild_n (pc' := 59) rfl e20 rfl ?_
      refine wp_p (pc' := 71) (lv' := lv15) (st' := [.ref 42]) rfl rfl ?_
      refine wl_ald_n (pc' := 72) rfl e18 rfl ?_
      refine wp_get (v := .int (m.F 42 5)) (pc' := 75) rfl (hq_42 _) rfl rfl ?_
      refine wl_put (pc' := 78) (h2 := hp ((m.uF 42 6 (nI 1)).uF 42 5 (m.F 42 5))) rfl (hq_42 _) rfl rfl rfl (pf_42_5 _ _) ?_
      refine wl_ild_n (pc' := 79) rfl e16 rfl ?_
      exact wl_ret rfl rfl ⟨_, rfl, k⟩
  · replace k := it_t (c := ((m.A 44).getD (ix (m.F 42 5)) 0) = x1) c2 k
    refine wp_p (pc' := 14) (lv' := lv0) (st' := [.int (nI 1)]) rfl rfl ?_
    refine wp_p (pc' := 18) (lv' := lv0) (st' := [.int (nI 1)]) rfl rfl ?_
    refine wl_st1 (pc' := 19) (k0 := 2) (v := .int (nI 1)) (r := []) rfl rfl (fun lv21 e22 f23 => ?_)
    have e24 := f23 0 _ e_0 (by decide) rfl
    have e25 := f23 1 _ e_1 (by decide) rfl
    refine wl_ald_n (pc' := 20) rfl e24 rfl ?_
    refine wl_ald_n (pc' := 21) rfl e24 rfl ?_
    refine wp_get (v := .int (m.F 42 6)) (pc' := 24) rfl (hq_42 _) rfl rfl ?_
    refine wp_if_ne (pc' := 27) rfl rfl (fun c26 => ?_) (fun c26 => ?_)
    · replace k := it_f (c := (m.F 42 6) = (nI 0)) c26 k
      refine wp_p (pc' := 32) (lv' := lv21) (st' := [.int (nI 1), .ref 42]) rfl rfl ?_
      refine wp_p (pc' := 36) (lv' := lv21) (st' := [.int (nI 1), .ref 42]) rfl rfl ?_
      refine wl_put (pc' := 39) (h2 := hp (m.uF 42 6 (nI 1))) rfl (hq_42 _) rfl rfl rfl (pf_42_6 _ _) ?_
      refine wl_ild_n (pc' := 40) rfl e22 rfl ?_
      refine wp_p (pc' := 43) (lv' := lv21) (st' := []) rfl rfl ?_
      refine wl_ald_n (pc' := 44) rfl e24 rfl ?_
      refine wp_get (v := .ref 45) (pc' := 47) rfl (hq_42 _) rfl rfl ?_
      refine wl_ald_n (pc' := 48) rfl e24 rfl ?_
      refine wp_get (v := .int (m.F 42 5)) (pc' := 51) rfl (hq_42 _) rfl rfl ?_
      obtain ⟨k27, k⟩ := k
      refine wl_iaload (g := m.A 45) (pc' := 52) rfl (hq_45 _) k27 rfl ?_
      refine wp_p (pc' := 56) (lv' := lv21) (st' := [.int ((m.A 45).getD (ix (m.F 42 5)) 0)]) rfl rfl ?_
      refine wl_st1 (pc' := 57) (k0 := 3) (v := .int ((m.A 45).getD (ix (m.F 42 5)) 0)) (r := []) rfl rfl (fun lv28 e29 f30 => ?_)
      have e31 := f30 0 _ e24 (by decide) rfl
      have e32 := f30 1 _ e25 (by decide) rfl
      have e33 := f30 2 _ e22 (by decide) rfl
      refine wl_ald_n (pc' := 58) rfl e31 rfl ?_
      refine wl_ild_n (pc' := 59) rfl e33 rfl ?_
      refine wp_p (pc' := 62) (lv' := lv28) (st' := [.ref 42]) rfl rfl ?_
      refine wl_ald_n (pc' := 63) rfl e31 rfl ?_
      refine wp_get (v := .int (m.F 42 5)) (pc' := 66) rfl (hq_42 _) rfl rfl ?_
      refine wp_p (pc' := 67) (lv' := lv28) (st' := [.int (nI 1), .int (m.F 42 5), .ref 42]) rfl rfl ?_
      refine wp_iadd (v := (m.F 42 5) + (nI 1)) (pc' := 68) rfl rfl rfl ?_
      refine wp_p (pc' := 75) (lv' := lv28) (st' := [.int ((m.F 42 5) + (nI 1)), .ref 42]) rfl rfl ?_
      refine wl_put (pc' := 78) (h2 := hp ((m.uF 42 6 (nI 1)).uF 42 5 ((m.F 42 5) + (nI 1)))) rfl (hq_42 _) rfl rfl rfl (pf_42_5 _ _) ?_
      refine wl_ild_n (pc' := 79) rfl e29 rfl ?_
      exact wl_ret rfl rfl ⟨_, rfl, k⟩
    · replace k := it_t (c := (m.F 42 6) = (nI 0)) c26 k
      refine wl_ild_n (pc' := 28) rfl e22 rfl ?_
      refine wp_p (pc' := 35) (lv' := lv21) (st' := [.ref 42]) rfl rfl ?_
      refine wp_p (pc' := 36) (lv' := lv21) (st' := [.int (nI 0), .ref 42]) rfl rfl ?_
      refine wl_put (pc' := 39) (h2 := hp (m.uF 42 6 (nI 0))) rfl (hq_42 _) rfl rfl rfl (pf_42_6 _ _) ?_
      refine wl_ild_n (pc' := 40) rfl e22 rfl ?_
      refine wp_p (pc' := 43) (lv' := lv21) (st' := []) rfl rfl ?_
      refine wl_ald_n (pc' := 44) rfl e24 rfl ?_
      refine wp_get (v := .ref 45) (pc' := 47) rfl (hq_42 _) rfl rfl ?_
      refine wl_ald_n (pc' := 48) rfl e24 rfl ?_
      refine wp_get (v := .int (m.F 42 5)) (pc' := 51) rfl (hq_42 _) rfl rfl ?_
      obtain ⟨k34, k⟩ := k
      refine wl_iaload (g := m.A 45) (pc' := 52) rfl (hq_45 _) k34 rfl ?_
      refine wp_p (pc' := 56) (lv' := lv21) (st' := [.int ((m.A 45).getD (ix (m.F 42 5)) 0)]) rfl rfl ?_
      refine wl_st1 (pc' := 57) (k0 := 3) (v := .int ((m.A 45).getD (ix (m.F 42 5)) 0)) (r := []) rfl rfl (fun lv35 e36 f37 => ?_)
      have e38 := f37 0 _ e24 (by decide) rfl
      have e39 := f37 1 _ e25 (by decide) rfl
      have e40 := f37 2 _ e22 (by decide) rfl
      refine wl_ald_n (pc' := 58) rfl e38 rfl ?_
      refine wl_ild_n (pc' := 59) rfl e40 rfl ?_
      refine wp_p (pc' := 62) (lv' := lv35) (st' := [.ref 42]) rfl rfl ?_
      refine wl_ald_n (pc' := 63) rfl e38 rfl ?_
      refine wp_get (v := .int (m.F 42 5)) (pc' := 66) rfl (hq_42 _) rfl rfl ?_
      refine wp_p (pc' := 67) (lv' := lv35) (st' := [.int (nI 1), .int (m.F 42 5), .ref 42]) rfl rfl ?_
      refine wp_iadd (v := (m.F 42 5) + (nI 1)) (pc' := 68) rfl rfl rfl ?_
      refine wp_p (pc' := 75) (lv' := lv35) (st' := [.int ((m.F 42 5) + (nI 1)), .ref 42]) rfl rfl ?_
      refine wl_put (pc' := 78) (h2 := hp ((m.uF 42 6 (nI 0)).uF 42 5 ((m.F 42 5) + (nI 1)))) rfl (hq_42 _) rfl rfl rfl (pf_42_5 _ _) ?_
      refine wl_ild_n (pc' := 79) rfl e36 rfl ?_
      exact wl_ret rfl rfl ⟨_, rfl, k⟩
/-! 144: QueryTablesModel.takeColumn -/
set_option maxRecDepth 20000 in
theorem sp_144 {d : Nat} {m : Mm} {K : Option Value → Mm → Prop} (k : WP d 143 [.ref 42, .int (nI 1)] m (fun v m1 => ∃ w2, v = some (.int w2) ∧ (if (m1.F 42 6) = (nI 0) then (if w2 < (nI 1) then K (some (.int (w2 - (nI 1)))) (m1.uF 42 6 (nI 1)) else (if w2 ≤ (nI 4) then K (some (.int (w2 - (nI 1)))) (m1.uF 42 6 (nI 0)) else K (some (.int (w2 - (nI 1)))) (m1.uF 42 6 (nI 1)))) else K (some (.int (w2 - (nI 1)))) (m1.uF 42 6 (nI 1))))) : WP (d + 1) 144 [.ref 42] m K := by
  have e_0 : sm_lk (lv_args 0 [.ref 42]) 0 = some (.ref 42) := rfl
  show sm_wp (d + 1) 144 0 (lv_args 0 [.ref 42]) [] (hp m) (WQ K)
  generalize lv_args 0 [.ref 42] = lv0 at *
  refine wl_ald_n (pc' := 1) rfl e_0 rfl ?_
  refine wp_p (pc' := 2) (lv' := lv0) (st' := [.int (nI 1), .ref 42]) rfl rfl ?_
  refine wl_cv (As := [.ref 42, .int (nI 1)]) (r := []) (pc' := 5) rfl rfl rfl k ?_
  rintro _ m1 ⟨w2, rfl, k⟩
  show sm_wp (d + 1) 144 5 lv0 [.int w2] (hp m1) (WQ K)
  refine wl_st1 (pc' := 6) (k0 := 1) (v := .int w2) (r := []) rfl rfl (fun lv3 e4 f5 => ?_)
  have e6 := f5 0 _ e_0 (by decide) rfl
  refine wl_ald_n (pc' := 7) rfl e6 rfl ?_
  refine wl_ald_n (pc' := 8) rfl e6 rfl ?_
  refine wp_get (v := .int (m1.F 42 6)) (pc' := 11) rfl (hq_42 _) rfl rfl ?_
  refine wp_if_ne (pc' := 14) rfl rfl (fun c7 => ?_) (fun c7 => ?_)
  · replace k := it_f (c := (m1.F 42 6) = (nI 0)) c7 k
    refine wp_p (pc' := 25) (lv' := lv3) (st' := [.int (nI 1), .ref 42]) rfl rfl ?_
    refine wp_p (pc' := 29) (lv' := lv3) (st' := [.int (nI 1), .ref 42]) rfl rfl ?_
    refine wl_put (pc' := 32) (h2 := hp (m1.uF 42 6 (nI 1))) rfl (hq_42 _) rfl rfl rfl (pf_42_6 _ _) ?_
    refine wl_ild_n (pc' := 33) rfl e4 rfl ?_
    refine wp_p (pc' := 34) (lv' := lv3) (st' := [.int (nI 1), .int w2]) rfl rfl ?_
    refine wp_isub (v := w2 - (nI 1)) (pc' := 35) rfl rfl rfl ?_
    exact wl_ret rfl rfl ⟨_, rfl, k⟩
  · replace k := it_t (c := (m1.F 42 6) = (nI 0)) c7 k
    refine wl_ild_n (pc' := 15) rfl e4 rfl ?_
    refine wp_p (pc' := 16) (lv' := lv3) (st' := [.int (nI 1), .int w2, .ref 42]) rfl rfl ?_
    refine wp_ic_lt (pc' := 19) rfl rfl (fun c8 => ?_) (fun c8 => ?_)
    · replace k := it_t (c := w2 < (nI 1)) c8 k
      refine wp_p (pc' := 25) (lv' := lv3) (st' := [.int (nI 1), .ref 42]) rfl rfl ?_
      refine wp_p (pc' := 29) (lv' := lv3) (st' := [.int (nI 1), .ref 42]) rfl rfl ?_
      refine wl_put (pc' := 32) (h2 := hp (m1.uF 42 6 (nI 1))) rfl (hq_42 _) rfl rfl rfl (pf_42_6 _ _) ?_
      refine wl_ild_n (pc' := 33) rfl e4 rfl ?_
      refine wp_p (pc' := 34) (lv' := lv3) (st' := [.int (nI 1), .int w2]) rfl rfl ?_
      refine wp_isub (v := w2 - (nI 1)) (pc' := 35) rfl rfl rfl ?_
      exact wl_ret rfl rfl ⟨_, rfl, k⟩
    · replace k := it_f (c := w2 < (nI 1)) c8 k
      refine wl_ild_n (pc' := 20) rfl e4 rfl ?_
      refine wp_p (pc' := 21) (lv' := lv3) (st' := [.int (nI 4), .int w2, .ref 42]) rfl rfl ?_
      refine wp_ic_le (pc' := 24) rfl rfl (fun c9 => ?_) (fun c9 => ?_)
      · replace k := it_t (c := w2 ≤ (nI 4)) c9 k
        refine wp_p (pc' := 29) (lv' := lv3) (st' := [.int (nI 0), .ref 42]) rfl rfl ?_
        refine wl_put (pc' := 32) (h2 := hp (m1.uF 42 6 (nI 0))) rfl (hq_42 _) rfl rfl rfl (pf_42_6 _ _) ?_
        refine wl_ild_n (pc' := 33) rfl e4 rfl ?_
        refine wp_p (pc' := 34) (lv' := lv3) (st' := [.int (nI 1), .int w2]) rfl rfl ?_
        refine wp_isub (v := w2 - (nI 1)) (pc' := 35) rfl rfl rfl ?_
        exact wl_ret rfl rfl ⟨_, rfl, k⟩
      · replace k := it_f (c := w2 ≤ (nI 4)) c9 k
        refine wp_p (pc' := 25) (lv' := lv3) (st' := [.int (nI 1), .ref 42]) rfl rfl ?_
        refine wp_p (pc' := 29) (lv' := lv3) (st' := [.int (nI 1), .ref 42]) rfl rfl ?_
        refine wl_put (pc' := 32) (h2 := hp (m1.uF 42 6 (nI 1))) rfl (hq_42 _) rfl rfl rfl (pf_42_6 _ _) ?_
        refine wl_ild_n (pc' := 33) rfl e4 rfl ?_
        refine wp_p (pc' := 34) (lv' := lv3) (st' := [.int (nI 1), .int w2]) rfl rfl ?_
        refine wp_isub (v := w2 - (nI 1)) (pc' := 35) rfl rfl rfl ?_
        exact wl_ret rfl rfl ⟨_, rfl, k⟩
/-! 145: QueryTablesModel.emit -/
set_option maxRecDepth 20000 in
theorem sp_145 {d : Nat} {m : Mm} {K : Option Value → Mm → Prop} (x1 : Int32) (x2 : Int32) (k : ok (m.A 46).length (m.F 42 7) ∧ ok (m.A 47).length (m.F 42 7) ∧ K none (((m.uA 46 ((m.A 46).set (ix (m.F 42 7)) x1)).uA 47 ((m.A 47).set (ix (m.F 42 7)) x2)).uF 42 7 ((m.F 42 7) + (nI 1)))) : WP d 145 [.ref 42, .int x1, .int x2] m K := by
  have e_0 : sm_lk (lv_args 0 [.ref 42, .int x1, .int x2]) 0 = some (.ref 42) := rfl
  have e_1 : sm_lk (lv_args 0 [.ref 42, .int x1, .int x2]) 1 = some (.int x1) := rfl
  have e_2 : sm_lk (lv_args 0 [.ref 42, .int x1, .int x2]) 2 = some (.int x2) := rfl
  show sm_wp d 145 0 (lv_args 0 [.ref 42, .int x1, .int x2]) [] (hp m) (WQ K)
  generalize lv_args 0 [.ref 42, .int x1, .int x2] = lv0 at *
  refine wl_ald_n (pc' := 1) rfl e_0 rfl ?_
  refine wp_get (v := .ref 46) (pc' := 4) rfl (hq_42 _) rfl rfl ?_
  refine wl_ald_n (pc' := 5) rfl e_0 rfl ?_
  refine wp_get (v := .int (m.F 42 7)) (pc' := 8) rfl (hq_42 _) rfl rfl ?_
  refine wl_ild_n (pc' := 9) rfl e_1 rfl ?_
  obtain ⟨k1, k⟩ := k
  refine wl_iastore (g := m.A 46) (pc' := 10) (h2 := hp (m.uA 46 ((m.A 46).set (ix (m.F 42 7)) x1))) rfl (hq_46 _) k1 rfl (pa_46 _ _) ?_
  refine wl_ald_n (pc' := 11) rfl e_0 rfl ?_
  refine wp_get (v := .ref 47) (pc' := 14) rfl (hq_42 _) rfl rfl ?_
  refine wl_ald_n (pc' := 15) rfl e_0 rfl ?_
  refine wp_get (v := .int (m.F 42 7)) (pc' := 18) rfl (hq_42 _) rfl rfl ?_
  refine wl_ild_n (pc' := 19) rfl e_2 rfl ?_
  obtain ⟨k2, k⟩ := k
  refine wl_iastore (g := m.A 47) (pc' := 20) (h2 := hp ((m.uA 46 ((m.A 46).set (ix (m.F 42 7)) x1)).uA 47 ((m.A 47).set (ix (m.F 42 7)) x2))) rfl (hq_47 _) k2 rfl (pa_47 _ _) ?_
  refine wl_ald_n (pc' := 21) rfl e_0 rfl ?_
  refine wp_p (pc' := 22) (lv' := lv0) (st' := [.ref 42, .ref 42]) rfl rfl ?_
  refine wp_get (v := .int (m.F 42 7)) (pc' := 25) rfl (hq_42 _) rfl rfl ?_
  refine wp_p (pc' := 26) (lv' := lv0) (st' := [.int (nI 1), .int (m.F 42 7), .ref 42]) rfl rfl ?_
  refine wp_iadd (v := (m.F 42 7) + (nI 1)) (pc' := 27) rfl rfl rfl ?_
  refine wl_put (pc' := 30) (h2 := hp (((m.uA 46 ((m.A 46).set (ix (m.F 42 7)) x1)).uA 47 ((m.A 47).set (ix (m.F 42 7)) x2)).uF 42 7 ((m.F 42 7) + (nI 1)))) rfl (hq_42 _) rfl rfl rfl (pf_42_7 _ _) ?_
  exact wp_r rfl rfl ⟨_, rfl, k⟩
