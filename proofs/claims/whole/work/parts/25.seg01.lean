/-! SEGMENTS of the methods 29 to 54 (by program, wip/whole/gen25.py): what must hold of a way from one place to the next -/
/-! 29: QueryTables$Table.get -/
set_option maxRecDepth 20000 in
theorem sp_29 {d : Nat} {m : Mm} {K : Option Value → Mm → Prop} (r0 : Nat) (x1 : Int32) (x2 : Int32) (h_r0 : tbl r0) (k : (if x1 < (nI 0) then K (some (.long 2199023255552)) m else (if (m.F r0 3) ≤ x1 then K (some (.long 2199023255552)) m else (if x2 < (nI 0) then K (some (.long 2199023255552)) m else (if (m.F r0 2) ≤ x2 then K (some (.long 2199023255552)) m else ok (m.B (r0 + 1)).length ((x1 * (nI 4)) + x2) ∧ K (some (.long ((m.B (r0 + 1)).getD (ix ((x1 * (nI 4)) + x2)) 0))) m))))) : WP d 29 [.ref r0, .int x1, .int x2] m K := by
  have e_0 : sm_lk (lv_args 0 [.ref r0, .int x1, .int x2]) 0 = some (.ref r0) := rfl
  have e_1 : sm_lk (lv_args 0 [.ref r0, .int x1, .int x2]) 1 = some (.int x1) := rfl
  have e_2 : sm_lk (lv_args 0 [.ref r0, .int x1, .int x2]) 2 = some (.int x2) := rfl
  show sm_wp d 29 0 (lv_args 0 [.ref r0, .int x1, .int x2]) [] (hp m) (WQ K)
  generalize lv_args 0 [.ref r0, .int x1, .int x2] = lv0 at *
  refine wl_ild_n (pc' := 1) rfl e_1 rfl ?_
  refine wp_if_lt (pc' := 4) rfl rfl (fun c1 => ?_) (fun c1 => ?_)
  · replace k := it_t (c := x1 < (nI 0)) c1 k
    refine wp_p (pc' := 29) (lv' := lv0) (st' := [.int (nI 0)]) rfl rfl ?_
    refine wl_st1 (pc' := 30) (k0 := 3) (v := .int (nI 0)) (r := []) rfl rfl (fun lv2 e3 f4 => ?_)
    have e5 := f4 0 _ e_0 (by decide) rfl
    have e6 := f4 1 _ e_1 (by decide) rfl
    have e7 := f4 2 _ e_2 (by decide) rfl
    refine wl_ild_n (pc' := 31) rfl e3 rfl ?_
    refine wp_p (pc' := 47) (lv' := lv2) (st' := []) rfl rfl ?_
    refine wp_p (pc' := 50) (lv' := lv2) (st' := [.long 2199023255552]) rfl rfl ?_
    exact wp_r rfl rfl ⟨_, rfl, k⟩
  · replace k := it_f (c := x1 < (nI 0)) c1 k
    refine wl_ild_n (pc' := 5) rfl e_1 rfl ?_
    refine wl_ald_n (pc' := 6) rfl e_0 rfl ?_
    refine wp_get (v := .int (m.F r0 3)) (pc' := 9) rfl (hq_tbl h_r0 _) rfl rfl ?_
    refine wp_ic_ge (pc' := 12) rfl rfl (fun c8 => ?_) (fun c8 => ?_)
    · replace k := it_t (c := (m.F r0 3) ≤ x1) c8 k
      refine wp_p (pc' := 29) (lv' := lv0) (st' := [.int (nI 0)]) rfl rfl ?_
      refine wl_st1 (pc' := 30) (k0 := 3) (v := .int (nI 0)) (r := []) rfl rfl (fun lv9 e10 f11 => ?_)
      have e12 := f11 0 _ e_0 (by decide) rfl
      have e13 := f11 1 _ e_1 (by decide) rfl
      have e14 := f11 2 _ e_2 (by decide) rfl
      refine wl_ild_n (pc' := 31) rfl e10 rfl ?_
      refine wp_p (pc' := 47) (lv' := lv9) (st' := []) rfl rfl ?_
      refine wp_p (pc' := 50) (lv' := lv9) (st' := [.long 2199023255552]) rfl rfl ?_
      exact wp_r rfl rfl ⟨_, rfl, k⟩
    · replace k := it_f (c := (m.F r0 3) ≤ x1) c8 k
      refine wl_ild_n (pc' := 13) rfl e_2 rfl ?_
      refine wp_if_lt (pc' := 16) rfl rfl (fun c15 => ?_) (fun c15 => ?_)
      · replace k := it_t (c := x2 < (nI 0)) c15 k
        refine wp_p (pc' := 29) (lv' := lv0) (st' := [.int (nI 0)]) rfl rfl ?_
        refine wl_st1 (pc' := 30) (k0 := 3) (v := .int (nI 0)) (r := []) rfl rfl (fun lv16 e17 f18 => ?_)
        have e19 := f18 0 _ e_0 (by decide) rfl
        have e20 := f18 1 _ e_1 (by decide) rfl
        have e21 := f18 2 _ e_2 (by decide) rfl
        refine wl_ild_n (pc' := 31) rfl e17 rfl ?_
        refine wp_p (pc' := 47) (lv' := lv16) (st' := []) rfl rfl ?_
        refine wp_p (pc' := 50) (lv' := lv16) (st' := [.long 2199023255552]) rfl rfl ?_
        exact wp_r rfl rfl ⟨_, rfl, k⟩
      · replace k := it_f (c := x2 < (nI 0)) c15 k
        refine wl_ild_n (pc' := 17) rfl e_2 rfl ?_
        refine wl_ald_n (pc' := 18) rfl e_0 rfl ?_
        refine wp_get (v := .int (m.F r0 2)) (pc' := 21) rfl (hq_tbl h_r0 _) rfl rfl ?_
        refine wp_ic_ge (pc' := 24) rfl rfl (fun c22 => ?_) (fun c22 => ?_)
        · replace k := it_t (c := (m.F r0 2) ≤ x2) c22 k
          refine wp_p (pc' := 29) (lv' := lv0) (st' := [.int (nI 0)]) rfl rfl ?_
          refine wl_st1 (pc' := 30) (k0 := 3) (v := .int (nI 0)) (r := []) rfl rfl (fun lv23 e24 f25 => ?_)
          have e26 := f25 0 _ e_0 (by decide) rfl
          have e27 := f25 1 _ e_1 (by decide) rfl
          have e28 := f25 2 _ e_2 (by decide) rfl
          refine wl_ild_n (pc' := 31) rfl e24 rfl ?_
          refine wp_p (pc' := 47) (lv' := lv23) (st' := []) rfl rfl ?_
          refine wp_p (pc' := 50) (lv' := lv23) (st' := [.long 2199023255552]) rfl rfl ?_
          exact wp_r rfl rfl ⟨_, rfl, k⟩
        · replace k := it_f (c := (m.F r0 2) ≤ x2) c22 k
          refine wp_p (pc' := 25) (lv' := lv0) (st' := [.int (nI 1)]) rfl rfl ?_
          refine wp_p (pc' := 29) (lv' := lv0) (st' := [.int (nI 1)]) rfl rfl ?_
          refine wl_st1 (pc' := 30) (k0 := 3) (v := .int (nI 1)) (r := []) rfl rfl (fun lv29 e30 f31 => ?_)
          have e32 := f31 0 _ e_0 (by decide) rfl
          have e33 := f31 1 _ e_1 (by decide) rfl
          have e34 := f31 2 _ e_2 (by decide) rfl
          refine wl_ild_n (pc' := 31) rfl e30 rfl ?_
          refine wp_p (pc' := 34) (lv' := lv29) (st' := []) rfl rfl ?_
          refine wl_ald_n (pc' := 35) rfl e32 rfl ?_
          refine wp_get (v := .ref (r0 + 1)) (pc' := 38) rfl (hq_tbl h_r0 _) rfl rfl ?_
          refine wl_ild_n (pc' := 39) rfl e33 rfl ?_
          refine wp_p (pc' := 40) (lv' := lv29) (st' := [.int (nI 4), .int x1, .ref (r0 + 1)]) rfl rfl ?_
          refine wp_imul (v := x1 * (nI 4)) (pc' := 41) rfl rfl rfl ?_
          refine wl_ild_n (pc' := 42) rfl e34 rfl ?_
          refine wp_iadd (v := (x1 * (nI 4)) + x2) (pc' := 43) rfl rfl rfl ?_
          obtain ⟨k35, k⟩ := k
          refine wl_laload (g := m.B (r0 + 1)) (pc' := 44) rfl (hq_tb1 h_r0 _) k35 rfl ?_
          refine wp_p (pc' := 50) (lv' := lv29) (st' := [.long ((m.B (r0 + 1)).getD (ix ((x1 * (nI 4)) + x2)) 0)]) rfl rfl ?_
          exact wp_r rfl rfl ⟨_, rfl, k⟩
/-! 30: QueryTables$Table.rowsWith -/
set_option maxRecDepth 20000 in
theorem sp_30 {d : Nat} {m : Mm} {K : Option Value → Mm → Prop} (r0 : Nat) (x1 : Int32) (y2 : Int64) (h_r0 : tbl r0) (k : WH d 30 6 [(0, .ref r0), (1, .int x1), (2, .long y2), (4, .int (nI 0)), (5, .int (nI 0))] [] m K) : WP d 30 [.ref r0, .int x1, .long y2] m K := by
  have e_0 : sm_lk (lv_args 0 [.ref r0, .int x1, .long y2]) 0 = some (.ref r0) := rfl
  have e_1 : sm_lk (lv_args 0 [.ref r0, .int x1, .long y2]) 1 = some (.int x1) := rfl
  have e_2 : sm_lk (lv_args 0 [.ref r0, .int x1, .long y2]) 2 = some (.long y2) := rfl
  show sm_wp d 30 0 (lv_args 0 [.ref r0, .int x1, .long y2]) [] (hp m) (WQ K)
  generalize lv_args 0 [.ref r0, .int x1, .long y2] = lv0 at *
  refine wp_p (pc' := 1) (lv' := lv0) (st' := [.int (nI 0)]) rfl rfl ?_
  refine wl_st1 (pc' := 3) (k0 := 4) (v := .int (nI 0)) (r := []) rfl rfl (fun lv1 e2 f3 => ?_)
  have e4 := f3 0 _ e_0 (by decide) rfl
  have e5 := f3 1 _ e_1 (by decide) rfl
  have e6 := f3 2 _ e_2 (by decide) rfl
  refine wp_p (pc' := 4) (lv' := lv1) (st' := [.int (nI 0)]) rfl rfl ?_
  refine wl_st1 (pc' := 6) (k0 := 5) (v := .int (nI 0)) (r := []) rfl rfl (fun lv7 e8 f9 => ?_)
  have e10 := f9 0 _ e4 (by decide) rfl
  have e11 := f9 1 _ e5 (by decide) rfl
  have e12 := f9 2 _ e6 (by decide) rfl
  have e13 := f9 4 _ e2 (by decide) rfl
  exact k _ ⟨e10, e11, e12, e13, e8, trivial⟩
set_option maxRecDepth 20000 in
theorem sg_30_6 {d : Nat} {m : Mm} {K : Option Value → Mm → Prop} (r0 : Nat) (x1 : Int32) (y2 : Int64) (x4 : Int32) (x5 : Int32) (h_r0 : tbl r0) (k : (if (m.F r0 3) ≤ x5 then K (some (.int x4)) m else ok (m.B (r0 + 1)).length ((x5 * (nI 4)) + x1) ∧ (if (lg_cmp ((m.B (r0 + 1)).getD (ix ((x5 * (nI 4)) + x1)) 0) y2) = (nI 0) then WH d 30 6 [(0, .ref r0), (1, .int x1), (2, .long y2), (4, .int (x4 + nI 1)), (5, .int (x5 + nI 1))] [] m K else WH d 30 6 [(0, .ref r0), (1, .int x1), (2, .long y2), (4, .int x4), (5, .int (x5 + nI 1))] [] m K))) : WH d 30 6 [(0, .ref r0), (1, .int x1), (2, .long y2), (4, .int x4), (5, .int x5)] [] m K := by
  intro lv0 el
  obtain ⟨e_0, e_1, e_2, e_4, e_5, _⟩ := el
  refine wl_ild (pc' := 8) rfl e_5 rfl ?_
  refine wl_ald_n (pc' := 9) rfl e_0 rfl ?_
  refine wp_get (v := .int (m.F r0 3)) (pc' := 12) rfl (hq_tbl h_r0 _) rfl rfl ?_
  refine wp_ic_ge (pc' := 15) rfl rfl (fun c1 => ?_) (fun c1 => ?_)
  · replace k := it_t (c := (m.F r0 3) ≤ x5) c1 k
    refine wl_ild (pc' := 42) rfl e_4 rfl ?_
    exact wl_ret rfl rfl ⟨_, rfl, k⟩
  · replace k := it_f (c := (m.F r0 3) ≤ x5) c1 k
    refine wl_ald_n (pc' := 16) rfl e_0 rfl ?_
    refine wp_get (v := .ref (r0 + 1)) (pc' := 19) rfl (hq_tbl h_r0 _) rfl rfl ?_
    refine wl_ild (pc' := 21) rfl e_5 rfl ?_
    refine wp_p (pc' := 22) (lv' := lv0) (st' := [.int (nI 4), .int x5, .ref (r0 + 1)]) rfl rfl ?_
    refine wp_imul (v := x5 * (nI 4)) (pc' := 23) rfl rfl rfl ?_
    refine wl_ild_n (pc' := 24) rfl e_1 rfl ?_
    refine wp_iadd (v := (x5 * (nI 4)) + x1) (pc' := 25) rfl rfl rfl ?_
    obtain ⟨k2, k⟩ := k
    refine wl_laload (g := m.B (r0 + 1)) (pc' := 26) rfl (hq_tb1 h_r0 _) k2 rfl ?_
    refine wl_lld_n (pc' := 27) rfl e_2 rfl ?_
    refine wp_lcmp (v := lg_cmp ((m.B (r0 + 1)).getD (ix ((x5 * (nI 4)) + x1)) 0) y2) (pc' := 28) rfl rfl rfl ?_
    refine wp_if_ne (pc' := 31) rfl rfl (fun c3 => ?_) (fun c3 => ?_)
    · replace k := it_f (c := (lg_cmp ((m.B (r0 + 1)).getD (ix ((x5 * (nI 4)) + x1)) 0) y2) = (nI 0)) c3 k
      refine wl_iinc (pc' := 37) (v := x5 + nI 1) rfl e_5 rfl rfl rfl (fun lv4 e5 f6 => ?_)
      have e7 := f6 0 _ e_0 (by decide) rfl
      have e8 := f6 1 _ e_1 (by decide) rfl
      have e9 := f6 2 _ e_2 (by decide) rfl
      have e10 := f6 4 _ e_4 (by decide) rfl
      refine wp_p (pc' := 6) (lv' := lv4) (st' := []) rfl rfl ?_
      exact k _ ⟨e7, e8, e9, e10, e5, trivial⟩
    · replace k := it_t (c := (lg_cmp ((m.B (r0 + 1)).getD (ix ((x5 * (nI 4)) + x1)) 0) y2) = (nI 0)) c3 k
      refine wl_iinc (pc' := 34) (v := x4 + nI 1) rfl e_4 rfl rfl rfl (fun lv11 e12 f13 => ?_)
      have e14 := f13 0 _ e_0 (by decide) rfl
      have e15 := f13 1 _ e_1 (by decide) rfl
      have e16 := f13 2 _ e_2 (by decide) rfl
      have e17 := f13 5 _ e_5 (by decide) rfl
      refine wl_iinc (pc' := 37) (v := x5 + nI 1) rfl e17 rfl rfl rfl (fun lv18 e19 f20 => ?_)
      have e21 := f20 0 _ e14 (by decide) rfl
      have e22 := f20 1 _ e15 (by decide) rfl
      have e23 := f20 2 _ e16 (by decide) rfl
      have e24 := f20 4 _ e12 (by decide) rfl
      refine wp_p (pc' := 6) (lv' := lv18) (st' := []) rfl rfl ?_
      exact k _ ⟨e21, e22, e23, e24, e19, trivial⟩
/-! 31: QueryTables$Table.make -/
set_option maxRecDepth 20000 in
theorem sp_31 {d : Nat} {m : Mm} {K : Option Value → Mm → Prop} (r0 : Nat) (x1 : Int32) (h_r0 : tbl r0) (k : K none (m.uF r0 2 x1)) : WP d 31 [.ref r0, .int x1] m K := by
  have e_0 : sm_lk (lv_args 0 [.ref r0, .int x1]) 0 = some (.ref r0) := rfl
  have e_1 : sm_lk (lv_args 0 [.ref r0, .int x1]) 1 = some (.int x1) := rfl
  show sm_wp d 31 0 (lv_args 0 [.ref r0, .int x1]) [] (hp m) (WQ K)
  generalize lv_args 0 [.ref r0, .int x1] = lv0 at *
  refine wl_ald_n (pc' := 1) rfl e_0 rfl ?_
  refine wl_ild_n (pc' := 2) rfl e_1 rfl ?_
  refine wl_put (pc' := 5) (h2 := hp (m.uF r0 2 x1)) rfl (hq_tbl h_r0 _) rfl rfl rfl (pf_tbl_2 h_r0 _ _) ?_
  exact wp_r rfl rfl ⟨_, rfl, k⟩
/-! 32: QueryTables$Table.addIndex -/
set_option maxRecDepth 20000 in
theorem sp_32 {d : Nat} {m : Mm} {K : Option Value → Mm → Prop} (r0 : Nat) (x1 : Int32) (h_r0 : tbl r0) (k : WP d 27 [.ref r0, .int x1] m (fun v m1 => ∃ w2, v = some (.int w2) ∧ (if w2 = (nI 0) then K none m1 else ok (m1.A (r0 + 2)).length x1 ∧ K none (m1.uA (r0 + 2) ((m1.A (r0 + 2)).set (ix x1) (vp_nar .boolean (nI 1))))))) : WP (d + 1) 32 [.ref r0, .int x1] m K := by
  have e_0 : sm_lk (lv_args 0 [.ref r0, .int x1]) 0 = some (.ref r0) := rfl
  have e_1 : sm_lk (lv_args 0 [.ref r0, .int x1]) 1 = some (.int x1) := rfl
  show sm_wp (d + 1) 32 0 (lv_args 0 [.ref r0, .int x1]) [] (hp m) (WQ K)
  generalize lv_args 0 [.ref r0, .int x1] = lv0 at *
  refine wl_ald_n (pc' := 1) rfl e_0 rfl ?_
  refine wl_ild_n (pc' := 2) rfl e_1 rfl ?_
  refine wl_cv (As := [.ref r0, .int x1]) (r := []) (pc' := 5) rfl (sm_inv_tbl h_r0 _ rfl rfl rfl) rfl k ?_
  rintro _ m1 ⟨w2, rfl, k⟩
  show sm_wp (d + 1) 32 5 lv0 [.int w2] (hp m1) (WQ K)
  refine wp_if_eq (pc' := 8) rfl rfl (fun c3 => ?_) (fun c3 => ?_)
  · replace k := it_t (c := w2 = (nI 0)) c3 k
    exact wp_r rfl rfl ⟨_, rfl, k⟩
  · replace k := it_f (c := w2 = (nI 0)) c3 k
    refine wl_ald_n (pc' := 9) rfl e_0 rfl ?_
    refine wp_get (v := .ref (r0 + 2)) (pc' := 12) rfl (hq_tbl h_r0 _) rfl rfl ?_
    refine wl_ild_n (pc' := 13) rfl e_1 rfl ?_
    refine wp_p (pc' := 14) (lv' := lv0) (st' := [.int (nI 1), .int x1, .ref (r0 + 2)]) rfl rfl ?_
    obtain ⟨k4, k⟩ := k
    refine wl_bastore (g := m1.A (r0 + 2)) (pc' := 15) (h2 := hp (m1.uA (r0 + 2) ((m1.A (r0 + 2)).set (ix x1) (vp_nar .boolean (nI 1))))) rfl (hq_tb2 h_r0 _) k4 rfl (pa_tb2 h_r0 _ _) ?_
    exact wp_r rfl rfl ⟨_, rfl, k⟩
/-! 33: QueryTables$Table.addRow -/
set_option maxRecDepth 20000 in
theorem sp_33 {d : Nat} {m : Mm} {K : Option Value → Mm → Prop} (r0 : Nat) (h_r0 : tbl r0) (k : (if (m.F r0 3) < (nI 20) then WH d 33 12 [(0, .ref r0), (1, .ref 41), (2, .int (nI 0))] [] m K else K none m)) : WP d 33 [.ref r0, .ref 41] m K := by
  have e_0 : sm_lk (lv_args 0 [.ref r0, .ref 41]) 0 = some (.ref r0) := rfl
  have e_1 : sm_lk (lv_args 0 [.ref r0, .ref 41]) 1 = some (.ref 41) := rfl
  show sm_wp d 33 0 (lv_args 0 [.ref r0, .ref 41]) [] (hp m) (WQ K)
  generalize lv_args 0 [.ref r0, .ref 41] = lv0 at *
  refine wl_ald_n (pc' := 1) rfl e_0 rfl ?_
  refine wp_get (v := .int (m.F r0 3)) (pc' := 4) rfl (hq_tbl h_r0 _) rfl rfl ?_
  refine wp_p (pc' := 6) (lv' := lv0) (st' := [.int (nI 20), .int (m.F r0 3)]) rfl rfl ?_
  refine wp_ic_lt (pc' := 9) rfl rfl (fun c1 => ?_) (fun c1 => ?_)
  · replace k := it_t (c := (m.F r0 3) < (nI 20)) c1 k
    refine wp_p (pc' := 11) (lv' := lv0) (st' := [.int (nI 0)]) rfl rfl ?_
    refine wl_st1 (pc' := 12) (k0 := 2) (v := .int (nI 0)) (r := []) rfl rfl (fun lv2 e3 f4 => ?_)
    have e5 := f4 0 _ e_0 (by decide) rfl
    have e6 := f4 1 _ e_1 (by decide) rfl
    exact k _ ⟨e5, e6, e3, trivial⟩
  · replace k := it_f (c := (m.F r0 3) < (nI 20)) c1 k
    exact wp_r rfl rfl ⟨_, rfl, k⟩
set_option maxRecDepth 20000 in
theorem sg_33_12 {d : Nat} {m : Mm} {K : Option Value → Mm → Prop} (r0 : Nat) (x2 : Int32) (h_r0 : tbl r0) (k : (if (m.F r0 2) ≤ x2 then WP d 37 [.ref r0, .int (((m.uF r0 3 ((m.F r0 3) + (nI 1))).F r0 3) - (nI 1))] (m.uF r0 3 ((m.F r0 3) + (nI 1))) (fun v m2 => v = none ∧ K none m2) else ok (m.B 41).length x2 ∧ ok (m.B (r0 + 1)).length (((m.F r0 3) * (nI 4)) + x2) ∧ WH (d + 1) 33 12 [(0, .ref r0), (1, .ref 41), (2, .int (x2 + nI 1))] [] (m.uB (r0 + 1) ((m.B (r0 + 1)).set (ix (((m.F r0 3) * (nI 4)) + x2)) ((m.B 41).getD (ix x2) 0))) K)) : WH (d + 1) 33 12 [(0, .ref r0), (1, .ref 41), (2, .int x2)] [] m K := by
  intro lv0 el
  obtain ⟨e_0, e_1, e_2, _⟩ := el
  refine wl_ild_n (pc' := 13) rfl e_2 rfl ?_
  refine wl_ald_n (pc' := 14) rfl e_0 rfl ?_
  refine wp_get (v := .int (m.F r0 2)) (pc' := 17) rfl (hq_tbl h_r0 _) rfl rfl ?_
  refine wp_ic_ge (pc' := 20) rfl rfl (fun c1 => ?_) (fun c1 => ?_)
  · replace k := it_t (c := (m.F r0 2) ≤ x2) c1 k
    refine wl_ald_n (pc' := 43) rfl e_0 rfl ?_
    refine wp_p (pc' := 44) (lv' := lv0) (st' := [.ref r0, .ref r0]) rfl rfl ?_
    refine wp_get (v := .int (m.F r0 3)) (pc' := 47) rfl (hq_tbl h_r0 _) rfl rfl ?_
    refine wp_p (pc' := 48) (lv' := lv0) (st' := [.int (nI 1), .int (m.F r0 3), .ref r0]) rfl rfl ?_
    refine wp_iadd (v := (m.F r0 3) + (nI 1)) (pc' := 49) rfl rfl rfl ?_
    refine wl_put (pc' := 52) (h2 := hp (m.uF r0 3 ((m.F r0 3) + (nI 1)))) rfl (hq_tbl h_r0 _) rfl rfl rfl (pf_tbl_3 h_r0 _ _) ?_
    refine wl_ald_n (pc' := 53) rfl e_0 rfl ?_
    refine wl_ald_n (pc' := 54) rfl e_0 rfl ?_
    refine wp_get (v := .int ((m.uF r0 3 ((m.F r0 3) + (nI 1))).F r0 3)) (pc' := 57) rfl (hq_tbl h_r0 _) rfl rfl ?_
    refine wp_p (pc' := 58) (lv' := lv0) (st' := [.int (nI 1), .int ((m.uF r0 3 ((m.F r0 3) + (nI 1))).F r0 3), .ref r0]) rfl rfl ?_
    refine wp_isub (v := ((m.uF r0 3 ((m.F r0 3) + (nI 1))).F r0 3) - (nI 1)) (pc' := 59) rfl rfl rfl ?_
    refine wl_cv (As := [.ref r0, .int (((m.uF r0 3 ((m.F r0 3) + (nI 1))).F r0 3) - (nI 1))]) (r := []) (pc' := 62) rfl (sm_inv_tbl h_r0 _ rfl rfl rfl) rfl k ?_
    rintro _ m2 ⟨rfl, k⟩
    show sm_wp (d + 1) 33 62 lv0 [] (hp m2) (WQ K)
    exact wp_r rfl rfl ⟨_, rfl, k⟩
  · replace k := it_f (c := (m.F r0 2) ≤ x2) c1 k
    refine wl_ald_n (pc' := 21) rfl e_0 rfl ?_
    refine wp_get (v := .ref (r0 + 1)) (pc' := 24) rfl (hq_tbl h_r0 _) rfl rfl ?_
    refine wl_ald_n (pc' := 25) rfl e_0 rfl ?_
    refine wp_get (v := .int (m.F r0 3)) (pc' := 28) rfl (hq_tbl h_r0 _) rfl rfl ?_
    refine wp_p (pc' := 29) (lv' := lv0) (st' := [.int (nI 4), .int (m.F r0 3), .ref (r0 + 1)]) rfl rfl ?_
    refine wp_imul (v := (m.F r0 3) * (nI 4)) (pc' := 30) rfl rfl rfl ?_
    refine wl_ild_n (pc' := 31) rfl e_2 rfl ?_
    refine wp_iadd (v := ((m.F r0 3) * (nI 4)) + x2) (pc' := 32) rfl rfl rfl ?_
    refine wl_ald_n (pc' := 33) rfl e_1 rfl ?_
    refine wl_ild_n (pc' := 34) rfl e_2 rfl ?_
    obtain ⟨k3, k⟩ := k
    refine wl_laload (g := m.B 41) (pc' := 35) rfl (hq_41 _) k3 rfl ?_
    obtain ⟨k4, k⟩ := k
    refine wl_lastore (g := m.B (r0 + 1)) (pc' := 36) (h2 := hp (m.uB (r0 + 1) ((m.B (r0 + 1)).set (ix (((m.F r0 3) * (nI 4)) + x2)) ((m.B 41).getD (ix x2) 0)))) rfl (hq_tb1 h_r0 _) k4 rfl (pa_tb1 h_r0 _ _) ?_
    refine wl_iinc (pc' := 39) (v := x2 + nI 1) rfl e_2 rfl rfl rfl (fun lv5 e6 f7 => ?_)
    have e8 := f7 0 _ e_0 (by decide) rfl
    have e9 := f7 1 _ e_1 (by decide) rfl
    refine wp_p (pc' := 12) (lv' := lv5) (st' := []) rfl rfl ?_
    exact k _ ⟨e8, e9, e6, trivial⟩
/-! 34: QueryTables$Table.removeRow -/
set_option maxRecDepth 20000 in
theorem sp_34 {d : Nat} {m : Mm} {K : Option Value → Mm → Prop} (r0 : Nat) (x1 : Int32) (h_r0 : tbl r0) (k : (if x1 < (nI 0) then K none m else (if x1 < (m.F r0 3) then acok (m.B (r0 + 1)).length ((x1 + (nI 1)) * (nI 4)) (x1 * (nI 4)) (((m.F r0 3) * (nI 4)) - ((x1 + (nI 1)) * (nI 4))) ∧ K none ((m.uB (r0 + 1) (sm_cpy (m.B (r0 + 1)) (m.B (r0 + 1)) (ix ((x1 + (nI 1)) * (nI 4))) (ix (x1 * (nI 4))) (ix (((m.F r0 3) * (nI 4)) - ((x1 + (nI 1)) * (nI 4)))))).uF r0 3 ((m.F r0 3) - (nI 1))) else K none m))) : WP (d + 1) 34 [.ref r0, .int x1] m K := by
  have e_0 : sm_lk (lv_args 0 [.ref r0, .int x1]) 0 = some (.ref r0) := rfl
  have e_1 : sm_lk (lv_args 0 [.ref r0, .int x1]) 1 = some (.int x1) := rfl
  show sm_wp (d + 1) 34 0 (lv_args 0 [.ref r0, .int x1]) [] (hp m) (WQ K)
  generalize lv_args 0 [.ref r0, .int x1] = lv0 at *
  refine wl_ild_n (pc' := 1) rfl e_1 rfl ?_
  refine wp_if_lt (pc' := 4) rfl rfl (fun c1 => ?_) (fun c1 => ?_)
  · replace k := it_t (c := x1 < (nI 0)) c1 k
    exact wp_r rfl rfl ⟨_, rfl, k⟩
  · replace k := it_f (c := x1 < (nI 0)) c1 k
    refine wl_ild_n (pc' := 5) rfl e_1 rfl ?_
    refine wl_ald_n (pc' := 6) rfl e_0 rfl ?_
    refine wp_get (v := .int (m.F r0 3)) (pc' := 9) rfl (hq_tbl h_r0 _) rfl rfl ?_
    refine wp_ic_lt (pc' := 12) rfl rfl (fun c2 => ?_) (fun c2 => ?_)
    · replace k := it_t (c := x1 < (m.F r0 3)) c2 k
      refine wl_ild_n (pc' := 14) rfl e_1 rfl ?_
      refine wp_p (pc' := 15) (lv' := lv0) (st' := [.int (nI 1), .int x1]) rfl rfl ?_
      refine wp_iadd (v := x1 + (nI 1)) (pc' := 16) rfl rfl rfl ?_
      refine wp_p (pc' := 17) (lv' := lv0) (st' := [.int (nI 4), .int (x1 + (nI 1))]) rfl rfl ?_
      refine wp_imul (v := (x1 + (nI 1)) * (nI 4)) (pc' := 18) rfl rfl rfl ?_
      refine wl_st1 (pc' := 19) (k0 := 2) (v := .int ((x1 + (nI 1)) * (nI 4))) (r := []) rfl rfl (fun lv3 e4 f5 => ?_)
      have e6 := f5 0 _ e_0 (by decide) rfl
      have e7 := f5 1 _ e_1 (by decide) rfl
      refine wl_ald_n (pc' := 20) rfl e6 rfl ?_
      refine wp_get (v := .ref (r0 + 1)) (pc' := 23) rfl (hq_tbl h_r0 _) rfl rfl ?_
      refine wl_ild_n (pc' := 24) rfl e4 rfl ?_
      refine wl_ald_n (pc' := 25) rfl e6 rfl ?_
      refine wp_get (v := .ref (r0 + 1)) (pc' := 28) rfl (hq_tbl h_r0 _) rfl rfl ?_
      refine wl_ild_n (pc' := 29) rfl e7 rfl ?_
      refine wp_p (pc' := 30) (lv' := lv3) (st' := [.int (nI 4), .int x1, .ref (r0 + 1), .int ((x1 + (nI 1)) * (nI 4)), .ref (r0 + 1)]) rfl rfl ?_
      refine wp_imul (v := x1 * (nI 4)) (pc' := 31) rfl rfl rfl ?_
      refine wl_ald_n (pc' := 32) rfl e6 rfl ?_
      refine wp_get (v := .int (m.F r0 3)) (pc' := 35) rfl (hq_tbl h_r0 _) rfl rfl ?_
      refine wp_p (pc' := 36) (lv' := lv3) (st' := [.int (nI 4), .int (m.F r0 3), .int (x1 * (nI 4)), .ref (r0 + 1), .int ((x1 + (nI 1)) * (nI 4)), .ref (r0 + 1)]) rfl rfl ?_
      refine wp_imul (v := (m.F r0 3) * (nI 4)) (pc' := 37) rfl rfl rfl ?_
      refine wl_ild_n (pc' := 38) rfl e4 rfl ?_
      refine wp_isub (v := ((m.F r0 3) * (nI 4)) - ((x1 + (nI 1)) * (nI 4))) (pc' := 39) rfl rfl rfl ?_
      obtain ⟨k8, k⟩ := k
      refine wl_ac (g := m.B (r0 + 1)) (pc' := 42) (h2 := hp (m.uB (r0 + 1) (sm_cpy (m.B (r0 + 1)) (m.B (r0 + 1)) (ix ((x1 + (nI 1)) * (nI 4))) (ix (x1 * (nI 4))) (ix (((m.F r0 3) * (nI 4)) - ((x1 + (nI 1)) * (nI 4))))))) rfl (hq_tb1 h_r0 _) k8 rfl (pa_tb1 h_r0 _ _) ?_
      refine wl_ald_n (pc' := 43) rfl e6 rfl ?_
      refine wp_p (pc' := 44) (lv' := lv3) (st' := [.ref r0, .ref r0]) rfl rfl ?_
      refine wp_get (v := .int (m.F r0 3)) (pc' := 47) rfl (hq_tbl h_r0 _) rfl rfl ?_
      refine wp_p (pc' := 48) (lv' := lv3) (st' := [.int (nI 1), .int (m.F r0 3), .ref r0]) rfl rfl ?_
      refine wp_isub (v := (m.F r0 3) - (nI 1)) (pc' := 49) rfl rfl rfl ?_
      refine wl_put (pc' := 52) (h2 := hp ((m.uB (r0 + 1) (sm_cpy (m.B (r0 + 1)) (m.B (r0 + 1)) (ix ((x1 + (nI 1)) * (nI 4))) (ix (x1 * (nI 4))) (ix (((m.F r0 3) * (nI 4)) - ((x1 + (nI 1)) * (nI 4)))))).uF r0 3 ((m.F r0 3) - (nI 1)))) rfl (hq_tbl h_r0 _) rfl rfl rfl (pf_tbl_3 h_r0 _ _) ?_
      exact wp_r rfl rfl ⟨_, rfl, k⟩
    · replace k := it_f (c := x1 < (m.F r0 3)) c2 k
      exact wp_r rfl rfl ⟨_, rfl, k⟩
/-! 35: QueryTables$Table.copyColumn -/
set_option maxRecDepth 20000 in
theorem sp_35 {d : Nat} {m : Mm} {K : Option Value → Mm → Prop} (r0 : Nat) (x1 : Int32) (h_r0 : tbl r0) (k : WH d 35 2 [(0, .ref r0), (1, .int x1), (2, .ref 41), (3, .int (nI 0))] [] m K) : WP d 35 [.ref r0, .int x1, .ref 41] m K := by
  have e_0 : sm_lk (lv_args 0 [.ref r0, .int x1, .ref 41]) 0 = some (.ref r0) := rfl
  have e_1 : sm_lk (lv_args 0 [.ref r0, .int x1, .ref 41]) 1 = some (.int x1) := rfl
  have e_2 : sm_lk (lv_args 0 [.ref r0, .int x1, .ref 41]) 2 = some (.ref 41) := rfl
  show sm_wp d 35 0 (lv_args 0 [.ref r0, .int x1, .ref 41]) [] (hp m) (WQ K)
  generalize lv_args 0 [.ref r0, .int x1, .ref 41] = lv0 at *
  refine wp_p (pc' := 1) (lv' := lv0) (st' := [.int (nI 0)]) rfl rfl ?_
  refine wl_st1 (pc' := 2) (k0 := 3) (v := .int (nI 0)) (r := []) rfl rfl (fun lv1 e2 f3 => ?_)
  have e4 := f3 0 _ e_0 (by decide) rfl
  have e5 := f3 1 _ e_1 (by decide) rfl
  have e6 := f3 2 _ e_2 (by decide) rfl
  exact k _ ⟨e4, e5, e6, e2, trivial⟩
set_option maxRecDepth 20000 in
theorem sg_35_2 {d : Nat} {m : Mm} {K : Option Value → Mm → Prop} (r0 : Nat) (x1 : Int32) (x3 : Int32) (h_r0 : tbl r0) (k : (if (m.F r0 3) ≤ x3 then K none m else ok (m.B (r0 + 1)).length ((x3 * (nI 4)) + x1) ∧ ok (m.B 41).length x3 ∧ WH d 35 2 [(0, .ref r0), (1, .int x1), (2, .ref 41), (3, .int (x3 + nI 1))] [] (m.uB 41 ((m.B 41).set (ix x3) ((m.B (r0 + 1)).getD (ix ((x3 * (nI 4)) + x1)) 0))) K)) : WH d 35 2 [(0, .ref r0), (1, .int x1), (2, .ref 41), (3, .int x3)] [] m K := by
  intro lv0 el
  obtain ⟨e_0, e_1, e_2, e_3, _⟩ := el
  refine wl_ild_n (pc' := 3) rfl e_3 rfl ?_
  refine wl_ald_n (pc' := 4) rfl e_0 rfl ?_
  refine wp_get (v := .int (m.F r0 3)) (pc' := 7) rfl (hq_tbl h_r0 _) rfl rfl ?_
  refine wp_ic_ge (pc' := 10) rfl rfl (fun c1 => ?_) (fun c1 => ?_)
  · replace k := it_t (c := (m.F r0 3) ≤ x3) c1 k
    exact wp_r rfl rfl ⟨_, rfl, k⟩
  · replace k := it_f (c := (m.F r0 3) ≤ x3) c1 k
    refine wl_ald_n (pc' := 11) rfl e_2 rfl ?_
    refine wl_ild_n (pc' := 12) rfl e_3 rfl ?_
    refine wl_ald_n (pc' := 13) rfl e_0 rfl ?_
    refine wp_get (v := .ref (r0 + 1)) (pc' := 16) rfl (hq_tbl h_r0 _) rfl rfl ?_
    refine wl_ild_n (pc' := 17) rfl e_3 rfl ?_
    refine wp_p (pc' := 18) (lv' := lv0) (st' := [.int (nI 4), .int x3, .ref (r0 + 1), .int x3, .ref 41]) rfl rfl ?_
    refine wp_imul (v := x3 * (nI 4)) (pc' := 19) rfl rfl rfl ?_
    refine wl_ild_n (pc' := 20) rfl e_1 rfl ?_
    refine wp_iadd (v := (x3 * (nI 4)) + x1) (pc' := 21) rfl rfl rfl ?_
    obtain ⟨k2, k⟩ := k
    refine wl_laload (g := m.B (r0 + 1)) (pc' := 22) rfl (hq_tb1 h_r0 _) k2 rfl ?_
    obtain ⟨k3, k⟩ := k
    refine wl_lastore (g := m.B 41) (pc' := 23) (h2 := hp (m.uB 41 ((m.B 41).set (ix x3) ((m.B (r0 + 1)).getD (ix ((x3 * (nI 4)) + x1)) 0)))) rfl (hq_41 _) k3 rfl (pa_41 _ _) ?_
    refine wl_iinc (pc' := 26) (v := x3 + nI 1) rfl e_3 rfl rfl rfl (fun lv4 e5 f6 => ?_)
    have e7 := f6 0 _ e_0 (by decide) rfl
    have e8 := f6 1 _ e_1 (by decide) rfl
    have e9 := f6 2 _ e_2 (by decide) rfl
    refine wp_p (pc' := 2) (lv' := lv4) (st' := []) rfl rfl ?_
    exact k _ ⟨e7, e8, e9, e5, trivial⟩
/-! 36: QueryTables$Table.putColumn -/
set_option maxRecDepth 20000 in
theorem sp_36 {d : Nat} {m : Mm} {K : Option Value → Mm → Prop} (r0 : Nat) (x1 : Int32) (h_r0 : tbl r0) (k : WH d 36 2 [(0, .ref r0), (1, .int x1), (2, .ref 41), (3, .int (nI 0))] [] m K) : WP d 36 [.ref r0, .int x1, .ref 41] m K := by
  have e_0 : sm_lk (lv_args 0 [.ref r0, .int x1, .ref 41]) 0 = some (.ref r0) := rfl
  have e_1 : sm_lk (lv_args 0 [.ref r0, .int x1, .ref 41]) 1 = some (.int x1) := rfl
  have e_2 : sm_lk (lv_args 0 [.ref r0, .int x1, .ref 41]) 2 = some (.ref 41) := rfl
  show sm_wp d 36 0 (lv_args 0 [.ref r0, .int x1, .ref 41]) [] (hp m) (WQ K)
  generalize lv_args 0 [.ref r0, .int x1, .ref 41] = lv0 at *
  refine wp_p (pc' := 1) (lv' := lv0) (st' := [.int (nI 0)]) rfl rfl ?_
  refine wl_st1 (pc' := 2) (k0 := 3) (v := .int (nI 0)) (r := []) rfl rfl (fun lv1 e2 f3 => ?_)
  have e4 := f3 0 _ e_0 (by decide) rfl
  have e5 := f3 1 _ e_1 (by decide) rfl
  have e6 := f3 2 _ e_2 (by decide) rfl
  exact k _ ⟨e4, e5, e6, e2, trivial⟩
set_option maxRecDepth 20000 in
theorem sg_36_2 {d : Nat} {m : Mm} {K : Option Value → Mm → Prop} (r0 : Nat) (x1 : Int32) (x3 : Int32) (h_r0 : tbl r0) (k : (if (m.F r0 3) ≤ x3 then WH d 36 31 [(0, .ref r0), (3, .int (nI 1))] [] m K else ok (m.B 41).length x3 ∧ ok (m.B (r0 + 1)).length ((x3 * (nI 4)) + x1) ∧ WH d 36 2 [(0, .ref r0), (1, .int x1), (2, .ref 41), (3, .int (x3 + nI 1))] [] (m.uB (r0 + 1) ((m.B (r0 + 1)).set (ix ((x3 * (nI 4)) + x1)) ((m.B 41).getD (ix x3) 0))) K)) : WH d 36 2 [(0, .ref r0), (1, .int x1), (2, .ref 41), (3, .int x3)] [] m K := by
  intro lv0 el
  obtain ⟨e_0, e_1, e_2, e_3, _⟩ := el
  refine wl_ild_n (pc' := 3) rfl e_3 rfl ?_
  refine wl_ald_n (pc' := 4) rfl e_0 rfl ?_
  refine wp_get (v := .int (m.F r0 3)) (pc' := 7) rfl (hq_tbl h_r0 _) rfl rfl ?_
  refine wp_ic_ge (pc' := 10) rfl rfl (fun c1 => ?_) (fun c1 => ?_)
  · replace k := it_t (c := (m.F r0 3) ≤ x3) c1 k
    refine wp_p (pc' := 30) (lv' := lv0) (st' := [.int (nI 1)]) rfl rfl ?_
    refine wl_st1 (pc' := 31) (k0 := 3) (v := .int (nI 1)) (r := []) rfl rfl (fun lv2 e3 f4 => ?_)
    have e5 := f4 0 _ e_0 (by decide) rfl
    have e6 := f4 1 _ e_1 (by decide) rfl
    have e7 := f4 2 _ e_2 (by decide) rfl
    exact k _ ⟨e5, e3, trivial⟩
  · replace k := it_f (c := (m.F r0 3) ≤ x3) c1 k
    refine wl_ald_n (pc' := 11) rfl e_0 rfl ?_
    refine wp_get (v := .ref (r0 + 1)) (pc' := 14) rfl (hq_tbl h_r0 _) rfl rfl ?_
    refine wl_ild_n (pc' := 15) rfl e_3 rfl ?_
    refine wp_p (pc' := 16) (lv' := lv0) (st' := [.int (nI 4), .int x3, .ref (r0 + 1)]) rfl rfl ?_
    refine wp_imul (v := x3 * (nI 4)) (pc' := 17) rfl rfl rfl ?_
    refine wl_ild_n (pc' := 18) rfl e_1 rfl ?_
    refine wp_iadd (v := (x3 * (nI 4)) + x1) (pc' := 19) rfl rfl rfl ?_
    refine wl_ald_n (pc' := 20) rfl e_2 rfl ?_
    refine wl_ild_n (pc' := 21) rfl e_3 rfl ?_
    obtain ⟨k8, k⟩ := k
    refine wl_laload (g := m.B 41) (pc' := 22) rfl (hq_41 _) k8 rfl ?_
    obtain ⟨k9, k⟩ := k
    refine wl_lastore (g := m.B (r0 + 1)) (pc' := 23) (h2 := hp (m.uB (r0 + 1) ((m.B (r0 + 1)).set (ix ((x3 * (nI 4)) + x1)) ((m.B 41).getD (ix x3) 0)))) rfl (hq_tb1 h_r0 _) k9 rfl (pa_tb1 h_r0 _ _) ?_
    refine wl_iinc (pc' := 26) (v := x3 + nI 1) rfl e_3 rfl rfl rfl (fun lv10 e11 f12 => ?_)
    have e13 := f12 0 _ e_0 (by decide) rfl
    have e14 := f12 1 _ e_1 (by decide) rfl
    have e15 := f12 2 _ e_2 (by decide) rfl
    refine wp_p (pc' := 2) (lv' := lv10) (st' := []) rfl rfl ?_
    exact k _ ⟨e13, e14, e15, e11, trivial⟩
set_option maxRecDepth 20000 in
theorem sg_36_31 {d : Nat} {m : Mm} {K : Option Value → Mm → Prop} (r0 : Nat) (x3 : Int32) (h_r0 : tbl r0) (k : (if (m.F r0 3) ≤ x3 then K none m else WP d 37 [.ref r0, .int x3] m (fun v m2 => v = none ∧ WH (d + 1) 36 31 [(0, .ref r0), (3, .int (x3 + nI 1))] [] m2 K))) : WH (d + 1) 36 31 [(0, .ref r0), (3, .int x3)] [] m K := by
  intro lv0 el
  obtain ⟨e_0, e_3, _⟩ := el
  refine wl_ild_n (pc' := 32) rfl e_3 rfl ?_
  refine wl_ald_n (pc' := 33) rfl e_0 rfl ?_
  refine wp_get (v := .int (m.F r0 3)) (pc' := 36) rfl (hq_tbl h_r0 _) rfl rfl ?_
  refine wp_ic_ge (pc' := 39) rfl rfl (fun c1 => ?_) (fun c1 => ?_)
  · replace k := it_t (c := (m.F r0 3) ≤ x3) c1 k
    exact wp_r rfl rfl ⟨_, rfl, k⟩
  · replace k := it_f (c := (m.F r0 3) ≤ x3) c1 k
    refine wl_ald_n (pc' := 40) rfl e_0 rfl ?_
    refine wl_ild_n (pc' := 41) rfl e_3 rfl ?_
    refine wl_cv (As := [.ref r0, .int x3]) (r := []) (pc' := 44) rfl (sm_inv_tbl h_r0 _ rfl rfl rfl) rfl k ?_
    rintro _ m2 ⟨rfl, k⟩
    show sm_wp (d + 1) 36 44 lv0 [] (hp m2) (WQ K)
    refine wl_iinc (pc' := 47) (v := x3 + nI 1) rfl e_3 rfl rfl rfl (fun lv3 e4 f5 => ?_)
    have e6 := f5 0 _ e_0 (by decide) rfl
    refine wp_p (pc' := 31) (lv' := lv3) (st' := []) rfl rfl ?_
    exact k _ ⟨e6, e4, trivial⟩
/-! 37: QueryTables$Table.sink -/
set_option maxRecDepth 20000 in
theorem sp_37 {d : Nat} {m : Mm} {K : Option Value → Mm → Prop} (r0 : Nat) (x1 : Int32) (h_r0 : tbl r0) (k : WH d 37 2 [(0, .ref r0), (2, .int x1)] [] m K) : WP d 37 [.ref r0, .int x1] m K := by
  have e_0 : sm_lk (lv_args 0 [.ref r0, .int x1]) 0 = some (.ref r0) := rfl
  have e_1 : sm_lk (lv_args 0 [.ref r0, .int x1]) 1 = some (.int x1) := rfl
  show sm_wp d 37 0 (lv_args 0 [.ref r0, .int x1]) [] (hp m) (WQ K)
  generalize lv_args 0 [.ref r0, .int x1] = lv0 at *
  refine wl_ild_n (pc' := 1) rfl e_1 rfl ?_
  refine wl_st1 (pc' := 2) (k0 := 2) (v := .int x1) (r := []) rfl rfl (fun lv1 e2 f3 => ?_)
  have e4 := f3 0 _ e_0 (by decide) rfl
  have e5 := f3 1 _ e_1 (by decide) rfl
  exact k _ ⟨e4, e2, trivial⟩
set_option maxRecDepth 20000 in
theorem sg_37_2 {d : Nat} {m : Mm} {K : Option Value → Mm → Prop} (r0 : Nat) (x2 : Int32) (h_r0 : tbl r0) (k : (if x2 ≤ (nI 0) then K none m else ok (m.B (r0 + 1)).length ((x2 - (nI 1)) * (nI 4)) ∧ ok (m.B (r0 + 1)).length (x2 * (nI 4)) ∧ (if (lg_cmp ((m.B (r0 + 1)).getD (ix ((x2 - (nI 1)) * (nI 4))) 0) ((m.B (r0 + 1)).getD (ix (x2 * (nI 4))) 0)) ≤ (nI 0) then K none m else WP d 38 [.ref r0, .int (x2 * (nI 4))] m (fun v m5 => v = none ∧ WH (d + 1) 37 2 [(0, .ref r0), (2, .int (x2 + (-1)))] [] m5 K)))) : WH (d + 1) 37 2 [(0, .ref r0), (2, .int x2)] [] m K := by
  intro lv0 el
  obtain ⟨e_0, e_2, _⟩ := el
  refine wl_ild_n (pc' := 3) rfl e_2 rfl ?_
  refine wp_if_le (pc' := 6) rfl rfl (fun c1 => ?_) (fun c1 => ?_)
  · replace k := it_t (c := x2 ≤ (nI 0)) c1 k
    exact wp_r rfl rfl ⟨_, rfl, k⟩
  · replace k := it_f (c := x2 ≤ (nI 0)) c1 k
    refine wl_ald_n (pc' := 7) rfl e_0 rfl ?_
    refine wp_get (v := .ref (r0 + 1)) (pc' := 10) rfl (hq_tbl h_r0 _) rfl rfl ?_
    refine wl_ild_n (pc' := 11) rfl e_2 rfl ?_
    refine wp_p (pc' := 12) (lv' := lv0) (st' := [.int (nI 1), .int x2, .ref (r0 + 1)]) rfl rfl ?_
    refine wp_isub (v := x2 - (nI 1)) (pc' := 13) rfl rfl rfl ?_
    refine wp_p (pc' := 14) (lv' := lv0) (st' := [.int (nI 4), .int (x2 - (nI 1)), .ref (r0 + 1)]) rfl rfl ?_
    refine wp_imul (v := (x2 - (nI 1)) * (nI 4)) (pc' := 15) rfl rfl rfl ?_
    obtain ⟨k2, k⟩ := k
    refine wl_laload (g := m.B (r0 + 1)) (pc' := 16) rfl (hq_tb1 h_r0 _) k2 rfl ?_
    refine wl_ald_n (pc' := 17) rfl e_0 rfl ?_
    refine wp_get (v := .ref (r0 + 1)) (pc' := 20) rfl (hq_tbl h_r0 _) rfl rfl ?_
    refine wl_ild_n (pc' := 21) rfl e_2 rfl ?_
    refine wp_p (pc' := 22) (lv' := lv0) (st' := [.int (nI 4), .int x2, .ref (r0 + 1), .long ((m.B (r0 + 1)).getD (ix ((x2 - (nI 1)) * (nI 4))) 0)]) rfl rfl ?_
    refine wp_imul (v := x2 * (nI 4)) (pc' := 23) rfl rfl rfl ?_
    obtain ⟨k3, k⟩ := k
    refine wl_laload (g := m.B (r0 + 1)) (pc' := 24) rfl (hq_tb1 h_r0 _) k3 rfl ?_
    refine wp_lcmp (v := lg_cmp ((m.B (r0 + 1)).getD (ix ((x2 - (nI 1)) * (nI 4))) 0) ((m.B (r0 + 1)).getD (ix (x2 * (nI 4))) 0)) (pc' := 25) rfl rfl rfl ?_
    refine wp_if_le (pc' := 28) rfl rfl (fun c4 => ?_) (fun c4 => ?_)
    · replace k := it_t (c := (lg_cmp ((m.B (r0 + 1)).getD (ix ((x2 - (nI 1)) * (nI 4))) 0) ((m.B (r0 + 1)).getD (ix (x2 * (nI 4))) 0)) ≤ (nI 0)) c4 k
      exact wp_r rfl rfl ⟨_, rfl, k⟩
    · replace k := it_f (c := (lg_cmp ((m.B (r0 + 1)).getD (ix ((x2 - (nI 1)) * (nI 4))) 0) ((m.B (r0 + 1)).getD (ix (x2 * (nI 4))) 0)) ≤ (nI 0)) c4 k
      refine wl_ald_n (pc' := 29) rfl e_0 rfl ?_
      refine wl_ild_n (pc' := 30) rfl e_2 rfl ?_
      refine wp_p (pc' := 31) (lv' := lv0) (st' := [.int (nI 4), .int x2, .ref r0]) rfl rfl ?_
      refine wp_imul (v := x2 * (nI 4)) (pc' := 32) rfl rfl rfl ?_
      refine wl_cv (As := [.ref r0, .int (x2 * (nI 4))]) (r := []) (pc' := 35) rfl (sm_inv_tbl h_r0 _ rfl rfl rfl) rfl k ?_
      rintro _ m5 ⟨rfl, k⟩
      show sm_wp (d + 1) 37 35 lv0 [] (hp m5) (WQ K)
      refine wl_iinc (pc' := 38) (v := x2 + (-1)) rfl e_2 rfl rfl rfl (fun lv6 e7 f8 => ?_)
      have e9 := f8 0 _ e_0 (by decide) rfl
      refine wp_p (pc' := 2) (lv' := lv6) (st' := []) rfl rfl ?_
      exact k _ ⟨e9, e7, trivial⟩
/-! 38: QueryTables$Table.swapWithEarlier -/
set_option maxRecDepth 20000 in
theorem sp_38 {d : Nat} {m : Mm} {K : Option Value → Mm → Prop} (r0 : Nat) (x1 : Int32) (h_r0 : tbl r0) (k : WH d 38 2 [(0, .ref r0), (1, .int x1), (2, .int x1)] [] m K) : WP d 38 [.ref r0, .int x1] m K := by
  have e_0 : sm_lk (lv_args 0 [.ref r0, .int x1]) 0 = some (.ref r0) := rfl
  have e_1 : sm_lk (lv_args 0 [.ref r0, .int x1]) 1 = some (.int x1) := rfl
  show sm_wp d 38 0 (lv_args 0 [.ref r0, .int x1]) [] (hp m) (WQ K)
  generalize lv_args 0 [.ref r0, .int x1] = lv0 at *
  refine wl_ild_n (pc' := 1) rfl e_1 rfl ?_
  refine wl_st1 (pc' := 2) (k0 := 2) (v := .int x1) (r := []) rfl rfl (fun lv1 e2 f3 => ?_)
  have e4 := f3 0 _ e_0 (by decide) rfl
  have e5 := f3 1 _ e_1 (by decide) rfl
  exact k _ ⟨e4, e5, e2, trivial⟩
set_option maxRecDepth 20000 in
theorem sg_38_2 {d : Nat} {m : Mm} {K : Option Value → Mm → Prop} (r0 : Nat) (x1 : Int32) (x2 : Int32) (h_r0 : tbl r0) (k : (if (x1 + (nI 4)) ≤ x2 then K none m else ok (m.B (r0 + 1)).length x2 ∧ ok (m.B (r0 + 1)).length (x2 - (nI 4)) ∧ ok (m.B (r0 + 1)).length x2 ∧ ok ((m.uB (r0 + 1) ((m.B (r0 + 1)).set (ix x2) ((m.B (r0 + 1)).getD (ix (x2 - (nI 4))) 0))).B (r0 + 1)).length (x2 - (nI 4)) ∧ WH d 38 2 [(0, .ref r0), (1, .int x1), (2, .int (x2 + nI 1))] [] ((m.uB (r0 + 1) ((m.B (r0 + 1)).set (ix x2) ((m.B (r0 + 1)).getD (ix (x2 - (nI 4))) 0))).uB (r0 + 1) (((m.uB (r0 + 1) ((m.B (r0 + 1)).set (ix x2) ((m.B (r0 + 1)).getD (ix (x2 - (nI 4))) 0))).B (r0 + 1)).set (ix (x2 - (nI 4))) ((m.B (r0 + 1)).getD (ix x2) 0))) K)) : WH d 38 2 [(0, .ref r0), (1, .int x1), (2, .int x2)] [] m K := by
  intro lv0 el
  obtain ⟨e_0, e_1, e_2, _⟩ := el
  refine wl_ild_n (pc' := 3) rfl e_2 rfl ?_
  refine wl_ild_n (pc' := 4) rfl e_1 rfl ?_
  refine wp_p (pc' := 5) (lv' := lv0) (st' := [.int (nI 4), .int x1, .int x2]) rfl rfl ?_
  refine wp_iadd (v := x1 + (nI 4)) (pc' := 6) rfl rfl rfl ?_
  refine wp_ic_ge (pc' := 9) rfl rfl (fun c1 => ?_) (fun c1 => ?_)
  · replace k := it_t (c := (x1 + (nI 4)) ≤ x2) c1 k
    exact wp_r rfl rfl ⟨_, rfl, k⟩
  · replace k := it_f (c := (x1 + (nI 4)) ≤ x2) c1 k
    refine wl_ald_n (pc' := 10) rfl e_0 rfl ?_
    refine wp_get (v := .ref (r0 + 1)) (pc' := 13) rfl (hq_tbl h_r0 _) rfl rfl ?_
    refine wl_ild_n (pc' := 14) rfl e_2 rfl ?_
    obtain ⟨k2, k⟩ := k
    refine wl_laload (g := m.B (r0 + 1)) (pc' := 15) rfl (hq_tb1 h_r0 _) k2 rfl ?_
    refine wl_st2 (pc' := 16) (k0 := 3) (v := .long ((m.B (r0 + 1)).getD (ix x2) 0)) (r := []) rfl rfl (fun lv3 e4 f5 => ?_)
    have e6 := f5 0 _ e_0 (by decide) (by decide) rfl
    have e7 := f5 1 _ e_1 (by decide) (by decide) rfl
    have e8 := f5 2 _ e_2 (by decide) (by decide) rfl
    refine wl_ald_n (pc' := 17) rfl e6 rfl ?_
    refine wp_get (v := .ref (r0 + 1)) (pc' := 20) rfl (hq_tbl h_r0 _) rfl rfl ?_
    refine wl_ild_n (pc' := 21) rfl e8 rfl ?_
    refine wl_ald_n (pc' := 22) rfl e6 rfl ?_
    refine wp_get (v := .ref (r0 + 1)) (pc' := 25) rfl (hq_tbl h_r0 _) rfl rfl ?_
    refine wl_ild_n (pc' := 26) rfl e8 rfl ?_
    refine wp_p (pc' := 27) (lv' := lv3) (st' := [.int (nI 4), .int x2, .ref (r0 + 1), .int x2, .ref (r0 + 1)]) rfl rfl ?_
    refine wp_isub (v := x2 - (nI 4)) (pc' := 28) rfl rfl rfl ?_
    obtain ⟨k9, k⟩ := k
    refine wl_laload (g := m.B (r0 + 1)) (pc' := 29) rfl (hq_tb1 h_r0 _) k9 rfl ?_
    obtain ⟨k10, k⟩ := k
    refine wl_lastore (g := m.B (r0 + 1)) (pc' := 30) (h2 := hp (m.uB (r0 + 1) ((m.B (r0 + 1)).set (ix x2) ((m.B (r0 + 1)).getD (ix (x2 - (nI 4))) 0)))) rfl (hq_tb1 h_r0 _) k10 rfl (pa_tb1 h_r0 _ _) ?_
    refine wl_ald_n (pc' := 31) rfl e6 rfl ?_
    refine wp_get (v := .ref (r0 + 1)) (pc' := 34) rfl (hq_tbl h_r0 _) rfl rfl ?_
    refine wl_ild_n (pc' := 35) rfl e8 rfl ?_
    refine wp_p (pc' := 36) (lv' := lv3) (st' := [.int (nI 4), .int x2, .ref (r0 + 1)]) rfl rfl ?_
    refine wp_isub (v := x2 - (nI 4)) (pc' := 37) rfl rfl rfl ?_
    refine wl_lld_n (pc' := 38) rfl e4 rfl ?_
    obtain ⟨k11, k⟩ := k
    refine wl_lastore (g := (m.uB (r0 + 1) ((m.B (r0 + 1)).set (ix x2) ((m.B (r0 + 1)).getD (ix (x2 - (nI 4))) 0))).B (r0 + 1)) (pc' := 39) (h2 := hp ((m.uB (r0 + 1) ((m.B (r0 + 1)).set (ix x2) ((m.B (r0 + 1)).getD (ix (x2 - (nI 4))) 0))).uB (r0 + 1) (((m.uB (r0 + 1) ((m.B (r0 + 1)).set (ix x2) ((m.B (r0 + 1)).getD (ix (x2 - (nI 4))) 0))).B (r0 + 1)).set (ix (x2 - (nI 4))) ((m.B (r0 + 1)).getD (ix x2) 0)))) rfl (hq_tb1 h_r0 _) k11 rfl (pa_tb1 h_r0 _ _) ?_
    refine wl_iinc (pc' := 42) (v := x2 + nI 1) rfl e8 rfl rfl rfl (fun lv12 e13 f14 => ?_)
    have e15 := f14 0 _ e6 (by decide) rfl
    have e16 := f14 1 _ e7 (by decide) rfl
    have e17 := f14 3 _ e4 (by decide) rfl
    refine wp_p (pc' := 2) (lv' := lv12) (st' := []) rfl rfl ?_
    exact k _ ⟨e15, e16, e13, trivial⟩
/-! 40: QueryTables$Pair.stand -/
set_option maxRecDepth 20000 in
theorem sp_40 {d : Nat} {m : Mm} {K : Option Value → Mm → Prop} (r1 : Nat) (r2 : Nat) (h_r1 : tbl r1) (h_r2 : tbl r2) (k : ok (m.A 24).length (nI 0) ∧ ok ((m.A 24).set (ix (nI 0)) (nI 0)).length (nI 1) ∧ K none ((((m.uR 23 1 r1).uR 23 2 r2).uA 24 ((m.A 24).set (ix (nI 0)) (nI 0))).uA 24 (((m.A 24).set (ix (nI 0)) (nI 0)).set (ix (nI 1)) (nI 0)))) : WP d 40 [.ref 23, .ref r1, .ref r2] m K := by
  have e_0 : sm_lk (lv_args 0 [.ref 23, .ref r1, .ref r2]) 0 = some (.ref 23) := rfl
  have e_1 : sm_lk (lv_args 0 [.ref 23, .ref r1, .ref r2]) 1 = some (.ref r1) := rfl
  have e_2 : sm_lk (lv_args 0 [.ref 23, .ref r1, .ref r2]) 2 = some (.ref r2) := rfl
  show sm_wp d 40 0 (lv_args 0 [.ref 23, .ref r1, .ref r2]) [] (hp m) (WQ K)
  generalize lv_args 0 [.ref 23, .ref r1, .ref r2] = lv0 at *
  refine wl_ald_n (pc' := 1) rfl e_0 rfl ?_
  refine wl_ald_n (pc' := 2) rfl e_1 rfl ?_
  refine wl_put (pc' := 5) (h2 := hp (m.uR 23 1 r1)) rfl (hq_23 _) rfl rfl rfl (pr_23_1 _ _) ?_
  refine wl_ald_n (pc' := 6) rfl e_0 rfl ?_
  refine wl_ald_n (pc' := 7) rfl e_2 rfl ?_
  refine wl_put (pc' := 10) (h2 := hp ((m.uR 23 1 r1).uR 23 2 r2)) rfl (hq_23 _) rfl rfl rfl (pr_23_2 _ _) ?_
  refine wl_ald_n (pc' := 11) rfl e_0 rfl ?_
  refine wp_get (v := .ref 24) (pc' := 14) rfl (hq_23 _) rfl rfl ?_
  refine wp_p (pc' := 15) (lv' := lv0) (st' := [.int (nI 0), .ref 24]) rfl rfl ?_
  refine wp_p (pc' := 16) (lv' := lv0) (st' := [.int (nI 0), .int (nI 0), .ref 24]) rfl rfl ?_
  obtain ⟨k1, k⟩ := k
  refine wl_iastore (g := m.A 24) (pc' := 17) (h2 := hp (((m.uR 23 1 r1).uR 23 2 r2).uA 24 ((m.A 24).set (ix (nI 0)) (nI 0)))) rfl (hq_24 _) k1 rfl (pa_24 _ _) ?_
  refine wl_ald_n (pc' := 18) rfl e_0 rfl ?_
  refine wp_get (v := .ref 24) (pc' := 21) rfl (hq_23 _) rfl rfl ?_
  refine wp_p (pc' := 22) (lv' := lv0) (st' := [.int (nI 1), .ref 24]) rfl rfl ?_
  refine wp_p (pc' := 23) (lv' := lv0) (st' := [.int (nI 0), .int (nI 1), .ref 24]) rfl rfl ?_
  obtain ⟨k2, k⟩ := k
  refine wl_iastore (g := (m.A 24).set (ix (nI 0)) (nI 0)) (pc' := 24) (h2 := hp ((((m.uR 23 1 r1).uR 23 2 r2).uA 24 ((m.A 24).set (ix (nI 0)) (nI 0))).uA 24 (((m.A 24).set (ix (nI 0)) (nI 0)).set (ix (nI 1)) (nI 0)))) rfl (hq_24 _) k2 rfl (pa_24 _ _) ?_
  exact wp_r rfl rfl ⟨_, rfl, k⟩
/-! 41: QueryTables$Pair.tableOf -/
set_option maxRecDepth 20000 in
theorem sp_41 {d : Nat} {m : Mm} {K : Option Value → Mm → Prop} (x1 : Int32) (k : (if x1 = (nI 0) then tbl (m.R 23 1) ∧ K (some (.ref (m.R 23 1))) m else tbl (m.R 23 2) ∧ K (some (.ref (m.R 23 2))) m)) : WP d 41 [.ref 23, .int x1] m K := by
  have e_0 : sm_lk (lv_args 0 [.ref 23, .int x1]) 0 = some (.ref 23) := rfl
  have e_1 : sm_lk (lv_args 0 [.ref 23, .int x1]) 1 = some (.int x1) := rfl
  show sm_wp d 41 0 (lv_args 0 [.ref 23, .int x1]) [] (hp m) (WQ K)
  generalize lv_args 0 [.ref 23, .int x1] = lv0 at *
  refine wl_ild_n (pc' := 1) rfl e_1 rfl ?_
  refine wp_if_ne (pc' := 4) rfl rfl (fun c1 => ?_) (fun c1 => ?_)
  · replace k := it_f (c := x1 = (nI 0)) c1 k
    refine wl_ald_n (pc' := 12) rfl e_0 rfl ?_
    refine wp_get (v := .ref (m.R 23 2)) (pc' := 15) rfl (hq_23 _) rfl rfl ?_
    obtain ⟨k2, k⟩ := k
    exact wp_r rfl rfl ⟨_, rfl, k⟩
  · replace k := it_t (c := x1 = (nI 0)) c1 k
    refine wl_ald_n (pc' := 5) rfl e_0 rfl ?_
    refine wp_get (v := .ref (m.R 23 1)) (pc' := 8) rfl (hq_23 _) rfl rfl ?_
    obtain ⟨k3, k⟩ := k
    refine wp_p (pc' := 15) (lv' := lv0) (st' := [.ref (m.R 23 1)]) rfl rfl ?_
    exact wp_r rfl rfl ⟨_, rfl, k⟩
/-! 42: QueryTables$Pair.rowOf -/
set_option maxRecDepth 20000 in
theorem sp_42 {d : Nat} {m : Mm} {K : Option Value → Mm → Prop} (x1 : Int32) (k : (if x1 = (nI 0) then ok (m.A 24).length (nI 0) ∧ K (some (.int ((m.A 24).getD (ix (nI 0)) 0))) m else ok (m.A 24).length (nI 1) ∧ K (some (.int ((m.A 24).getD (ix (nI 1)) 0))) m)) : WP d 42 [.ref 23, .int x1] m K := by
  have e_0 : sm_lk (lv_args 0 [.ref 23, .int x1]) 0 = some (.ref 23) := rfl
  have e_1 : sm_lk (lv_args 0 [.ref 23, .int x1]) 1 = some (.int x1) := rfl
  show sm_wp d 42 0 (lv_args 0 [.ref 23, .int x1]) [] (hp m) (WQ K)
  generalize lv_args 0 [.ref 23, .int x1] = lv0 at *
  refine wl_ild_n (pc' := 1) rfl e_1 rfl ?_
  refine wp_if_ne (pc' := 4) rfl rfl (fun c1 => ?_) (fun c1 => ?_)
  · replace k := it_f (c := x1 = (nI 0)) c1 k
    refine wl_ald_n (pc' := 14) rfl e_0 rfl ?_
    refine wp_get (v := .ref 24) (pc' := 17) rfl (hq_23 _) rfl rfl ?_
    refine wp_p (pc' := 18) (lv' := lv0) (st' := [.int (nI 1), .ref 24]) rfl rfl ?_
    obtain ⟨k2, k⟩ := k
    refine wl_iaload (g := m.A 24) (pc' := 19) rfl (hq_24 _) k2 rfl ?_
    exact wl_ret rfl rfl ⟨_, rfl, k⟩
  · replace k := it_t (c := x1 = (nI 0)) c1 k
    refine wl_ald_n (pc' := 5) rfl e_0 rfl ?_
    refine wp_get (v := .ref 24) (pc' := 8) rfl (hq_23 _) rfl rfl ?_
    refine wp_p (pc' := 9) (lv' := lv0) (st' := [.int (nI 0), .ref 24]) rfl rfl ?_
    obtain ⟨k3, k⟩ := k
    refine wl_iaload (g := m.A 24) (pc' := 10) rfl (hq_24 _) k3 rfl ?_
    refine wp_p (pc' := 19) (lv' := lv0) (st' := [.int ((m.A 24).getD (ix (nI 0)) 0)]) rfl rfl ?_
    exact wl_ret rfl rfl ⟨_, rfl, k⟩
/-! 43: QueryTables$Pair.move -/
set_option maxRecDepth 20000 in
theorem sp_43 {d : Nat} {m : Mm} {K : Option Value → Mm → Prop} (x1 : Int32) (x2 : Int32) (k : (if x1 = (nI 0) then ok (m.A 24).length (nI 0) ∧ K none (m.uA 24 ((m.A 24).set (ix (nI 0)) x2)) else ok (m.A 24).length (nI 1) ∧ K none (m.uA 24 ((m.A 24).set (ix (nI 1)) x2)))) : WP d 43 [.ref 23, .int x1, .int x2] m K := by
  have e_0 : sm_lk (lv_args 0 [.ref 23, .int x1, .int x2]) 0 = some (.ref 23) := rfl
  have e_1 : sm_lk (lv_args 0 [.ref 23, .int x1, .int x2]) 1 = some (.int x1) := rfl
  have e_2 : sm_lk (lv_args 0 [.ref 23, .int x1, .int x2]) 2 = some (.int x2) := rfl
  show sm_wp d 43 0 (lv_args 0 [.ref 23, .int x1, .int x2]) [] (hp m) (WQ K)
  generalize lv_args 0 [.ref 23, .int x1, .int x2] = lv0 at *
  refine wl_ald_n (pc' := 1) rfl e_0 rfl ?_
  refine wp_get (v := .ref 24) (pc' := 4) rfl (hq_23 _) rfl rfl ?_
  refine wl_ild_n (pc' := 5) rfl e_1 rfl ?_
  refine wp_if_ne (pc' := 8) rfl rfl (fun c1 => ?_) (fun c1 => ?_)
  · replace k := it_f (c := x1 = (nI 0)) c1 k
    refine wp_p (pc' := 13) (lv' := lv0) (st' := [.int (nI 1), .ref 24]) rfl rfl ?_
    refine wl_ild_n (pc' := 14) rfl e_2 rfl ?_
    obtain ⟨k2, k⟩ := k
    refine wl_iastore (g := m.A 24) (pc' := 15) (h2 := hp (m.uA 24 ((m.A 24).set (ix (nI 1)) x2))) rfl (hq_24 _) k2 rfl (pa_24 _ _) ?_
    exact wp_r rfl rfl ⟨_, rfl, k⟩
  · replace k := it_t (c := x1 = (nI 0)) c1 k
    refine wp_p (pc' := 9) (lv' := lv0) (st' := [.int (nI 0), .ref 24]) rfl rfl ?_
    refine wp_p (pc' := 13) (lv' := lv0) (st' := [.int (nI 0), .ref 24]) rfl rfl ?_
    refine wl_ild_n (pc' := 14) rfl e_2 rfl ?_
    obtain ⟨k3, k⟩ := k
    refine wl_iastore (g := m.A 24) (pc' := 15) (h2 := hp (m.uA 24 ((m.A 24).set (ix (nI 0)) x2))) rfl (hq_24 _) k3 rfl (pa_24 _ _) ?_
    exact wp_r rfl rfl ⟨_, rfl, k⟩
/-! 45: QueryTables$Code.clear -/
set_option maxRecDepth 20000 in
theorem sp_45 {d : Nat} {m : Mm} {K : Option Value → Mm → Prop} (k : K none (m.uF 17 5 (nI 0))) : WP d 45 [.ref 17] m K := by
  have e_0 : sm_lk (lv_args 0 [.ref 17]) 0 = some (.ref 17) := rfl
  show sm_wp d 45 0 (lv_args 0 [.ref 17]) [] (hp m) (WQ K)
  generalize lv_args 0 [.ref 17] = lv0 at *
  refine wl_ald_n (pc' := 1) rfl e_0 rfl ?_
  refine wp_p (pc' := 2) (lv' := lv0) (st' := [.int (nI 0), .ref 17]) rfl rfl ?_
  refine wl_put (pc' := 5) (h2 := hp (m.uF 17 5 (nI 0))) rfl (hq_17 _) rfl rfl rfl (pf_17_5 _ _) ?_
  exact wp_r rfl rfl ⟨_, rfl, k⟩
/-! 46: QueryTables$Code.addOperator -/
set_option maxRecDepth 20000 in
theorem sp_46 {d : Nat} {m : Mm} {K : Option Value → Mm → Prop} (x1 : Int32) (k : WP d 47 [.ref 17, .int x1, .int (nI 0), .int (-1)] m (fun v m1 => v = none ∧ K none m1)) : WP (d + 1) 46 [.ref 17, .int x1] m K := by
  have e_0 : sm_lk (lv_args 0 [.ref 17, .int x1]) 0 = some (.ref 17) := rfl
  have e_1 : sm_lk (lv_args 0 [.ref 17, .int x1]) 1 = some (.int x1) := rfl
  show sm_wp (d + 1) 46 0 (lv_args 0 [.ref 17, .int x1]) [] (hp m) (WQ K)
  generalize lv_args 0 [.ref 17, .int x1] = lv0 at *
  refine wl_ald_n (pc' := 1) rfl e_0 rfl ?_
  refine wl_ild_n (pc' := 2) rfl e_1 rfl ?_
  refine wp_p (pc' := 3) (lv' := lv0) (st' := [.int (nI 0), .int x1, .ref 17]) rfl rfl ?_
  refine wp_p (pc' := 4) (lv' := lv0) (st' := [.int (-1), .int (nI 0), .int x1, .ref 17]) rfl rfl ?_
  refine wl_cv (As := [.ref 17, .int x1, .int (nI 0), .int (-1)]) (r := []) (pc' := 7) rfl rfl rfl k ?_
  rintro _ m1 ⟨rfl, k⟩
  show sm_wp (d + 1) 46 7 lv0 [] (hp m1) (WQ K)
  exact wp_r rfl rfl ⟨_, rfl, k⟩
/-! 47: QueryTables$Code.add -/
set_option maxRecDepth 20000 in
theorem sp_47 {d : Nat} {m : Mm} {K : Option Value → Mm → Prop} (x1 : Int32) (x2 : Int32) (x3 : Int32) (k : (if (nI 80) ≤ (m.F 17 5) then K none m else ok (m.A 18).length (m.F 17 5) ∧ ok (m.A 19).length (m.F 17 5) ∧ ok (m.A 20).length (m.F 17 5) ∧ ok (m.A 21).length (m.F 17 5) ∧ K none (((((m.uA 18 ((m.A 18).set (ix (m.F 17 5)) x1)).uA 19 ((m.A 19).set (ix (m.F 17 5)) x2)).uA 20 ((m.A 20).set (ix (m.F 17 5)) x3)).uA 21 ((m.A 21).set (ix (m.F 17 5)) (nI 0))).uF 17 5 ((m.F 17 5) + (nI 1))))) : WP d 47 [.ref 17, .int x1, .int x2, .int x3] m K := by
  have e_0 : sm_lk (lv_args 0 [.ref 17, .int x1, .int x2, .int x3]) 0 = some (.ref 17) := rfl
  have e_1 : sm_lk (lv_args 0 [.ref 17, .int x1, .int x2, .int x3]) 1 = some (.int x1) := rfl
  have e_2 : sm_lk (lv_args 0 [.ref 17, .int x1, .int x2, .int x3]) 2 = some (.int x2) := rfl
  have e_3 : sm_lk (lv_args 0 [.ref 17, .int x1, .int x2, .int x3]) 3 = some (.int x3) := rfl
  show sm_wp d 47 0 (lv_args 0 [.ref 17, .int x1, .int x2, .int x3]) [] (hp m) (WQ K)
  generalize lv_args 0 [.ref 17, .int x1, .int x2, .int x3] = lv0 at *
  refine wl_ald_n (pc' := 1) rfl e_0 rfl ?_
  refine wp_get (v := .int (m.F 17 5)) (pc' := 4) rfl (hq_17 _) rfl rfl ?_
  refine wp_p (pc' := 6) (lv' := lv0) (st' := [.int (nI 80), .int (m.F 17 5)]) rfl rfl ?_
  refine wp_ic_ge (pc' := 9) rfl rfl (fun c1 => ?_) (fun c1 => ?_)
  · replace k := it_t (c := (nI 80) ≤ (m.F 17 5)) c1 k
    exact wp_r rfl rfl ⟨_, rfl, k⟩
  · replace k := it_f (c := (nI 80) ≤ (m.F 17 5)) c1 k
    refine wl_ald_n (pc' := 10) rfl e_0 rfl ?_
    refine wp_get (v := .ref 18) (pc' := 13) rfl (hq_17 _) rfl rfl ?_
    refine wl_ald_n (pc' := 14) rfl e_0 rfl ?_
    refine wp_get (v := .int (m.F 17 5)) (pc' := 17) rfl (hq_17 _) rfl rfl ?_
    refine wl_ild_n (pc' := 18) rfl e_1 rfl ?_
    obtain ⟨k2, k⟩ := k
    refine wl_iastore (g := m.A 18) (pc' := 19) (h2 := hp (m.uA 18 ((m.A 18).set (ix (m.F 17 5)) x1))) rfl (hq_18 _) k2 rfl (pa_18 _ _) ?_
    refine wl_ald_n (pc' := 20) rfl e_0 rfl ?_
    refine wp_get (v := .ref 19) (pc' := 23) rfl (hq_17 _) rfl rfl ?_
    refine wl_ald_n (pc' := 24) rfl e_0 rfl ?_
    refine wp_get (v := .int (m.F 17 5)) (pc' := 27) rfl (hq_17 _) rfl rfl ?_
    refine wl_ild_n (pc' := 28) rfl e_2 rfl ?_
    obtain ⟨k3, k⟩ := k
    refine wl_iastore (g := m.A 19) (pc' := 29) (h2 := hp ((m.uA 18 ((m.A 18).set (ix (m.F 17 5)) x1)).uA 19 ((m.A 19).set (ix (m.F 17 5)) x2))) rfl (hq_19 _) k3 rfl (pa_19 _ _) ?_
    refine wl_ald_n (pc' := 30) rfl e_0 rfl ?_
    refine wp_get (v := .ref 20) (pc' := 33) rfl (hq_17 _) rfl rfl ?_
    refine wl_ald_n (pc' := 34) rfl e_0 rfl ?_
    refine wp_get (v := .int (m.F 17 5)) (pc' := 37) rfl (hq_17 _) rfl rfl ?_
    refine wl_ild_n (pc' := 38) rfl e_3 rfl ?_
    obtain ⟨k4, k⟩ := k
    refine wl_iastore (g := m.A 20) (pc' := 39) (h2 := hp (((m.uA 18 ((m.A 18).set (ix (m.F 17 5)) x1)).uA 19 ((m.A 19).set (ix (m.F 17 5)) x2)).uA 20 ((m.A 20).set (ix (m.F 17 5)) x3))) rfl (hq_20 _) k4 rfl (pa_20 _ _) ?_
    refine wl_ald_n (pc' := 40) rfl e_0 rfl ?_
    refine wp_get (v := .ref 21) (pc' := 43) rfl (hq_17 _) rfl rfl ?_
    refine wl_ald_n (pc' := 44) rfl e_0 rfl ?_
    refine wp_get (v := .int (m.F 17 5)) (pc' := 47) rfl (hq_17 _) rfl rfl ?_
    refine wp_p (pc' := 48) (lv' := lv0) (st' := [.int (nI 0), .int (m.F 17 5), .ref 21]) rfl rfl ?_
    obtain ⟨k5, k⟩ := k
    refine wl_iastore (g := m.A 21) (pc' := 49) (h2 := hp ((((m.uA 18 ((m.A 18).set (ix (m.F 17 5)) x1)).uA 19 ((m.A 19).set (ix (m.F 17 5)) x2)).uA 20 ((m.A 20).set (ix (m.F 17 5)) x3)).uA 21 ((m.A 21).set (ix (m.F 17 5)) (nI 0)))) rfl (hq_21 _) k5 rfl (pa_21 _ _) ?_
    refine wl_ald_n (pc' := 50) rfl e_0 rfl ?_
    refine wp_p (pc' := 51) (lv' := lv0) (st' := [.ref 17, .ref 17]) rfl rfl ?_
    refine wp_get (v := .int (m.F 17 5)) (pc' := 54) rfl (hq_17 _) rfl rfl ?_
    refine wp_p (pc' := 55) (lv' := lv0) (st' := [.int (nI 1), .int (m.F 17 5), .ref 17]) rfl rfl ?_
    refine wp_iadd (v := (m.F 17 5) + (nI 1)) (pc' := 56) rfl rfl rfl ?_
    refine wl_put (pc' := 59) (h2 := hp (((((m.uA 18 ((m.A 18).set (ix (m.F 17 5)) x1)).uA 19 ((m.A 19).set (ix (m.F 17 5)) x2)).uA 20 ((m.A 20).set (ix (m.F 17 5)) x3)).uA 21 ((m.A 21).set (ix (m.F 17 5)) (nI 0))).uF 17 5 ((m.F 17 5) + (nI 1)))) rfl (hq_17 _) rfl rfl rfl (pf_17_5 _ _) ?_
    exact wp_r rfl rfl ⟨_, rfl, k⟩
/-! 48: QueryTables$Code.isColumn -/
set_option maxRecDepth 20000 in
theorem sp_48 {d : Nat} {m : Mm} {K : Option Value → Mm → Prop} (x1 : Int32) (k : (if x1 < (nI 0) then K (some (.int (nI 0))) m else (if (m.F 17 5) ≤ x1 then K (some (.int (nI 0))) m else ok (m.A 18).length x1 ∧ (if ((m.A 18).getD (ix x1) 0) = (nI 3) then K (some (.int (nI 1))) m else K (some (.int (nI 0))) m)))) : WP d 48 [.ref 17, .int x1] m K := by
  have e_0 : sm_lk (lv_args 0 [.ref 17, .int x1]) 0 = some (.ref 17) := rfl
  have e_1 : sm_lk (lv_args 0 [.ref 17, .int x1]) 1 = some (.int x1) := rfl
  show sm_wp d 48 0 (lv_args 0 [.ref 17, .int x1]) [] (hp m) (WQ K)
  generalize lv_args 0 [.ref 17, .int x1] = lv0 at *
  refine wl_ild_n (pc' := 1) rfl e_1 rfl ?_
  refine wp_if_lt (pc' := 4) rfl rfl (fun c1 => ?_) (fun c1 => ?_)
  · replace k := it_t (c := x1 < (nI 0)) c1 k
    refine wp_p (pc' := 27) (lv' := lv0) (st' := [.int (nI 0)]) rfl rfl ?_
    exact wl_ret rfl rfl ⟨_, rfl, k⟩
  · replace k := it_f (c := x1 < (nI 0)) c1 k
    refine wl_ild_n (pc' := 5) rfl e_1 rfl ?_
    refine wl_ald_n (pc' := 6) rfl e_0 rfl ?_
    refine wp_get (v := .int (m.F 17 5)) (pc' := 9) rfl (hq_17 _) rfl rfl ?_
    refine wp_ic_ge (pc' := 12) rfl rfl (fun c2 => ?_) (fun c2 => ?_)
    · replace k := it_t (c := (m.F 17 5) ≤ x1) c2 k
      refine wp_p (pc' := 27) (lv' := lv0) (st' := [.int (nI 0)]) rfl rfl ?_
      exact wl_ret rfl rfl ⟨_, rfl, k⟩
    · replace k := it_f (c := (m.F 17 5) ≤ x1) c2 k
      refine wl_ald_n (pc' := 13) rfl e_0 rfl ?_
      refine wp_get (v := .ref 18) (pc' := 16) rfl (hq_17 _) rfl rfl ?_
      refine wl_ild_n (pc' := 17) rfl e_1 rfl ?_
      obtain ⟨k3, k⟩ := k
      refine wl_iaload (g := m.A 18) (pc' := 18) rfl (hq_18 _) k3 rfl ?_
      refine wp_p (pc' := 19) (lv' := lv0) (st' := [.int (nI 3), .int ((m.A 18).getD (ix x1) 0)]) rfl rfl ?_
      refine wp_ic_ne (pc' := 22) rfl rfl (fun c4 => ?_) (fun c4 => ?_)
      · replace k := it_f (c := ((m.A 18).getD (ix x1) 0) = (nI 3)) c4 k
        refine wp_p (pc' := 27) (lv' := lv0) (st' := [.int (nI 0)]) rfl rfl ?_
        exact wl_ret rfl rfl ⟨_, rfl, k⟩
      · replace k := it_t (c := ((m.A 18).getD (ix x1) 0) = (nI 3)) c4 k
        refine wp_p (pc' := 23) (lv' := lv0) (st' := [.int (nI 1)]) rfl rfl ?_
        refine wp_p (pc' := 27) (lv' := lv0) (st' := [.int (nI 1)]) rfl rfl ?_
        exact wl_ret rfl rfl ⟨_, rfl, k⟩
/-! 49: QueryTables$Code.sidesIn -/
set_option maxRecDepth 20000 in
theorem sp_49 {d : Nat} {m : Mm} {K : Option Value → Mm → Prop} (x1 : Int32) (x2 : Int32) (k : WH d 49 5 [(0, .ref 17), (2, .int x2), (3, .int (nI 0)), (4, .int x1)] [] m K) : WP d 49 [.ref 17, .int x1, .int x2] m K := by
  have e_0 : sm_lk (lv_args 0 [.ref 17, .int x1, .int x2]) 0 = some (.ref 17) := rfl
  have e_1 : sm_lk (lv_args 0 [.ref 17, .int x1, .int x2]) 1 = some (.int x1) := rfl
  have e_2 : sm_lk (lv_args 0 [.ref 17, .int x1, .int x2]) 2 = some (.int x2) := rfl
  show sm_wp d 49 0 (lv_args 0 [.ref 17, .int x1, .int x2]) [] (hp m) (WQ K)
  generalize lv_args 0 [.ref 17, .int x1, .int x2] = lv0 at *
  refine wp_p (pc' := 1) (lv' := lv0) (st' := [.int (nI 0)]) rfl rfl ?_
  refine wl_st1 (pc' := 2) (k0 := 3) (v := .int (nI 0)) (r := []) rfl rfl (fun lv1 e2 f3 => ?_)
  have e4 := f3 0 _ e_0 (by decide) rfl
  have e5 := f3 1 _ e_1 (by decide) rfl
  have e6 := f3 2 _ e_2 (by decide) rfl
  refine wl_ild_n (pc' := 3) rfl e5 rfl ?_
  refine wl_st1 (pc' := 5) (k0 := 4) (v := .int x1) (r := []) rfl rfl (fun lv7 e8 f9 => ?_)
  have e10 := f9 0 _ e4 (by decide) rfl
  have e11 := f9 1 _ e5 (by decide) rfl
  have e12 := f9 2 _ e6 (by decide) rfl
  have e13 := f9 3 _ e2 (by decide) rfl
  exact k _ ⟨e10, e12, e13, e8, trivial⟩
set_option maxRecDepth 20000 in
theorem sg_49_5 {d : Nat} {m : Mm} {K : Option Value → Mm → Prop} (x2 : Int32) (x3 : Int32) (x4 : Int32) (k : (if x2 ≤ x4 then K (some (.int x3)) m else WP d 48 [.ref 17, .int x4] m (fun v m2 => ∃ w3, v = some (.int w3) ∧ (if w3 = (nI 0) then WH (d + 1) 49 5 [(0, .ref 17), (2, .int x2), (3, .int x3), (4, .int (x4 + nI 1))] [] m2 K else ok (m2.A 21).length x4 ∧ WH (d + 1) 49 5 [(0, .ref 17), (2, .int x2), (3, .int (x3 ||| ((nI 1) <<< (((m2.A 21).getD (ix x4) 0) &&& 31)))), (4, .int (x4 + nI 1))] [] m2 K)))) : WH (d + 1) 49 5 [(0, .ref 17), (2, .int x2), (3, .int x3), (4, .int x4)] [] m K := by
  intro lv0 el
  obtain ⟨e_0, e_2, e_3, e_4, _⟩ := el
  refine wl_ild (pc' := 7) rfl e_4 rfl ?_
  refine wl_ild_n (pc' := 8) rfl e_2 rfl ?_
  refine wp_ic_ge (pc' := 11) rfl rfl (fun c1 => ?_) (fun c1 => ?_)
  · replace k := it_t (c := x2 ≤ x4) c1 k
    refine wl_ild_n (pc' := 39) rfl e_3 rfl ?_
    exact wl_ret rfl rfl ⟨_, rfl, k⟩
  · replace k := it_f (c := x2 ≤ x4) c1 k
    refine wl_ald_n (pc' := 12) rfl e_0 rfl ?_
    refine wl_ild (pc' := 14) rfl e_4 rfl ?_
    refine wl_cv (As := [.ref 17, .int x4]) (r := []) (pc' := 17) rfl rfl rfl k ?_
    rintro _ m2 ⟨w3, rfl, k⟩
    show sm_wp (d + 1) 49 17 lv0 [.int w3] (hp m2) (WQ K)
    refine wp_if_eq (pc' := 20) rfl rfl (fun c4 => ?_) (fun c4 => ?_)
    · replace k := it_t (c := w3 = (nI 0)) c4 k
      refine wl_iinc (pc' := 35) (v := x4 + nI 1) rfl e_4 rfl rfl rfl (fun lv5 e6 f7 => ?_)
      have e8 := f7 0 _ e_0 (by decide) rfl
      have e9 := f7 2 _ e_2 (by decide) rfl
      have e10 := f7 3 _ e_3 (by decide) rfl
      refine wp_p (pc' := 5) (lv' := lv5) (st' := []) rfl rfl ?_
      exact k _ ⟨e8, e9, e10, e6, trivial⟩
    · replace k := it_f (c := w3 = (nI 0)) c4 k
      refine wl_ild_n (pc' := 21) rfl e_3 rfl ?_
      refine wp_p (pc' := 22) (lv' := lv0) (st' := [.int (nI 1), .int x3]) rfl rfl ?_
      refine wl_ald_n (pc' := 23) rfl e_0 rfl ?_
      refine wp_get (v := .ref 21) (pc' := 26) rfl (hq_17 _) rfl rfl ?_
      refine wl_ild (pc' := 28) rfl e_4 rfl ?_
      obtain ⟨k11, k⟩ := k
      refine wl_iaload (g := m2.A 21) (pc' := 29) rfl (hq_21 _) k11 rfl ?_
      refine wp_ishl (v := (nI 1) <<< (((m2.A 21).getD (ix x4) 0) &&& 31)) (pc' := 30) rfl rfl rfl ?_
      refine wp_ior (v := x3 ||| ((nI 1) <<< (((m2.A 21).getD (ix x4) 0) &&& 31))) (pc' := 31) rfl rfl rfl ?_
      refine wl_st1 (pc' := 32) (k0 := 3) (v := .int (x3 ||| ((nI 1) <<< (((m2.A 21).getD (ix x4) 0) &&& 31)))) (r := []) rfl rfl (fun lv12 e13 f14 => ?_)
      have e15 := f14 0 _ e_0 (by decide) rfl
      have e16 := f14 2 _ e_2 (by decide) rfl
      have e17 := f14 4 _ e_4 (by decide) rfl
      refine wl_iinc (pc' := 35) (v := x4 + nI 1) rfl e17 rfl rfl rfl (fun lv18 e19 f20 => ?_)
      have e21 := f20 0 _ e15 (by decide) rfl
      have e22 := f20 2 _ e16 (by decide) rfl
      have e23 := f20 3 _ e13 (by decide) rfl
      refine wp_p (pc' := 5) (lv' := lv18) (st' := []) rfl rfl ?_
      exact k _ ⟨e21, e22, e23, e19, trivial⟩
/-! 50: QueryTables$Code.loneColumn -/
set_option maxRecDepth 20000 in
theorem sp_50 {d : Nat} {m : Mm} {K : Option Value → Mm → Prop} (x1 : Int32) (x2 : Int32) (x3 : Int32) (k : (if (x2 - x1) = (nI 1) then WP d 48 [.ref 17, .int x1] m (fun v m2 => ∃ w3, v = some (.int w3) ∧ (if w3 = (nI 0) then K (some (.int (-1))) m2 else ok (m2.A 21).length x1 ∧ (if ((m2.A 21).getD (ix x1) 0) = x3 then ok (m2.A 19).length x1 ∧ K (some (.int ((m2.A 19).getD (ix x1) 0))) m2 else K (some (.int (-1))) m2))) else K (some (.int (-1))) m)) : WP (d + 1) 50 [.ref 17, .int x1, .int x2, .int x3] m K := by
  have e_0 : sm_lk (lv_args 0 [.ref 17, .int x1, .int x2, .int x3]) 0 = some (.ref 17) := rfl
  have e_1 : sm_lk (lv_args 0 [.ref 17, .int x1, .int x2, .int x3]) 1 = some (.int x1) := rfl
  have e_2 : sm_lk (lv_args 0 [.ref 17, .int x1, .int x2, .int x3]) 2 = some (.int x2) := rfl
  have e_3 : sm_lk (lv_args 0 [.ref 17, .int x1, .int x2, .int x3]) 3 = some (.int x3) := rfl
  show sm_wp (d + 1) 50 0 (lv_args 0 [.ref 17, .int x1, .int x2, .int x3]) [] (hp m) (WQ K)
  generalize lv_args 0 [.ref 17, .int x1, .int x2, .int x3] = lv0 at *
  refine wl_ild_n (pc' := 1) rfl e_2 rfl ?_
  refine wl_ild_n (pc' := 2) rfl e_1 rfl ?_
  refine wp_isub (v := x2 - x1) (pc' := 3) rfl rfl rfl ?_
  refine wp_p (pc' := 4) (lv' := lv0) (st' := [.int (nI 1), .int (x2 - x1)]) rfl rfl ?_
  refine wp_ic_ne (pc' := 7) rfl rfl (fun c1 => ?_) (fun c1 => ?_)
  · replace k := it_f (c := (x2 - x1) = (nI 1)) c1 k
    refine wp_p (pc' := 35) (lv' := lv0) (st' := [.int (-1)]) rfl rfl ?_
    exact wl_ret rfl rfl ⟨_, rfl, k⟩
  · replace k := it_t (c := (x2 - x1) = (nI 1)) c1 k
    refine wl_ald_n (pc' := 8) rfl e_0 rfl ?_
    refine wl_ild_n (pc' := 9) rfl e_1 rfl ?_
    refine wl_cv (As := [.ref 17, .int x1]) (r := []) (pc' := 12) rfl rfl rfl k ?_
    rintro _ m2 ⟨w3, rfl, k⟩
    show sm_wp (d + 1) 50 12 lv0 [.int w3] (hp m2) (WQ K)
    refine wp_if_eq (pc' := 15) rfl rfl (fun c4 => ?_) (fun c4 => ?_)
    · replace k := it_t (c := w3 = (nI 0)) c4 k
      refine wp_p (pc' := 35) (lv' := lv0) (st' := [.int (-1)]) rfl rfl ?_
      exact wl_ret rfl rfl ⟨_, rfl, k⟩
    · replace k := it_f (c := w3 = (nI 0)) c4 k
      refine wl_ald_n (pc' := 16) rfl e_0 rfl ?_
      refine wp_get (v := .ref 21) (pc' := 19) rfl (hq_17 _) rfl rfl ?_
      refine wl_ild_n (pc' := 20) rfl e_1 rfl ?_
      obtain ⟨k5, k⟩ := k
      refine wl_iaload (g := m2.A 21) (pc' := 21) rfl (hq_21 _) k5 rfl ?_
      refine wl_ild_n (pc' := 22) rfl e_3 rfl ?_
      refine wp_ic_ne (pc' := 25) rfl rfl (fun c6 => ?_) (fun c6 => ?_)
      · replace k := it_f (c := ((m2.A 21).getD (ix x1) 0) = x3) c6 k
        refine wp_p (pc' := 35) (lv' := lv0) (st' := [.int (-1)]) rfl rfl ?_
        exact wl_ret rfl rfl ⟨_, rfl, k⟩
      · replace k := it_t (c := ((m2.A 21).getD (ix x1) 0) = x3) c6 k
        refine wl_ald_n (pc' := 26) rfl e_0 rfl ?_
        refine wp_get (v := .ref 19) (pc' := 29) rfl (hq_17 _) rfl rfl ?_
        refine wl_ild_n (pc' := 30) rfl e_1 rfl ?_
        obtain ⟨k7, k⟩ := k
        refine wl_iaload (g := m2.A 19) (pc' := 31) rfl (hq_19 _) k7 rfl ?_
        refine wp_p (pc' := 35) (lv' := lv0) (st' := [.int ((m2.A 19).getD (ix x1) 0)]) rfl rfl ?_
        exact wl_ret rfl rfl ⟨_, rfl, k⟩
/-! 51: QueryTables$Code.work -/
set_option maxRecDepth 20000 in
theorem sp_51 {d : Nat} {m : Mm} {K : Option Value → Mm → Prop} (x1 : Int32) (x2 : Int32) (k : WH (d + 1) 51 10 [(0, .ref 17), (2, .int x2), (3, .ref 23), (4, .int (nI 0)), (5, .int (mxI x1 (nI 0)))] [] m K) : WP (d + 1) 51 [.ref 17, .int x1, .int x2, .ref 23] m K := by
  have e_0 : sm_lk (lv_args 0 [.ref 17, .int x1, .int x2, .ref 23]) 0 = some (.ref 17) := rfl
  have e_1 : sm_lk (lv_args 0 [.ref 17, .int x1, .int x2, .ref 23]) 1 = some (.int x1) := rfl
  have e_2 : sm_lk (lv_args 0 [.ref 17, .int x1, .int x2, .ref 23]) 2 = some (.int x2) := rfl
  have e_3 : sm_lk (lv_args 0 [.ref 17, .int x1, .int x2, .ref 23]) 3 = some (.ref 23) := rfl
  show sm_wp (d + 1) 51 0 (lv_args 0 [.ref 17, .int x1, .int x2, .ref 23]) [] (hp m) (WQ K)
  generalize lv_args 0 [.ref 17, .int x1, .int x2, .ref 23] = lv0 at *
  refine wp_p (pc' := 1) (lv' := lv0) (st' := [.int (nI 0)]) rfl rfl ?_
  refine wl_st1 (pc' := 3) (k0 := 4) (v := .int (nI 0)) (r := []) rfl rfl (fun lv1 e2 f3 => ?_)
  have e4 := f3 0 _ e_0 (by decide) rfl
  have e5 := f3 1 _ e_1 (by decide) rfl
  have e6 := f3 2 _ e_2 (by decide) rfl
  have e7 := f3 3 _ e_3 (by decide) rfl
  refine wl_ild_n (pc' := 4) rfl e5 rfl ?_
  refine wp_p (pc' := 5) (lv' := lv1) (st' := [.int (nI 0), .int x1]) rfl rfl ?_
  refine wp_mm (st' := [.int (mxI x1 (nI 0))]) (pc' := 8) rfl rfl rfl rfl rfl ?_
  refine wl_st1 (pc' := 10) (k0 := 5) (v := .int (mxI x1 (nI 0))) (r := []) rfl rfl (fun lv8 e9 f10 => ?_)
  have e11 := f10 0 _ e4 (by decide) rfl
  have e12 := f10 1 _ e5 (by decide) rfl
  have e13 := f10 2 _ e6 (by decide) rfl
  have e14 := f10 3 _ e7 (by decide) rfl
  have e15 := f10 4 _ e2 (by decide) rfl
  exact k _ ⟨e11, e13, e14, e15, e9, trivial⟩
set_option maxRecDepth 20000 in
theorem sg_51_10 {d : Nat} {m : Mm} {K : Option Value → Mm → Prop} (x2 : Int32) (x4 : Int32) (x5 : Int32) (k : (if x2 ≤ x5 then WH (d + 1) 51 167 [(0, .ref 17), (4, .int x4)] [] m K else (if (m.F 17 5) ≤ x5 then WH (d + 1) 51 167 [(0, .ref 17), (4, .int x4)] [] m K else ok (m.A 18).length x5 ∧ WP d 52 [.int ((m.A 18).getD (ix x5) 0)] m (fun v m4 => ∃ w5, v = some (.int w5) ∧ (if w5 = (nI 0) then (if (nI 80) ≤ x4 then WH (d + 1) 51 69 [(0, .ref 17), (2, .int x2), (3, .ref 23), (4, .int x4), (5, .int x5), (6, .int w5)] [] m4 K else WP d 53 [.ref 17, .int x5, .ref 23] m4 (fun v m16 => ∃ w17, v = some (.long w17) ∧ ok (m16.B 22).length x4 ∧ WH (d + 1) 51 161 [(0, .ref 17), (2, .int x2), (3, .ref 23), (4, .int (x4 + nI 1)), (5, .int x5)] [] (m16.uB 22 ((m16.B 22).set (ix x4) w17)) K)) else WH (d + 1) 51 69 [(0, .ref 17), (2, .int x2), (3, .ref 23), (4, .int x4), (5, .int x5), (6, .int w5)] [] m4 K))))) : WH (d + 1) 51 10 [(0, .ref 17), (2, .int x2), (3, .ref 23), (4, .int x4), (5, .int x5)] [] m K := by
  intro lv0 el
  obtain ⟨e_0, e_2, e_3, e_4, e_5, _⟩ := el
  refine wl_ild (pc' := 12) rfl e_5 rfl ?_
  refine wl_ild_n (pc' := 13) rfl e_2 rfl ?_
  refine wp_ic_ge (pc' := 16) rfl rfl (fun c1 => ?_) (fun c1 => ?_)
  · replace k := it_t (c := x2 ≤ x5) c1 k
    exact k _ ⟨e_0, e_4, trivial⟩
  · replace k := it_f (c := x2 ≤ x5) c1 k
    refine wl_ild (pc' := 18) rfl e_5 rfl ?_
    refine wl_ald_n (pc' := 19) rfl e_0 rfl ?_
    refine wp_get (v := .int (m.F 17 5)) (pc' := 22) rfl (hq_17 _) rfl rfl ?_
    refine wp_ic_ge (pc' := 25) rfl rfl (fun c2 => ?_) (fun c2 => ?_)
    · replace k := it_t (c := (m.F 17 5) ≤ x5) c2 k
      exact k _ ⟨e_0, e_4, trivial⟩
    · replace k := it_f (c := (m.F 17 5) ≤ x5) c2 k
      refine wl_ald_n (pc' := 26) rfl e_0 rfl ?_
      refine wp_get (v := .ref 18) (pc' := 29) rfl (hq_17 _) rfl rfl ?_
      refine wl_ild (pc' := 31) rfl e_5 rfl ?_
      obtain ⟨k3, k⟩ := k
      refine wl_iaload (g := m.A 18) (pc' := 32) rfl (hq_18 _) k3 rfl ?_
      refine wl_cs (As := [.int ((m.A 18).getD (ix x5) 0)]) (r := []) (pc' := 35) rfl rfl rfl rfl k ?_
      rintro _ m4 ⟨w5, rfl, k⟩
      show sm_wp (d + 1) 51 35 lv0 [.int w5] (hp m4) (WQ K)
      refine wl_st1 (pc' := 37) (k0 := 6) (v := .int w5) (r := []) rfl rfl (fun lv6 e7 f8 => ?_)
      have e9 := f8 0 _ e_0 (by decide) rfl
      have e10 := f8 2 _ e_2 (by decide) rfl
      have e11 := f8 3 _ e_3 (by decide) rfl
      have e12 := f8 4 _ e_4 (by decide) rfl
      have e13 := f8 5 _ e_5 (by decide) rfl
      refine wl_ild (pc' := 39) rfl e7 rfl ?_
      refine wp_if_ne (pc' := 42) rfl rfl (fun c14 => ?_) (fun c14 => ?_)
      · replace k := it_f (c := w5 = (nI 0)) c14 k
        exact k _ ⟨e9, e10, e11, e12, e13, e7, trivial⟩
      · replace k := it_t (c := w5 = (nI 0)) c14 k
        refine wl_ild (pc' := 44) rfl e12 rfl ?_
        refine wp_p (pc' := 46) (lv' := lv6) (st' := [.int (nI 80), .int x4]) rfl rfl ?_
        refine wp_ic_ge (pc' := 49) rfl rfl (fun c15 => ?_) (fun c15 => ?_)
        · replace k := it_t (c := (nI 80) ≤ x4) c15 k
          exact k _ ⟨e9, e10, e11, e12, e13, e7, trivial⟩
        · replace k := it_f (c := (nI 80) ≤ x4) c15 k
          refine wl_ald_n (pc' := 50) rfl e9 rfl ?_
          refine wp_get (v := .ref 22) (pc' := 53) rfl (hq_17 _) rfl rfl ?_
          refine wl_ild (pc' := 55) rfl e12 rfl ?_
          refine wl_ald_n (pc' := 56) rfl e9 rfl ?_
          refine wl_ild (pc' := 58) rfl e13 rfl ?_
          refine wl_ald_n (pc' := 59) rfl e11 rfl ?_
          refine wl_cv (As := [.ref 17, .int x5, .ref 23]) (r := [.int x4, .ref 22]) (pc' := 62) rfl rfl rfl k ?_
          rintro _ m16 ⟨w17, rfl, k⟩
          show sm_wp (d + 1) 51 62 lv6 [.long w17, .int x4, .ref 22] (hp m16) (WQ K)
          obtain ⟨k18, k⟩ := k
          refine wl_lastore (g := m16.B 22) (pc' := 63) (h2 := hp (m16.uB 22 ((m16.B 22).set (ix x4) w17))) rfl (hq_22 _) k18 rfl (pa_22 _ _) ?_
          refine wl_iinc (pc' := 66) (v := x4 + nI 1) rfl e12 rfl rfl rfl (fun lv19 e20 f21 => ?_)
          have e22 := f21 0 _ e9 (by decide) rfl
          have e23 := f21 2 _ e10 (by decide) rfl
          have e24 := f21 3 _ e11 (by decide) rfl
          have e25 := f21 5 _ e13 (by decide) rfl
          have e26 := f21 6 _ e7 (by decide) rfl
          refine wp_p (pc' := 161) (lv' := lv19) (st' := []) rfl rfl ?_
          exact k _ ⟨e22, e23, e24, e20, e25, trivial⟩
set_option maxRecDepth 20000 in
theorem sg_51_167 {d : Nat} {m : Mm} {K : Option Value → Mm → Prop} (x4 : Int32) (k : (if x4 ≤ (nI 0) then K (some (.long 1099511627776)) m else ok (m.B 22).length (nI 0) ∧ K (some (.long ((m.B 22).getD (ix (nI 0)) 0))) m)) : WH d 51 167 [(0, .ref 17), (4, .int x4)] [] m K := by
  intro lv0 el
  obtain ⟨e_0, e_4, _⟩ := el
  refine wl_ild (pc' := 169) rfl e_4 rfl ?_
  refine wp_if_le (pc' := 172) rfl rfl (fun c1 => ?_) (fun c1 => ?_)
  · replace k := it_t (c := x4 ≤ (nI 0)) c1 k
    refine wp_p (pc' := 184) (lv' := lv0) (st' := [.long 1099511627776]) rfl rfl ?_
    exact wp_r rfl rfl ⟨_, rfl, k⟩
  · replace k := it_f (c := x4 ≤ (nI 0)) c1 k
    refine wl_ald_n (pc' := 173) rfl e_0 rfl ?_
    refine wp_get (v := .ref 22) (pc' := 176) rfl (hq_17 _) rfl rfl ?_
    refine wp_p (pc' := 177) (lv' := lv0) (st' := [.int (nI 0), .ref 22]) rfl rfl ?_
    obtain ⟨k2, k⟩ := k
    refine wl_laload (g := m.B 22) (pc' := 178) rfl (hq_22 _) k2 rfl ?_
    refine wp_p (pc' := 184) (lv' := lv0) (st' := [.long ((m.B 22).getD (ix (nI 0)) 0)]) rfl rfl ?_
    exact wp_r rfl rfl ⟨_, rfl, k⟩
set_option maxRecDepth 20000 in
theorem sg_51_69 {d : Nat} {m : Mm} {K : Option Value → Mm → Prop} (x2 : Int32) (x4 : Int32) (x5 : Int32) (x6 : Int32) (k : (if x6 = (nI 1) then (if x4 ≤ (nI 0) then WH (d + 1) 51 111 [(0, .ref 17), (2, .int x2), (3, .ref 23), (4, .int x4), (5, .int x5), (6, .int x6)] [] m K else ok (m.A 18).length x5 ∧ ok (m.B 22).length (x4 - (nI 1)) ∧ WP d 54 [.int ((m.A 18).getD (ix x5) 0), .long ((m.B 22).getD (ix (x4 - (nI 1))) 0)] m (fun v m5 => ∃ w6, v = some (.long w6) ∧ ok (m5.B 22).length (x4 - (nI 1)) ∧ WH (d + 1) 51 161 [(0, .ref 17), (2, .int x2), (3, .ref 23), (4, .int x4), (5, .int x5)] [] (m5.uB 22 ((m5.B 22).set (ix (x4 - (nI 1))) w6)) K)) else WH (d + 1) 51 111 [(0, .ref 17), (2, .int x2), (3, .ref 23), (4, .int x4), (5, .int x5), (6, .int x6)] [] m K)) : WH (d + 1) 51 69 [(0, .ref 17), (2, .int x2), (3, .ref 23), (4, .int x4), (5, .int x5), (6, .int x6)] [] m K := by
  intro lv0 el
  obtain ⟨e_0, e_2, e_3, e_4, e_5, e_6, _⟩ := el
  refine wl_ild (pc' := 71) rfl e_6 rfl ?_
  refine wp_p (pc' := 72) (lv' := lv0) (st' := [.int (nI 1), .int x6]) rfl rfl ?_
  refine wp_ic_ne (pc' := 75) rfl rfl (fun c1 => ?_) (fun c1 => ?_)
  · replace k := it_f (c := x6 = (nI 1)) c1 k
    exact k _ ⟨e_0, e_2, e_3, e_4, e_5, e_6, trivial⟩
  · replace k := it_t (c := x6 = (nI 1)) c1 k
    refine wl_ild (pc' := 77) rfl e_4 rfl ?_
    refine wp_if_le (pc' := 80) rfl rfl (fun c2 => ?_) (fun c2 => ?_)
    · replace k := it_t (c := x4 ≤ (nI 0)) c2 k
      exact k _ ⟨e_0, e_2, e_3, e_4, e_5, e_6, trivial⟩
    · replace k := it_f (c := x4 ≤ (nI 0)) c2 k
      refine wl_ald_n (pc' := 81) rfl e_0 rfl ?_
      refine wp_get (v := .ref 22) (pc' := 84) rfl (hq_17 _) rfl rfl ?_
      refine wl_ild (pc' := 86) rfl e_4 rfl ?_
      refine wp_p (pc' := 87) (lv' := lv0) (st' := [.int (nI 1), .int x4, .ref 22]) rfl rfl ?_
      refine wp_isub (v := x4 - (nI 1)) (pc' := 88) rfl rfl rfl ?_
      refine wl_ald_n (pc' := 89) rfl e_0 rfl ?_
      refine wp_get (v := .ref 18) (pc' := 92) rfl (hq_17 _) rfl rfl ?_
      refine wl_ild (pc' := 94) rfl e_5 rfl ?_
      obtain ⟨k3, k⟩ := k
      refine wl_iaload (g := m.A 18) (pc' := 95) rfl (hq_18 _) k3 rfl ?_
      refine wl_ald_n (pc' := 96) rfl e_0 rfl ?_
      refine wp_get (v := .ref 22) (pc' := 99) rfl (hq_17 _) rfl rfl ?_
      refine wl_ild (pc' := 101) rfl e_4 rfl ?_
      refine wp_p (pc' := 102) (lv' := lv0) (st' := [.int (nI 1), .int x4, .ref 22, .int ((m.A 18).getD (ix x5) 0), .int (x4 - (nI 1)), .ref 22]) rfl rfl ?_
      refine wp_isub (v := x4 - (nI 1)) (pc' := 103) rfl rfl rfl ?_
      obtain ⟨k4, k⟩ := k
      refine wl_laload (g := m.B 22) (pc' := 104) rfl (hq_22 _) k4 rfl ?_
      refine wl_cs (As := [.int ((m.A 18).getD (ix x5) 0), .long ((m.B 22).getD (ix (x4 - (nI 1))) 0)]) (r := [.int (x4 - (nI 1)), .ref 22]) (pc' := 107) rfl rfl rfl rfl k ?_
      rintro _ m5 ⟨w6, rfl, k⟩
      show sm_wp (d + 1) 51 107 lv0 [.long w6, .int (x4 - (nI 1)), .ref 22] (hp m5) (WQ K)
      obtain ⟨k7, k⟩ := k
      refine wl_lastore (g := m5.B 22) (pc' := 108) (h2 := hp (m5.uB 22 ((m5.B 22).set (ix (x4 - (nI 1))) w6))) rfl (hq_22 _) k7 rfl (pa_22 _ _) ?_
      refine wp_p (pc' := 161) (lv' := lv0) (st' := []) rfl rfl ?_
      exact k _ ⟨e_0, e_2, e_3, e_4, e_5, trivial⟩
set_option maxRecDepth 20000 in
theorem sg_51_161 {d : Nat} {m : Mm} {K : Option Value → Mm → Prop} (x2 : Int32) (x4 : Int32) (x5 : Int32) (k : WH d 51 10 [(0, .ref 17), (2, .int x2), (3, .ref 23), (4, .int x4), (5, .int (x5 + nI 1))] [] m K) : WH d 51 161 [(0, .ref 17), (2, .int x2), (3, .ref 23), (4, .int x4), (5, .int x5)] [] m K := by
  intro lv0 el
  obtain ⟨e_0, e_2, e_3, e_4, e_5, _⟩ := el
  refine wl_iinc (pc' := 164) (v := x5 + nI 1) rfl e_5 rfl rfl rfl (fun lv1 e2 f3 => ?_)
  have e4 := f3 0 _ e_0 (by decide) rfl
  have e5 := f3 2 _ e_2 (by decide) rfl
  have e6 := f3 3 _ e_3 (by decide) rfl
  have e7 := f3 4 _ e_4 (by decide) rfl
  refine wp_p (pc' := 10) (lv' := lv1) (st' := []) rfl rfl ?_
  exact k _ ⟨e4, e5, e6, e7, e2, trivial⟩
set_option maxRecDepth 20000 in
theorem sg_51_111 {d : Nat} {m : Mm} {K : Option Value → Mm → Prop} (x2 : Int32) (x4 : Int32) (x5 : Int32) (x6 : Int32) (k : (if x6 = (nI 2) then (if x4 ≤ (nI 1) then WH (d + 1) 51 161 [(0, .ref 17), (2, .int x2), (3, .ref 23), (4, .int x4), (5, .int x5)] [] m K else ok (m.A 18).length x5 ∧ ok (m.B 22).length ((x4 + (-1)) - (nI 1)) ∧ ok (m.B 22).length (x4 + (-1)) ∧ WP d 55 [.int ((m.A 18).getD (ix x5) 0), .long ((m.B 22).getD (ix ((x4 + (-1)) - (nI 1))) 0), .long ((m.B 22).getD (ix (x4 + (-1))) 0)] m (fun v m14 => ∃ w15, v = some (.long w15) ∧ ok (m14.B 22).length ((x4 + (-1)) - (nI 1)) ∧ WH (d + 1) 51 161 [(0, .ref 17), (2, .int x2), (3, .ref 23), (4, .int (x4 + (-1))), (5, .int x5)] [] (m14.uB 22 ((m14.B 22).set (ix ((x4 + (-1)) - (nI 1))) w15)) K)) else WH (d + 1) 51 161 [(0, .ref 17), (2, .int x2), (3, .ref 23), (4, .int x4), (5, .int x5)] [] m K)) : WH (d + 1) 51 111 [(0, .ref 17), (2, .int x2), (3, .ref 23), (4, .int x4), (5, .int x5), (6, .int x6)] [] m K := by
  intro lv0 el
  obtain ⟨e_0, e_2, e_3, e_4, e_5, e_6, _⟩ := el
  refine wl_ild (pc' := 113) rfl e_6 rfl ?_
  refine wp_p (pc' := 114) (lv' := lv0) (st' := [.int (nI 2), .int x6]) rfl rfl ?_
  refine wp_ic_ne (pc' := 117) rfl rfl (fun c1 => ?_) (fun c1 => ?_)
  · replace k := it_f (c := x6 = (nI 2)) c1 k
    exact k _ ⟨e_0, e_2, e_3, e_4, e_5, trivial⟩
  · replace k := it_t (c := x6 = (nI 2)) c1 k
    refine wl_ild (pc' := 119) rfl e_4 rfl ?_
    refine wp_p (pc' := 120) (lv' := lv0) (st' := [.int (nI 1), .int x4]) rfl rfl ?_
    refine wp_ic_le (pc' := 123) rfl rfl (fun c2 => ?_) (fun c2 => ?_)
    · replace k := it_t (c := x4 ≤ (nI 1)) c2 k
      exact k _ ⟨e_0, e_2, e_3, e_4, e_5, trivial⟩
    · replace k := it_f (c := x4 ≤ (nI 1)) c2 k
      refine wl_iinc (pc' := 126) (v := x4 + (-1)) rfl e_4 rfl rfl rfl (fun lv3 e4 f5 => ?_)
      have e6 := f5 0 _ e_0 (by decide) rfl
      have e7 := f5 2 _ e_2 (by decide) rfl
      have e8 := f5 3 _ e_3 (by decide) rfl
      have e9 := f5 5 _ e_5 (by decide) rfl
      have e10 := f5 6 _ e_6 (by decide) rfl
      refine wl_ald_n (pc' := 127) rfl e6 rfl ?_
      refine wp_get (v := .ref 22) (pc' := 130) rfl (hq_17 _) rfl rfl ?_
      refine wl_ild (pc' := 132) rfl e4 rfl ?_
      refine wp_p (pc' := 133) (lv' := lv3) (st' := [.int (nI 1), .int (x4 + (-1)), .ref 22]) rfl rfl ?_
      refine wp_isub (v := (x4 + (-1)) - (nI 1)) (pc' := 134) rfl rfl rfl ?_
      refine wl_ald_n (pc' := 135) rfl e6 rfl ?_
      refine wp_get (v := .ref 18) (pc' := 138) rfl (hq_17 _) rfl rfl ?_
      refine wl_ild (pc' := 140) rfl e9 rfl ?_
      obtain ⟨k11, k⟩ := k
      refine wl_iaload (g := m.A 18) (pc' := 141) rfl (hq_18 _) k11 rfl ?_
      refine wl_ald_n (pc' := 142) rfl e6 rfl ?_
      refine wp_get (v := .ref 22) (pc' := 145) rfl (hq_17 _) rfl rfl ?_
      refine wl_ild (pc' := 147) rfl e4 rfl ?_
      refine wp_p (pc' := 148) (lv' := lv3) (st' := [.int (nI 1), .int (x4 + (-1)), .ref 22, .int ((m.A 18).getD (ix x5) 0), .int ((x4 + (-1)) - (nI 1)), .ref 22]) rfl rfl ?_
      refine wp_isub (v := (x4 + (-1)) - (nI 1)) (pc' := 149) rfl rfl rfl ?_
      obtain ⟨k12, k⟩ := k
      refine wl_laload (g := m.B 22) (pc' := 150) rfl (hq_22 _) k12 rfl ?_
      refine wl_ald_n (pc' := 151) rfl e6 rfl ?_
      refine wp_get (v := .ref 22) (pc' := 154) rfl (hq_17 _) rfl rfl ?_
      refine wl_ild (pc' := 156) rfl e4 rfl ?_
      obtain ⟨k13, k⟩ := k
      refine wl_laload (g := m.B 22) (pc' := 157) rfl (hq_22 _) k13 rfl ?_
      refine wl_cs (As := [.int ((m.A 18).getD (ix x5) 0), .long ((m.B 22).getD (ix ((x4 + (-1)) - (nI 1))) 0), .long ((m.B 22).getD (ix (x4 + (-1))) 0)]) (r := [.int ((x4 + (-1)) - (nI 1)), .ref 22]) (pc' := 160) rfl rfl rfl rfl k ?_
      rintro _ m14 ⟨w15, rfl, k⟩
      show sm_wp (d + 1) 51 160 lv3 [.long w15, .int ((x4 + (-1)) - (nI 1)), .ref 22] (hp m14) (WQ K)
      obtain ⟨k16, k⟩ := k
      refine wl_lastore (g := m14.B 22) (pc' := 161) (h2 := hp (m14.uB 22 ((m14.B 22).set (ix ((x4 + (-1)) - (nI 1))) w15))) rfl (hq_22 _) k16 rfl (pa_22 _ _) ?_
      exact k _ ⟨e6, e7, e8, e4, e9, trivial⟩
/-! 52: QueryTables$Code.operandsOf -/
set_option maxRecDepth 20000 in
theorem sp_52 {d : Nat} {m : Mm} {K : Option Value → Mm → Prop} (x0 : Int32) (k : (if x0 = nI 2 then K (some (.int (nI 0))) m else (if x0 = nI 3 then K (some (.int (nI 0))) m else (if x0 = nI 15 then K (some (.int (nI 0))) m else (if x0 = nI 18 then K (some (.int (nI 1))) m else (if x0 = nI 30 then K (some (.int (nI 1))) m else (if x0 = nI 31 then K (some (.int (nI 1))) m else K (some (.int (nI 2))) m))))))) : WP d 52 [.int x0] m K := by
  have e_0 : sm_lk (lv_args 0 [.int x0]) 0 = some (.int x0) := rfl
  show sm_wp d 52 0 (lv_args 0 [.int x0]) [] (hp m) (WQ K)
  generalize lv_args 0 [.int x0] = lv0 at *
  refine wl_ild_n (pc' := 1) rfl e_0 rfl ?_
  by_cases c1 : x0 = nI 2
  · replace k := it_t (c := x0 = nI 2) c1 k
    refine wl_sw (pc' := 60) (r := []) c1 rfl rfl ?_
    refine wp_p (pc' := 61) (lv' := lv0) (st' := [.int (nI 0)]) rfl rfl ?_
    exact wl_ret rfl rfl ⟨_, rfl, k⟩
  replace k := it_f (c := x0 = nI 2) c1 k
  by_cases c2 : x0 = nI 3
  · replace k := it_t (c := x0 = nI 3) c2 k
    refine wl_sw (pc' := 60) (r := []) c2 rfl rfl ?_
    refine wp_p (pc' := 61) (lv' := lv0) (st' := [.int (nI 0)]) rfl rfl ?_
    exact wl_ret rfl rfl ⟨_, rfl, k⟩
  replace k := it_f (c := x0 = nI 3) c2 k
  by_cases c3 : x0 = nI 15
  · replace k := it_t (c := x0 = nI 15) c3 k
    refine wl_sw (pc' := 60) (r := []) c3 rfl rfl ?_
    refine wp_p (pc' := 61) (lv' := lv0) (st' := [.int (nI 0)]) rfl rfl ?_
    exact wl_ret rfl rfl ⟨_, rfl, k⟩
  replace k := it_f (c := x0 = nI 15) c3 k
  by_cases c4 : x0 = nI 18
  · replace k := it_t (c := x0 = nI 18) c4 k
    refine wl_sw (pc' := 62) (r := []) c4 rfl rfl ?_
    refine wp_p (pc' := 63) (lv' := lv0) (st' := [.int (nI 1)]) rfl rfl ?_
    exact wl_ret rfl rfl ⟨_, rfl, k⟩
  replace k := it_f (c := x0 = nI 18) c4 k
  by_cases c5 : x0 = nI 30
  · replace k := it_t (c := x0 = nI 30) c5 k
    refine wl_sw (pc' := 62) (r := []) c5 rfl rfl ?_
    refine wp_p (pc' := 63) (lv' := lv0) (st' := [.int (nI 1)]) rfl rfl ?_
    exact wl_ret rfl rfl ⟨_, rfl, k⟩
  replace k := it_f (c := x0 = nI 30) c5 k
  by_cases c6 : x0 = nI 31
  · replace k := it_t (c := x0 = nI 31) c6 k
    refine wl_sw (pc' := 62) (r := []) c6 rfl rfl ?_
    refine wp_p (pc' := 63) (lv' := lv0) (st' := [.int (nI 1)]) rfl rfl ?_
    exact wl_ret rfl rfl ⟨_, rfl, k⟩
  replace k := it_f (c := x0 = nI 31) c6 k
  have nc1 := sw_ne (n := 2) (by decide) c1
  have nc2 := sw_ne (n := 3) (by decide) c2
  have nc3 := sw_ne (n := 15) (by decide) c3
  have nc4 := sw_ne (n := 18) (by decide) c4
  have nc5 := sw_ne (n := 30) (by decide) c5
  have nc6 := sw_ne (n := 31) (by decide) c6
  refine wl_ld (pc' := 64) (o := 63) (r := []) rfl (by simp only [lookupswitch.offset]; rw [if_neg (fun q => nc1 q.symm)]; rw [if_neg (fun q => nc2 q.symm)]; rw [if_neg (fun q => nc3 q.symm)]; rw [if_neg (fun q => nc4 q.symm)]; rw [if_neg (fun q => nc5 q.symm)]; rw [if_neg (fun q => nc6 q.symm)]) rfl ?_
  refine wp_p (pc' := 65) (lv' := lv0) (st' := [.int (nI 2)]) rfl rfl ?_
  exact wl_ret rfl rfl ⟨_, rfl, k⟩
/-! 53: QueryTables$Code.leaf -/
set_option maxRecDepth 20000 in
theorem sp_53 {d : Nat} {m : Mm} {K : Option Value → Mm → Prop} (x1 : Int32) (k : ok (m.A 18).length x1 ∧ (if ((m.A 18).getD (ix x1) 0) = (nI 3) then ok (m.A 21).length x1 ∧ WP d 41 [.ref 23, .int ((m.A 21).getD (ix x1) 0)] m (fun v m7 => ∃ w8, v = some (.ref w8) ∧ tbl w8 ∧ ok (m7.A 21).length x1 ∧ WP d 42 [.ref 23, .int ((m7.A 21).getD (ix x1) 0)] m7 (fun v m11 => ∃ w12, v = some (.int w12) ∧ ok (m11.A 19).length x1 ∧ WP d 29 [.ref w8, .int w12, .int ((m11.A 19).getD (ix x1) 0)] m11 (fun v m14 => ∃ w15, v = some (.long w15) ∧ K (some (.long w15)) m14))) else ok (m.A 18).length x1 ∧ (if ((m.A 18).getD (ix x1) 0) = (nI 2) then ok (m.A 19).length x1 ∧ K (some (.long (((m.A 19).getD (ix x1) 0).toInt64))) m else K (some (.long 1099511627776)) m))) : WP (d + 1) 53 [.ref 17, .int x1, .ref 23] m K := by
  have e_0 : sm_lk (lv_args 0 [.ref 17, .int x1, .ref 23]) 0 = some (.ref 17) := rfl
  have e_1 : sm_lk (lv_args 0 [.ref 17, .int x1, .ref 23]) 1 = some (.int x1) := rfl
  have e_2 : sm_lk (lv_args 0 [.ref 17, .int x1, .ref 23]) 2 = some (.ref 23) := rfl
  show sm_wp (d + 1) 53 0 (lv_args 0 [.ref 17, .int x1, .ref 23]) [] (hp m) (WQ K)
  generalize lv_args 0 [.ref 17, .int x1, .ref 23] = lv0 at *
  refine wl_ald_n (pc' := 1) rfl e_0 rfl ?_
  refine wp_get (v := .ref 18) (pc' := 4) rfl (hq_17 _) rfl rfl ?_
  refine wl_ild_n (pc' := 5) rfl e_1 rfl ?_
  obtain ⟨k1, k⟩ := k
  refine wl_iaload (g := m.A 18) (pc' := 6) rfl (hq_18 _) k1 rfl ?_
  refine wp_p (pc' := 7) (lv' := lv0) (st' := [.int (nI 3), .int ((m.A 18).getD (ix x1) 0)]) rfl rfl ?_
  refine wp_ic_ne (pc' := 10) rfl rfl (fun c2 => ?_) (fun c2 => ?_)
  · replace k := it_f (c := ((m.A 18).getD (ix x1) 0) = (nI 3)) c2 k
    refine wl_ald_n (pc' := 41) rfl e_0 rfl ?_
    refine wp_get (v := .ref 18) (pc' := 44) rfl (hq_17 _) rfl rfl ?_
    refine wl_ild_n (pc' := 45) rfl e_1 rfl ?_
    obtain ⟨k3, k⟩ := k
    refine wl_iaload (g := m.A 18) (pc' := 46) rfl (hq_18 _) k3 rfl ?_
    refine wp_p (pc' := 47) (lv' := lv0) (st' := [.int (nI 2), .int ((m.A 18).getD (ix x1) 0)]) rfl rfl ?_
    refine wp_ic_ne (pc' := 50) rfl rfl (fun c4 => ?_) (fun c4 => ?_)
    · replace k := it_f (c := ((m.A 18).getD (ix x1) 0) = (nI 2)) c4 k
      refine wp_p (pc' := 63) (lv' := lv0) (st' := [.long 1099511627776]) rfl rfl ?_
      exact wp_r rfl rfl ⟨_, rfl, k⟩
    · replace k := it_t (c := ((m.A 18).getD (ix x1) 0) = (nI 2)) c4 k
      refine wl_ald_n (pc' := 51) rfl e_0 rfl ?_
      refine wp_get (v := .ref 19) (pc' := 54) rfl (hq_17 _) rfl rfl ?_
      refine wl_ild_n (pc' := 55) rfl e_1 rfl ?_
      obtain ⟨k5, k⟩ := k
      refine wl_iaload (g := m.A 19) (pc' := 56) rfl (hq_19 _) k5 rfl ?_
      refine wp_i2l (v := ((m.A 19).getD (ix x1) 0).toInt64) (pc' := 57) rfl rfl rfl ?_
      refine wp_p (pc' := 63) (lv' := lv0) (st' := [.long (((m.A 19).getD (ix x1) 0).toInt64)]) rfl rfl ?_
      exact wp_r rfl rfl ⟨_, rfl, k⟩
  · replace k := it_t (c := ((m.A 18).getD (ix x1) 0) = (nI 3)) c2 k
    refine wl_ald_n (pc' := 11) rfl e_2 rfl ?_
    refine wl_ald_n (pc' := 12) rfl e_0 rfl ?_
    refine wp_get (v := .ref 21) (pc' := 15) rfl (hq_17 _) rfl rfl ?_
    refine wl_ild_n (pc' := 16) rfl e_1 rfl ?_
    obtain ⟨k6, k⟩ := k
    refine wl_iaload (g := m.A 21) (pc' := 17) rfl (hq_21 _) k6 rfl ?_
    refine wl_cv (As := [.ref 23, .int ((m.A 21).getD (ix x1) 0)]) (r := []) (pc' := 20) rfl rfl rfl k ?_
    rintro _ m7 ⟨w8, rfl, k9, k⟩
    show sm_wp (d + 1) 53 20 lv0 [.ref w8] (hp m7) (WQ K)
    refine wl_ald_n (pc' := 21) rfl e_2 rfl ?_
    refine wl_ald_n (pc' := 22) rfl e_0 rfl ?_
    refine wp_get (v := .ref 21) (pc' := 25) rfl (hq_17 _) rfl rfl ?_
    refine wl_ild_n (pc' := 26) rfl e_1 rfl ?_
    obtain ⟨k10, k⟩ := k
    refine wl_iaload (g := m7.A 21) (pc' := 27) rfl (hq_21 _) k10 rfl ?_
    refine wl_cv (As := [.ref 23, .int ((m7.A 21).getD (ix x1) 0)]) (r := [.ref w8]) (pc' := 30) rfl rfl rfl k ?_
    rintro _ m11 ⟨w12, rfl, k⟩
    show sm_wp (d + 1) 53 30 lv0 [.int w12, .ref w8] (hp m11) (WQ K)
    refine wl_ald_n (pc' := 31) rfl e_0 rfl ?_
    refine wp_get (v := .ref 19) (pc' := 34) rfl (hq_17 _) rfl rfl ?_
    refine wl_ild_n (pc' := 35) rfl e_1 rfl ?_
    obtain ⟨k13, k⟩ := k
    refine wl_iaload (g := m11.A 19) (pc' := 36) rfl (hq_19 _) k13 rfl ?_
    refine wl_cv (As := [.ref w8, .int w12, .int ((m11.A 19).getD (ix x1) 0)]) (r := []) (pc' := 39) rfl (sm_inv_tbl k9 _ rfl rfl rfl) rfl k ?_
    rintro _ m14 ⟨w15, rfl, k⟩
    show sm_wp (d + 1) 53 39 lv0 [.long w15] (hp m14) (WQ K)
    exact wp_r rfl rfl ⟨_, rfl, k⟩
/-! 54: QueryTables$Code.turned -/
set_option maxRecDepth 20000 in
theorem sp_54 {d : Nat} {m : Mm} {K : Option Value → Mm → Prop} (x0 : Int32) (y1 : Int64) (k : (if x0 = nI 30 then (if (lg_cmp y1 1099511627776) = (nI 0) then K (some (.long 1099511627776)) m else K (some (.long ((-y1.toInt32).toInt64))) m) else (if x0 = nI 31 then (if (lg_cmp y1 1099511627776) = (nI 0) then K (some (.long 2)) m else K (some (.long 0)) m) else K (some (.long (2 - y1))) m))) : WP d 54 [.int x0, .long y1] m K := by
  have e_0 : sm_lk (lv_args 0 [.int x0, .long y1]) 0 = some (.int x0) := rfl
  have e_1 : sm_lk (lv_args 0 [.int x0, .long y1]) 1 = some (.long y1) := rfl
  show sm_wp d 54 0 (lv_args 0 [.int x0, .long y1]) [] (hp m) (WQ K)
  generalize lv_args 0 [.int x0, .long y1] = lv0 at *
  refine wl_ild_n (pc' := 1) rfl e_0 rfl ?_
  by_cases c1 : x0 = nI 30
  · replace k := it_t (c := x0 = nI 30) c1 k
    refine wl_sw (pc' := 28) (r := []) c1 rfl rfl ?_
    refine wl_lld_n (pc' := 29) rfl e_1 rfl ?_
    refine wp_p (pc' := 32) (lv' := lv0) (st' := [.long 1099511627776, .long y1]) rfl rfl ?_
    refine wp_lcmp (v := lg_cmp y1 1099511627776) (pc' := 33) rfl rfl rfl ?_
    refine wp_if_ne (pc' := 36) rfl rfl (fun c2 => ?_) (fun c2 => ?_)
    · replace k := it_f (c := (lg_cmp y1 1099511627776) = (nI 0)) c2 k
      refine wl_lld_n (pc' := 43) rfl e_1 rfl ?_
      refine wp_l2i (v := y1.toInt32) (pc' := 44) rfl rfl rfl ?_
      refine wp_ineg (v := -y1.toInt32) (pc' := 45) rfl rfl rfl ?_
      refine wp_i2l (v := (-y1.toInt32).toInt64) (pc' := 46) rfl rfl rfl ?_
      exact wp_r rfl rfl ⟨_, rfl, k⟩
    · replace k := it_t (c := (lg_cmp y1 1099511627776) = (nI 0)) c2 k
      refine wp_p (pc' := 39) (lv' := lv0) (st' := [.long 1099511627776]) rfl rfl ?_
      refine wp_p (pc' := 46) (lv' := lv0) (st' := [.long 1099511627776]) rfl rfl ?_
      exact wp_r rfl rfl ⟨_, rfl, k⟩
  replace k := it_f (c := x0 = nI 30) c1 k
  by_cases c3 : x0 = nI 31
  · replace k := it_t (c := x0 = nI 31) c3 k
    refine wl_sw (pc' := 47) (r := []) c3 rfl rfl ?_
    refine wl_lld_n (pc' := 48) rfl e_1 rfl ?_
    refine wp_p (pc' := 51) (lv' := lv0) (st' := [.long 1099511627776, .long y1]) rfl rfl ?_
    refine wp_lcmp (v := lg_cmp y1 1099511627776) (pc' := 52) rfl rfl rfl ?_
    refine wp_if_ne (pc' := 55) rfl rfl (fun c4 => ?_) (fun c4 => ?_)
    · replace k := it_f (c := (lg_cmp y1 1099511627776) = (nI 0)) c4 k
      refine wp_p (pc' := 62) (lv' := lv0) (st' := [.long 0]) rfl rfl ?_
      exact wp_r rfl rfl ⟨_, rfl, k⟩
    · replace k := it_t (c := (lg_cmp y1 1099511627776) = (nI 0)) c4 k
      refine wp_p (pc' := 58) (lv' := lv0) (st' := [.long 2]) rfl rfl ?_
      refine wp_p (pc' := 62) (lv' := lv0) (st' := [.long 2]) rfl rfl ?_
      exact wp_r rfl rfl ⟨_, rfl, k⟩
  replace k := it_f (c := x0 = nI 31) c3 k
  have nc1 := sw_ne (n := 30) (by decide) c1
  have nc3 := sw_ne (n := 31) (by decide) c3
  refine wl_ld (pc' := 63) (o := 62) (r := []) rfl (by simp only [lookupswitch.offset]; rw [if_neg (fun q => nc1 q.symm)]; rw [if_neg (fun q => nc3 q.symm)]) rfl ?_
  refine wp_p (pc' := 66) (lv' := lv0) (st' := [.long 2]) rfl rfl ?_
  refine wl_lld_n (pc' := 67) rfl e_1 rfl ?_
  refine wp_lsub (v := 2 - y1) (pc' := 68) rfl rfl rfl ?_
  exact wp_r rfl rfl ⟨_, rfl, k⟩
