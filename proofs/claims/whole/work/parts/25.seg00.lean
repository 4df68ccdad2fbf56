/-! SEGMENTS of the methods 2 to 28 (by program, wip/whole/gen25.py): what must hold of a way from one place to the next -/
/-! 2: QueryTables.type -/
set_option maxRecDepth 20000 in
theorem sp_2 {d : Nat} {m : Mm} {K : Option Value → Mm → Prop} (x1 : Int32) (k : (if x1 < (nI 32) then K (some (.int (nI 0))) m else (if (nI 126) < x1 then K (some (.int (nI 0))) m else (if (m.F 0 10) < (nI 80) then ok (m.A 1).length (m.F 0 10) ∧ K (some (.int (nI 1))) ((m.uA 1 ((m.A 1).set (ix (m.F 0 10)) (vp_nar .char x1))).uF 0 10 ((m.F 0 10) + (nI 1))) else K (some (.int (nI 0))) m)))) : WP d 2 [.ref 0, .int x1] m K := by
  have e_0 : sm_lk (lv_args 0 [.ref 0, .int x1]) 0 = some (.ref 0) := rfl
  have e_1 : sm_lk (lv_args 0 [.ref 0, .int x1]) 1 = some (.int x1) := rfl
  show sm_wp d 2 0 (lv_args 0 [.ref 0, .int x1]) [] (hp m) (WQ K)
  generalize lv_args 0 [.ref 0, .int x1] = lv0 at *
  refine wl_ild_n (pc' := 1) rfl e_1 rfl ?_
  refine wp_p (pc' := 3) (lv' := lv0) (st' := [.int (nI 32), .int x1]) rfl rfl ?_
  refine wp_ic_lt (pc' := 6) rfl rfl (fun c1 => ?_) (fun c1 => ?_)
  · replace k := it_t (c := x1 < (nI 32)) c1 k
    refine wp_p (pc' := 22) (lv' := lv0) (st' := [.int (nI 0)]) rfl rfl ?_
    exact wl_ret rfl rfl ⟨_, rfl, k⟩
  · replace k := it_f (c := x1 < (nI 32)) c1 k
    refine wl_ild_n (pc' := 7) rfl e_1 rfl ?_
    refine wp_p (pc' := 9) (lv' := lv0) (st' := [.int (nI 126), .int x1]) rfl rfl ?_
    refine wp_ic_gt (pc' := 12) rfl rfl (fun c2 => ?_) (fun c2 => ?_)
    · replace k := it_t (c := (nI 126) < x1) c2 k
      refine wp_p (pc' := 22) (lv' := lv0) (st' := [.int (nI 0)]) rfl rfl ?_
      exact wl_ret rfl rfl ⟨_, rfl, k⟩
    · replace k := it_f (c := (nI 126) < x1) c2 k
      refine wl_ald_n (pc' := 13) rfl e_0 rfl ?_
      refine wp_get (v := .int (m.F 0 10)) (pc' := 16) rfl (hq_0 _) rfl rfl ?_
      refine wp_p (pc' := 18) (lv' := lv0) (st' := [.int (nI 80), .int (m.F 0 10)]) rfl rfl ?_
      refine wp_ic_lt (pc' := 21) rfl rfl (fun c3 => ?_) (fun c3 => ?_)
      · replace k := it_t (c := (m.F 0 10) < (nI 80)) c3 k
        refine wl_ald_n (pc' := 24) rfl e_0 rfl ?_
        refine wp_get (v := .ref 1) (pc' := 27) rfl (hq_0 _) rfl rfl ?_
        refine wl_ald_n (pc' := 28) rfl e_0 rfl ?_
        refine wp_get (v := .int (m.F 0 10)) (pc' := 31) rfl (hq_0 _) rfl rfl ?_
        refine wl_ild_n (pc' := 32) rfl e_1 rfl ?_
        obtain ⟨k4, k⟩ := k
        refine wl_castore (g := m.A 1) (pc' := 33) (h2 := hp (m.uA 1 ((m.A 1).set (ix (m.F 0 10)) (vp_nar .char x1)))) rfl (hq_1 _) k4 rfl (pa_1 _ _) ?_
        refine wl_ald_n (pc' := 34) rfl e_0 rfl ?_
        refine wp_p (pc' := 35) (lv' := lv0) (st' := [.ref 0, .ref 0]) rfl rfl ?_
        refine wp_get (v := .int (m.F 0 10)) (pc' := 38) rfl (hq_0 _) rfl rfl ?_
        refine wp_p (pc' := 39) (lv' := lv0) (st' := [.int (nI 1), .int (m.F 0 10), .ref 0]) rfl rfl ?_
        refine wp_iadd (v := (m.F 0 10) + (nI 1)) (pc' := 40) rfl rfl rfl ?_
        refine wl_put (pc' := 43) (h2 := hp ((m.uA 1 ((m.A 1).set (ix (m.F 0 10)) (vp_nar .char x1))).uF 0 10 ((m.F 0 10) + (nI 1)))) rfl (hq_0 _) rfl rfl rfl (pf_0_10 _ _) ?_
        refine wp_p (pc' := 44) (lv' := lv0) (st' := [.int (nI 1)]) rfl rfl ?_
        exact wl_ret rfl rfl ⟨_, rfl, k⟩
      · replace k := it_f (c := (m.F 0 10) < (nI 80)) c3 k
        refine wp_p (pc' := 22) (lv' := lv0) (st' := [.int (nI 0)]) rfl rfl ?_
        exact wl_ret rfl rfl ⟨_, rfl, k⟩
/-! 3: QueryTables.erase -/
set_option maxRecDepth 20000 in
theorem sp_3 {d : Nat} {m : Mm} {K : Option Value → Mm → Prop} (k : (if (m.F 0 10) = (nI 0) then K (some (.int (nI 0))) m else K (some (.int (nI 1))) (m.uF 0 10 ((m.F 0 10) - (nI 1))))) : WP d 3 [.ref 0] m K := by
  have e_0 : sm_lk (lv_args 0 [.ref 0]) 0 = some (.ref 0) := rfl
  show sm_wp d 3 0 (lv_args 0 [.ref 0]) [] (hp m) (WQ K)
  generalize lv_args 0 [.ref 0] = lv0 at *
  refine wl_ald_n (pc' := 1) rfl e_0 rfl ?_
  refine wp_get (v := .int (m.F 0 10)) (pc' := 4) rfl (hq_0 _) rfl rfl ?_
  refine wp_if_ne (pc' := 7) rfl rfl (fun c1 => ?_) (fun c1 => ?_)
  · replace k := it_f (c := (m.F 0 10) = (nI 0)) c1 k
    refine wl_ald_n (pc' := 10) rfl e_0 rfl ?_
    refine wp_p (pc' := 11) (lv' := lv0) (st' := [.ref 0, .ref 0]) rfl rfl ?_
    refine wp_get (v := .int (m.F 0 10)) (pc' := 14) rfl (hq_0 _) rfl rfl ?_
    refine wp_p (pc' := 15) (lv' := lv0) (st' := [.int (nI 1), .int (m.F 0 10), .ref 0]) rfl rfl ?_
    refine wp_isub (v := (m.F 0 10) - (nI 1)) (pc' := 16) rfl rfl rfl ?_
    refine wl_put (pc' := 19) (h2 := hp (m.uF 0 10 ((m.F 0 10) - (nI 1)))) rfl (hq_0 _) rfl rfl rfl (pf_0_10 _ _) ?_
    refine wp_p (pc' := 20) (lv' := lv0) (st' := [.int (nI 1)]) rfl rfl ?_
    exact wl_ret rfl rfl ⟨_, rfl, k⟩
  · replace k := it_t (c := (m.F 0 10) = (nI 0)) c1 k
    refine wp_p (pc' := 8) (lv' := lv0) (st' := [.int (nI 0)]) rfl rfl ?_
    exact wl_ret rfl rfl ⟨_, rfl, k⟩
/-! 4: QueryTables.run -/
set_option maxRecDepth 20000 in
theorem sp_4 {d : Nat} {m : Mm} {K : Option Value → Mm → Prop} (k : WP d 17 [.ref 0] m (fun v m1 => v = none ∧ WP d 84 [.ref 25, .ref 1, .int (m1.F 0 10)] m1 (fun v m2 => ∃ w3, v = some (.int w3) ∧ (if w3 = (nI 0) then K (some (.int (nI 1))) (m2.uF 0 10 (nI 0)) else WP d 86 [.ref 25] m2 (fun v m9 => ∃ w10, v = some (.int w10) ∧ (if w10 = (nI 0) then K (some (.int (nI 1))) (m9.uF 0 10 (nI 0)) else WP d 85 [.ref 25] m9 (fun v m16 => ∃ w17, v = some (.int w17) ∧ (if w17 = (nI 0) then K (some (.int (nI 1))) (m16.uF 0 10 (nI 0)) else WP d 18 [.ref 0] (m16.uF 0 10 (nI 0)) (fun v m27 => ∃ w28, v = some (.int w28) ∧ K (some (.int w28)) m27))))))))) : WP (d + 1) 4 [.ref 0] m K := by
  have e_0 : sm_lk (lv_args 0 [.ref 0]) 0 = some (.ref 0) := rfl
  show sm_wp (d + 1) 4 0 (lv_args 0 [.ref 0]) [] (hp m) (WQ K)
  generalize lv_args 0 [.ref 0] = lv0 at *
  refine wl_ald_n (pc' := 1) rfl e_0 rfl ?_
  refine wl_cv (As := [.ref 0]) (r := []) (pc' := 4) rfl rfl rfl k ?_
  rintro _ m1 ⟨rfl, k⟩
  show sm_wp (d + 1) 4 4 lv0 [] (hp m1) (WQ K)
  refine wl_ald_n (pc' := 5) rfl e_0 rfl ?_
  refine wp_get (v := .ref 25) (pc' := 8) rfl (hq_0 _) rfl rfl ?_
  refine wl_ald_n (pc' := 9) rfl e_0 rfl ?_
  refine wp_get (v := .ref 1) (pc' := 12) rfl (hq_0 _) rfl rfl ?_
  refine wl_ald_n (pc' := 13) rfl e_0 rfl ?_
  refine wp_get (v := .int (m1.F 0 10)) (pc' := 16) rfl (hq_0 _) rfl rfl ?_
  refine wl_cv (As := [.ref 25, .ref 1, .int (m1.F 0 10)]) (r := []) (pc' := 19) rfl rfl rfl k ?_
  rintro _ m2 ⟨w3, rfl, k⟩
  show sm_wp (d + 1) 4 19 lv0 [.int w3] (hp m2) (WQ K)
  refine wp_if_eq (pc' := 22) rfl rfl (fun c4 => ?_) (fun c4 => ?_)
  · replace k := it_t (c := w3 = (nI 0)) c4 k
    refine wp_p (pc' := 47) (lv' := lv0) (st' := [.int (nI 0)]) rfl rfl ?_
    refine wl_st1 (pc' := 48) (k0 := 1) (v := .int (nI 0)) (r := []) rfl rfl (fun lv5 e6 f7 => ?_)
    have e8 := f7 0 _ e_0 (by decide) rfl
    refine wl_ald_n (pc' := 49) rfl e8 rfl ?_
    refine wp_p (pc' := 50) (lv' := lv5) (st' := [.int (nI 0), .ref 0]) rfl rfl ?_
    refine wl_put (pc' := 53) (h2 := hp (m2.uF 0 10 (nI 0))) rfl (hq_0 _) rfl rfl rfl (pf_0_10 _ _) ?_
    refine wl_ild_n (pc' := 54) rfl e6 rfl ?_
    refine wp_p (pc' := 64) (lv' := lv5) (st' := []) rfl rfl ?_
    refine wp_p (pc' := 65) (lv' := lv5) (st' := [.int (nI 1)]) rfl rfl ?_
    exact wl_ret rfl rfl ⟨_, rfl, k⟩
  · replace k := it_f (c := w3 = (nI 0)) c4 k
    refine wl_ald_n (pc' := 23) rfl e_0 rfl ?_
    refine wp_get (v := .ref 25) (pc' := 26) rfl (hq_0 _) rfl rfl ?_
    refine wl_cv (As := [.ref 25]) (r := []) (pc' := 29) rfl rfl rfl k ?_
    rintro _ m9 ⟨w10, rfl, k⟩
    show sm_wp (d + 1) 4 29 lv0 [.int w10] (hp m9) (WQ K)
    refine wp_if_eq (pc' := 32) rfl rfl (fun c11 => ?_) (fun c11 => ?_)
    · replace k := it_t (c := w10 = (nI 0)) c11 k
      refine wp_p (pc' := 47) (lv' := lv0) (st' := [.int (nI 0)]) rfl rfl ?_
      refine wl_st1 (pc' := 48) (k0 := 1) (v := .int (nI 0)) (r := []) rfl rfl (fun lv12 e13 f14 => ?_)
      have e15 := f14 0 _ e_0 (by decide) rfl
      refine wl_ald_n (pc' := 49) rfl e15 rfl ?_
      refine wp_p (pc' := 50) (lv' := lv12) (st' := [.int (nI 0), .ref 0]) rfl rfl ?_
      refine wl_put (pc' := 53) (h2 := hp (m9.uF 0 10 (nI 0))) rfl (hq_0 _) rfl rfl rfl (pf_0_10 _ _) ?_
      refine wl_ild_n (pc' := 54) rfl e13 rfl ?_
      refine wp_p (pc' := 64) (lv' := lv12) (st' := []) rfl rfl ?_
      refine wp_p (pc' := 65) (lv' := lv12) (st' := [.int (nI 1)]) rfl rfl ?_
      exact wl_ret rfl rfl ⟨_, rfl, k⟩
    · replace k := it_f (c := w10 = (nI 0)) c11 k
      refine wl_ald_n (pc' := 33) rfl e_0 rfl ?_
      refine wp_get (v := .ref 25) (pc' := 36) rfl (hq_0 _) rfl rfl ?_
      refine wl_cv (As := [.ref 25]) (r := []) (pc' := 39) rfl rfl rfl k ?_
      rintro _ m16 ⟨w17, rfl, k⟩
      show sm_wp (d + 1) 4 39 lv0 [.int w17] (hp m16) (WQ K)
      refine wp_if_eq (pc' := 42) rfl rfl (fun c18 => ?_) (fun c18 => ?_)
      · replace k := it_t (c := w17 = (nI 0)) c18 k
        refine wp_p (pc' := 47) (lv' := lv0) (st' := [.int (nI 0)]) rfl rfl ?_
        refine wl_st1 (pc' := 48) (k0 := 1) (v := .int (nI 0)) (r := []) rfl rfl (fun lv19 e20 f21 => ?_)
        have e22 := f21 0 _ e_0 (by decide) rfl
        refine wl_ald_n (pc' := 49) rfl e22 rfl ?_
        refine wp_p (pc' := 50) (lv' := lv19) (st' := [.int (nI 0), .ref 0]) rfl rfl ?_
        refine wl_put (pc' := 53) (h2 := hp (m16.uF 0 10 (nI 0))) rfl (hq_0 _) rfl rfl rfl (pf_0_10 _ _) ?_
        refine wl_ild_n (pc' := 54) rfl e20 rfl ?_
        refine wp_p (pc' := 64) (lv' := lv19) (st' := []) rfl rfl ?_
        refine wp_p (pc' := 65) (lv' := lv19) (st' := [.int (nI 1)]) rfl rfl ?_
        exact wl_ret rfl rfl ⟨_, rfl, k⟩
      · replace k := it_f (c := w17 = (nI 0)) c18 k
        refine wp_p (pc' := 43) (lv' := lv0) (st' := [.int (nI 1)]) rfl rfl ?_
        refine wp_p (pc' := 47) (lv' := lv0) (st' := [.int (nI 1)]) rfl rfl ?_
        refine wl_st1 (pc' := 48) (k0 := 1) (v := .int (nI 1)) (r := []) rfl rfl (fun lv23 e24 f25 => ?_)
        have e26 := f25 0 _ e_0 (by decide) rfl
        refine wl_ald_n (pc' := 49) rfl e26 rfl ?_
        refine wp_p (pc' := 50) (lv' := lv23) (st' := [.int (nI 0), .ref 0]) rfl rfl ?_
        refine wl_put (pc' := 53) (h2 := hp (m16.uF 0 10 (nI 0))) rfl (hq_0 _) rfl rfl rfl (pf_0_10 _ _) ?_
        refine wl_ild_n (pc' := 54) rfl e24 rfl ?_
        refine wp_p (pc' := 57) (lv' := lv23) (st' := []) rfl rfl ?_
        refine wl_ald_n (pc' := 58) rfl e26 rfl ?_
        refine wl_cv (As := [.ref 0]) (r := []) (pc' := 61) rfl rfl rfl k ?_
        rintro _ m27 ⟨w28, rfl, k⟩
        show sm_wp (d + 1) 4 61 lv23 [.int w28] (hp m27) (WQ K)
        refine wp_p (pc' := 65) (lv' := lv23) (st' := [.int w28]) rfl rfl ?_
        exact wl_ret rfl rfl ⟨_, rfl, k⟩
/-! 5: QueryTables.length -/
set_option maxRecDepth 20000 in
theorem sp_5 {d : Nat} {m : Mm} {K : Option Value → Mm → Prop} (k : K (some (.int (m.F 0 10))) m) : WP d 5 [.ref 0] m K := by
  have e_0 : sm_lk (lv_args 0 [.ref 0]) 0 = some (.ref 0) := rfl
  show sm_wp d 5 0 (lv_args 0 [.ref 0]) [] (hp m) (WQ K)
  generalize lv_args 0 [.ref 0] = lv0 at *
  refine wl_ald_n (pc' := 1) rfl e_0 rfl ?_
  refine wp_get (v := .int (m.F 0 10)) (pc' := 4) rfl (hq_0 _) rfl rfl ?_
  exact wl_ret rfl rfl ⟨_, rfl, k⟩
/-! 6: QueryTables.rows -/
set_option maxRecDepth 20000 in
theorem sp_6 {d : Nat} {m : Mm} {K : Option Value → Mm → Prop} (k : K (some (.int (m.F 0 11))) m) : WP d 6 [.ref 0] m K := by
  have e_0 : sm_lk (lv_args 0 [.ref 0]) 0 = some (.ref 0) := rfl
  show sm_wp d 6 0 (lv_args 0 [.ref 0]) [] (hp m) (WQ K)
  generalize lv_args 0 [.ref 0] = lv0 at *
  refine wl_ald_n (pc' := 1) rfl e_0 rfl ?_
  refine wp_get (v := .int (m.F 0 11)) (pc' := 4) rfl (hq_0 _) rfl rfl ?_
  exact wl_ret rfl rfl ⟨_, rfl, k⟩
/-! 7: QueryTables.width -/
set_option maxRecDepth 20000 in
theorem sp_7 {d : Nat} {m : Mm} {K : Option Value → Mm → Prop} (k : K (some (.int (m.F 0 12))) m) : WP d 7 [.ref 0] m K := by
  have e_0 : sm_lk (lv_args 0 [.ref 0]) 0 = some (.ref 0) := rfl
  show sm_wp d 7 0 (lv_args 0 [.ref 0]) [] (hp m) (WQ K)
  generalize lv_args 0 [.ref 0] = lv0 at *
  refine wl_ald_n (pc' := 1) rfl e_0 rfl ?_
  refine wp_get (v := .int (m.F 0 12)) (pc' := 4) rfl (hq_0 _) rfl rfl ?_
  exact wl_ret rfl rfl ⟨_, rfl, k⟩
/-! 8: QueryTables.value -/
set_option maxRecDepth 20000 in
theorem sp_8 {d : Nat} {m : Mm} {K : Option Value → Mm → Prop} (x1 : Int32) (x2 : Int32) (k : (if x1 < (nI 0) then K (some (.long 2199023255552)) m else (if (m.F 0 11) ≤ x1 then K (some (.long 2199023255552)) m else (if x2 < (nI 0) then K (some (.long 2199023255552)) m else (if x2 < (m.F 0 12) then ok (m.B 40).length ((x1 * (nI 3)) + x2) ∧ K (some (.long ((m.B 40).getD (ix ((x1 * (nI 3)) + x2)) 0))) m else K (some (.long 2199023255552)) m))))) : WP d 8 [.ref 0, .int x1, .int x2] m K := by
  have e_0 : sm_lk (lv_args 0 [.ref 0, .int x1, .int x2]) 0 = some (.ref 0) := rfl
  have e_1 : sm_lk (lv_args 0 [.ref 0, .int x1, .int x2]) 1 = some (.int x1) := rfl
  have e_2 : sm_lk (lv_args 0 [.ref 0, .int x1, .int x2]) 2 = some (.int x2) := rfl
  show sm_wp d 8 0 (lv_args 0 [.ref 0, .int x1, .int x2]) [] (hp m) (WQ K)
  generalize lv_args 0 [.ref 0, .int x1, .int x2] = lv0 at *
  refine wl_ild_n (pc' := 1) rfl e_1 rfl ?_
  refine wp_if_lt (pc' := 4) rfl rfl (fun c1 => ?_) (fun c1 => ?_)
  · replace k := it_t (c := x1 < (nI 0)) c1 k
    refine wp_p (pc' := 27) (lv' := lv0) (st' := [.long 2199023255552]) rfl rfl ?_
    exact wp_r rfl rfl ⟨_, rfl, k⟩
  · replace k := it_f (c := x1 < (nI 0)) c1 k
    refine wl_ild_n (pc' := 5) rfl e_1 rfl ?_
    refine wl_ald_n (pc' := 6) rfl e_0 rfl ?_
    refine wp_get (v := .int (m.F 0 11)) (pc' := 9) rfl (hq_0 _) rfl rfl ?_
    refine wp_ic_ge (pc' := 12) rfl rfl (fun c2 => ?_) (fun c2 => ?_)
    · replace k := it_t (c := (m.F 0 11) ≤ x1) c2 k
      refine wp_p (pc' := 27) (lv' := lv0) (st' := [.long 2199023255552]) rfl rfl ?_
      exact wp_r rfl rfl ⟨_, rfl, k⟩
    · replace k := it_f (c := (m.F 0 11) ≤ x1) c2 k
      refine wl_ild_n (pc' := 13) rfl e_2 rfl ?_
      refine wp_if_lt (pc' := 16) rfl rfl (fun c3 => ?_) (fun c3 => ?_)
      · replace k := it_t (c := x2 < (nI 0)) c3 k
        refine wp_p (pc' := 27) (lv' := lv0) (st' := [.long 2199023255552]) rfl rfl ?_
        exact wp_r rfl rfl ⟨_, rfl, k⟩
      · replace k := it_f (c := x2 < (nI 0)) c3 k
        refine wl_ild_n (pc' := 17) rfl e_2 rfl ?_
        refine wl_ald_n (pc' := 18) rfl e_0 rfl ?_
        refine wp_get (v := .int (m.F 0 12)) (pc' := 21) rfl (hq_0 _) rfl rfl ?_
        refine wp_ic_lt (pc' := 24) rfl rfl (fun c4 => ?_) (fun c4 => ?_)
        · replace k := it_t (c := x2 < (m.F 0 12)) c4 k
          refine wl_ald_n (pc' := 29) rfl e_0 rfl ?_
          refine wp_get (v := .ref 40) (pc' := 32) rfl (hq_0 _) rfl rfl ?_
          refine wl_ild_n (pc' := 33) rfl e_1 rfl ?_
          refine wp_p (pc' := 34) (lv' := lv0) (st' := [.int (nI 3), .int x1, .ref 40]) rfl rfl ?_
          refine wp_imul (v := x1 * (nI 3)) (pc' := 35) rfl rfl rfl ?_
          refine wl_ild_n (pc' := 36) rfl e_2 rfl ?_
          refine wp_iadd (v := (x1 * (nI 3)) + x2) (pc' := 37) rfl rfl rfl ?_
          obtain ⟨k5, k⟩ := k
          refine wl_laload (g := m.B 40) (pc' := 38) rfl (hq_40 _) k5 rfl ?_
          exact wp_r rfl rfl ⟨_, rfl, k⟩
        · replace k := it_f (c := x2 < (m.F 0 12)) c4 k
          refine wp_p (pc' := 27) (lv' := lv0) (st' := [.long 2199023255552]) rfl rfl ?_
          exact wp_r rfl rfl ⟨_, rfl, k⟩
/-! 9: QueryTables.reads -/
set_option maxRecDepth 20000 in
theorem sp_9 {d : Nat} {m : Mm} {K : Option Value → Mm → Prop} (k : K (some (.int (m.F 0 13))) m) : WP d 9 [.ref 0] m K := by
  have e_0 : sm_lk (lv_args 0 [.ref 0]) 0 = some (.ref 0) := rfl
  show sm_wp d 9 0 (lv_args 0 [.ref 0]) [] (hp m) (WQ K)
  generalize lv_args 0 [.ref 0] = lv0 at *
  refine wl_ald_n (pc' := 1) rfl e_0 rfl ?_
  refine wp_get (v := .int (m.F 0 13)) (pc' := 4) rfl (hq_0 _) rfl rfl ?_
  exact wl_ret rfl rfl ⟨_, rfl, k⟩
/-! 10: QueryTables.plan -/
set_option maxRecDepth 20000 in
theorem sp_10 {d : Nat} {m : Mm} {K : Option Value → Mm → Prop} (k : K (some (.int (m.F 0 14))) m) : WP d 10 [.ref 0] m K := by
  have e_0 : sm_lk (lv_args 0 [.ref 0]) 0 = some (.ref 0) := rfl
  show sm_wp d 10 0 (lv_args 0 [.ref 0]) [] (hp m) (WQ K)
  generalize lv_args 0 [.ref 0] = lv0 at *
  refine wl_ald_n (pc' := 1) rfl e_0 rfl ?_
  refine wp_get (v := .int (m.F 0 14)) (pc' := 4) rfl (hq_0 _) rfl rfl ?_
  exact wl_ret rfl rfl ⟨_, rfl, k⟩
/-! 11: QueryTables.columns -/
set_option maxRecDepth 20000 in
theorem sp_11 {d : Nat} {m : Mm} {K : Option Value → Mm → Prop} (x1 : Int32) (k : WP d 16 [.int x1] m (fun v m1 => ∃ w2, v = some (.int w2) ∧ (if w2 = (nI 0) then K (some (.int (nI 0))) m1 else ∃ r4, tb_of x1 r4 ∧ tbl r4 ∧ K (some (.int (m1.F r4 2))) m1))) : WP (d + 1) 11 [.ref 0, .int x1] m K := by
  have e_0 : sm_lk (lv_args 0 [.ref 0, .int x1]) 0 = some (.ref 0) := rfl
  have e_1 : sm_lk (lv_args 0 [.ref 0, .int x1]) 1 = some (.int x1) := rfl
  show sm_wp (d + 1) 11 0 (lv_args 0 [.ref 0, .int x1]) [] (hp m) (WQ K)
  generalize lv_args 0 [.ref 0, .int x1] = lv0 at *
  refine wl_ild_n (pc' := 1) rfl e_1 rfl ?_
  refine wl_cs (As := [.int x1]) (r := []) (pc' := 4) rfl rfl rfl rfl k ?_
  rintro _ m1 ⟨w2, rfl, k⟩
  show sm_wp (d + 1) 11 4 lv0 [.int w2] (hp m1) (WQ K)
  refine wp_if_eq (pc' := 7) rfl rfl (fun c3 => ?_) (fun c3 => ?_)
  · replace k := it_t (c := w2 = (nI 0)) c3 k
    refine wp_p (pc' := 20) (lv' := lv0) (st' := [.int (nI 0)]) rfl rfl ?_
    exact wl_ret rfl rfl ⟨_, rfl, k⟩
  · replace k := it_f (c := w2 = (nI 0)) c3 k
    refine wl_ald_n (pc' := 8) rfl e_0 rfl ?_
    refine wp_get (v := .ref 2) (pc' := 11) rfl (hq_0 _) rfl rfl ?_
    refine wl_ild_n (pc' := 12) rfl e_1 rfl ?_
    obtain ⟨r4, k5, k6, k⟩ := k
    refine wl_aaload (k0 := r4) (pc' := 13) rfl (hq_2 _) k5.1 k5.2 rfl ?_
    refine wp_get (v := .int (m1.F r4 2)) (pc' := 16) rfl (hq_tbl k6 _) rfl rfl ?_
    refine wp_p (pc' := 20) (lv' := lv0) (st' := [.int (m1.F r4 2)]) rfl rfl ?_
    exact wl_ret rfl rfl ⟨_, rfl, k⟩
/-! 12: QueryTables.size -/
set_option maxRecDepth 20000 in
theorem sp_12 {d : Nat} {m : Mm} {K : Option Value → Mm → Prop} (x1 : Int32) (k : WP d 16 [.int x1] m (fun v m1 => ∃ w2, v = some (.int w2) ∧ (if w2 = (nI 0) then K (some (.int (nI 0))) m1 else ∃ r4, tb_of x1 r4 ∧ tbl r4 ∧ K (some (.int (m1.F r4 3))) m1))) : WP (d + 1) 12 [.ref 0, .int x1] m K := by
  have e_0 : sm_lk (lv_args 0 [.ref 0, .int x1]) 0 = some (.ref 0) := rfl
  have e_1 : sm_lk (lv_args 0 [.ref 0, .int x1]) 1 = some (.int x1) := rfl
  show sm_wp (d + 1) 12 0 (lv_args 0 [.ref 0, .int x1]) [] (hp m) (WQ K)
  generalize lv_args 0 [.ref 0, .int x1] = lv0 at *
  refine wl_ild_n (pc' := 1) rfl e_1 rfl ?_
  refine wl_cs (As := [.int x1]) (r := []) (pc' := 4) rfl rfl rfl rfl k ?_
  rintro _ m1 ⟨w2, rfl, k⟩
  show sm_wp (d + 1) 12 4 lv0 [.int w2] (hp m1) (WQ K)
  refine wp_if_eq (pc' := 7) rfl rfl (fun c3 => ?_) (fun c3 => ?_)
  · replace k := it_t (c := w2 = (nI 0)) c3 k
    refine wp_p (pc' := 20) (lv' := lv0) (st' := [.int (nI 0)]) rfl rfl ?_
    exact wl_ret rfl rfl ⟨_, rfl, k⟩
  · replace k := it_f (c := w2 = (nI 0)) c3 k
    refine wl_ald_n (pc' := 8) rfl e_0 rfl ?_
    refine wp_get (v := .ref 2) (pc' := 11) rfl (hq_0 _) rfl rfl ?_
    refine wl_ild_n (pc' := 12) rfl e_1 rfl ?_
    obtain ⟨r4, k5, k6, k⟩ := k
    refine wl_aaload (k0 := r4) (pc' := 13) rfl (hq_2 _) k5.1 k5.2 rfl ?_
    refine wp_get (v := .int (m1.F r4 3)) (pc' := 16) rfl (hq_tbl k6 _) rfl rfl ?_
    refine wp_p (pc' := 20) (lv' := lv0) (st' := [.int (m1.F r4 3)]) rfl rfl ?_
    exact wl_ret rfl rfl ⟨_, rfl, k⟩
/-! 13: QueryTables.indexed -/
set_option maxRecDepth 20000 in
theorem sp_13 {d : Nat} {m : Mm} {K : Option Value → Mm → Prop} (x1 : Int32) (x2 : Int32) (k : WP d 16 [.int x1] m (fun v m1 => ∃ w2, v = some (.int w2) ∧ (if w2 = (nI 0) then K (some (.int (nI 0))) m1 else ∃ r4, tb_of x1 r4 ∧ tbl r4 ∧ WP d 28 [.ref r4, .int x2] m1 (fun v m7 => ∃ w8, v = some (.int w8) ∧ (if w8 = (nI 0) then K (some (.int (nI 0))) m7 else K (some (.int (nI 1))) m7))))) : WP (d + 1) 13 [.ref 0, .int x1, .int x2] m K := by
  have e_0 : sm_lk (lv_args 0 [.ref 0, .int x1, .int x2]) 0 = some (.ref 0) := rfl
  have e_1 : sm_lk (lv_args 0 [.ref 0, .int x1, .int x2]) 1 = some (.int x1) := rfl
  have e_2 : sm_lk (lv_args 0 [.ref 0, .int x1, .int x2]) 2 = some (.int x2) := rfl
  show sm_wp (d + 1) 13 0 (lv_args 0 [.ref 0, .int x1, .int x2]) [] (hp m) (WQ K)
  generalize lv_args 0 [.ref 0, .int x1, .int x2] = lv0 at *
  refine wl_ild_n (pc' := 1) rfl e_1 rfl ?_
  refine wl_cs (As := [.int x1]) (r := []) (pc' := 4) rfl rfl rfl rfl k ?_
  rintro _ m1 ⟨w2, rfl, k⟩
  show sm_wp (d + 1) 13 4 lv0 [.int w2] (hp m1) (WQ K)
  refine wp_if_eq (pc' := 7) rfl rfl (fun c3 => ?_) (fun c3 => ?_)
  · replace k := it_t (c := w2 = (nI 0)) c3 k
    refine wp_p (pc' := 25) (lv' := lv0) (st' := [.int (nI 0)]) rfl rfl ?_
    exact wl_ret rfl rfl ⟨_, rfl, k⟩
  · replace k := it_f (c := w2 = (nI 0)) c3 k
    refine wl_ald_n (pc' := 8) rfl e_0 rfl ?_
    refine wp_get (v := .ref 2) (pc' := 11) rfl (hq_0 _) rfl rfl ?_
    refine wl_ild_n (pc' := 12) rfl e_1 rfl ?_
    obtain ⟨r4, k5, k6, k⟩ := k
    refine wl_aaload (k0 := r4) (pc' := 13) rfl (hq_2 _) k5.1 k5.2 rfl ?_
    refine wl_ild_n (pc' := 14) rfl e_2 rfl ?_
    refine wl_cv (As := [.ref r4, .int x2]) (r := []) (pc' := 17) rfl (sm_inv_tbl k6 _ rfl rfl rfl) rfl k ?_
    rintro _ m7 ⟨w8, rfl, k⟩
    show sm_wp (d + 1) 13 17 lv0 [.int w8] (hp m7) (WQ K)
    refine wp_if_eq (pc' := 20) rfl rfl (fun c9 => ?_) (fun c9 => ?_)
    · replace k := it_t (c := w8 = (nI 0)) c9 k
      refine wp_p (pc' := 25) (lv' := lv0) (st' := [.int (nI 0)]) rfl rfl ?_
      exact wl_ret rfl rfl ⟨_, rfl, k⟩
    · replace k := it_f (c := w8 = (nI 0)) c9 k
      refine wp_p (pc' := 21) (lv' := lv0) (st' := [.int (nI 1)]) rfl rfl ?_
      refine wp_p (pc' := 25) (lv' := lv0) (st' := [.int (nI 1)]) rfl rfl ?_
      exact wl_ret rfl rfl ⟨_, rfl, k⟩
/-! 14: QueryTables.cell -/
set_option maxRecDepth 20000 in
theorem sp_14 {d : Nat} {m : Mm} {K : Option Value → Mm → Prop} (x1 : Int32) (x2 : Int32) (x3 : Int32) (k : WP d 16 [.int x1] m (fun v m1 => ∃ w2, v = some (.int w2) ∧ (if w2 = (nI 0) then K (some (.long 2199023255552)) m1 else ∃ r4, tb_of x1 r4 ∧ tbl r4 ∧ WP d 29 [.ref r4, .int x2, .int x3] m1 (fun v m7 => ∃ w8, v = some (.long w8) ∧ K (some (.long w8)) m7)))) : WP (d + 1) 14 [.ref 0, .int x1, .int x2, .int x3] m K := by
  have e_0 : sm_lk (lv_args 0 [.ref 0, .int x1, .int x2, .int x3]) 0 = some (.ref 0) := rfl
  have e_1 : sm_lk (lv_args 0 [.ref 0, .int x1, .int x2, .int x3]) 1 = some (.int x1) := rfl
  have e_2 : sm_lk (lv_args 0 [.ref 0, .int x1, .int x2, .int x3]) 2 = some (.int x2) := rfl
  have e_3 : sm_lk (lv_args 0 [.ref 0, .int x1, .int x2, .int x3]) 3 = some (.int x3) := rfl
  show sm_wp (d + 1) 14 0 (lv_args 0 [.ref 0, .int x1, .int x2, .int x3]) [] (hp m) (WQ K)
  generalize lv_args 0 [.ref 0, .int x1, .int x2, .int x3] = lv0 at *
  refine wl_ild_n (pc' := 1) rfl e_1 rfl ?_
  refine wl_cs (As := [.int x1]) (r := []) (pc' := 4) rfl rfl rfl rfl k ?_
  rintro _ m1 ⟨w2, rfl, k⟩
  show sm_wp (d + 1) 14 4 lv0 [.int w2] (hp m1) (WQ K)
  refine wp_if_eq (pc' := 7) rfl rfl (fun c3 => ?_) (fun c3 => ?_)
  · replace k := it_t (c := w2 = (nI 0)) c3 k
    refine wp_p (pc' := 24) (lv' := lv0) (st' := [.long 2199023255552]) rfl rfl ?_
    exact wp_r rfl rfl ⟨_, rfl, k⟩
  · replace k := it_f (c := w2 = (nI 0)) c3 k
    refine wl_ald_n (pc' := 8) rfl e_0 rfl ?_
    refine wp_get (v := .ref 2) (pc' := 11) rfl (hq_0 _) rfl rfl ?_
    refine wl_ild_n (pc' := 12) rfl e_1 rfl ?_
    obtain ⟨r4, k5, k6, k⟩ := k
    refine wl_aaload (k0 := r4) (pc' := 13) rfl (hq_2 _) k5.1 k5.2 rfl ?_
    refine wl_ild_n (pc' := 14) rfl e_2 rfl ?_
    refine wl_ild_n (pc' := 15) rfl e_3 rfl ?_
    refine wl_cv (As := [.ref r4, .int x2, .int x3]) (r := []) (pc' := 18) rfl (sm_inv_tbl k6 _ rfl rfl rfl) rfl k ?_
    rintro _ m7 ⟨w8, rfl, k⟩
    show sm_wp (d + 1) 14 18 lv0 [.long w8] (hp m7) (WQ K)
    refine wp_p (pc' := 24) (lv' := lv0) (st' := [.long w8]) rfl rfl ?_
    exact wp_r rfl rfl ⟨_, rfl, k⟩
/-! 15: QueryTables.count -/
set_option maxRecDepth 20000 in
theorem sp_15 {d : Nat} {m : Mm} {K : Option Value → Mm → Prop} (x1 : Int32) (x2 : Int32) (y3 : Int64) (k : WP d 16 [.int x1] m (fun v m1 => ∃ w2, v = some (.int w2) ∧ (if w2 = (nI 0) then K (some (.int (nI 0))) m1 else ∃ r4, tb_of x1 r4 ∧ tbl r4 ∧ WP d 27 [.ref r4, .int x2] m1 (fun v m7 => ∃ w8, v = some (.int w8) ∧ (if w8 = (nI 0) then K (some (.int (nI 0))) m7 else ∃ r10, tb_of x1 r10 ∧ tbl r10 ∧ WP d 30 [.ref r10, .int x2, .long y3] m7 (fun v m13 => ∃ w14, v = some (.int w14) ∧ K (some (.int w14)) m13)))))) : WP (d + 1) 15 [.ref 0, .int x1, .int x2, .long y3] m K := by
  have e_0 : sm_lk (lv_args 0 [.ref 0, .int x1, .int x2, .long y3]) 0 = some (.ref 0) := rfl
  have e_1 : sm_lk (lv_args 0 [.ref 0, .int x1, .int x2, .long y3]) 1 = some (.int x1) := rfl
  have e_2 : sm_lk (lv_args 0 [.ref 0, .int x1, .int x2, .long y3]) 2 = some (.int x2) := rfl
  have e_3 : sm_lk (lv_args 0 [.ref 0, .int x1, .int x2, .long y3]) 3 = some (.long y3) := rfl
  show sm_wp (d + 1) 15 0 (lv_args 0 [.ref 0, .int x1, .int x2, .long y3]) [] (hp m) (WQ K)
  generalize lv_args 0 [.ref 0, .int x1, .int x2, .long y3] = lv0 at *
  refine wl_ild_n (pc' := 1) rfl e_1 rfl ?_
  refine wl_cs (As := [.int x1]) (r := []) (pc' := 4) rfl rfl rfl rfl k ?_
  rintro _ m1 ⟨w2, rfl, k⟩
  show sm_wp (d + 1) 15 4 lv0 [.int w2] (hp m1) (WQ K)
  refine wp_if_eq (pc' := 7) rfl rfl (fun c3 => ?_) (fun c3 => ?_)
  · replace k := it_t (c := w2 = (nI 0)) c3 k
    refine wp_p (pc' := 35) (lv' := lv0) (st' := [.int (nI 0)]) rfl rfl ?_
    exact wl_ret rfl rfl ⟨_, rfl, k⟩
  · replace k := it_f (c := w2 = (nI 0)) c3 k
    refine wl_ald_n (pc' := 8) rfl e_0 rfl ?_
    refine wp_get (v := .ref 2) (pc' := 11) rfl (hq_0 _) rfl rfl ?_
    refine wl_ild_n (pc' := 12) rfl e_1 rfl ?_
    obtain ⟨r4, k5, k6, k⟩ := k
    refine wl_aaload (k0 := r4) (pc' := 13) rfl (hq_2 _) k5.1 k5.2 rfl ?_
    refine wl_ild_n (pc' := 14) rfl e_2 rfl ?_
    refine wl_cv (As := [.ref r4, .int x2]) (r := []) (pc' := 17) rfl (sm_inv_tbl k6 _ rfl rfl rfl) rfl k ?_
    rintro _ m7 ⟨w8, rfl, k⟩
    show sm_wp (d + 1) 15 17 lv0 [.int w8] (hp m7) (WQ K)
    refine wp_if_eq (pc' := 20) rfl rfl (fun c9 => ?_) (fun c9 => ?_)
    · replace k := it_t (c := w8 = (nI 0)) c9 k
      refine wp_p (pc' := 35) (lv' := lv0) (st' := [.int (nI 0)]) rfl rfl ?_
      exact wl_ret rfl rfl ⟨_, rfl, k⟩
    · replace k := it_f (c := w8 = (nI 0)) c9 k
      refine wl_ald_n (pc' := 21) rfl e_0 rfl ?_
      refine wp_get (v := .ref 2) (pc' := 24) rfl (hq_0 _) rfl rfl ?_
      refine wl_ild_n (pc' := 25) rfl e_1 rfl ?_
      obtain ⟨r10, k11, k12, k⟩ := k
      refine wl_aaload (k0 := r10) (pc' := 26) rfl (hq_2 _) k11.1 k11.2 rfl ?_
      refine wl_ild_n (pc' := 27) rfl e_2 rfl ?_
      refine wl_lld_n (pc' := 28) rfl e_3 rfl ?_
      refine wl_cv (As := [.ref r10, .int x2, .long y3]) (r := []) (pc' := 31) rfl (sm_inv_tbl k12 _ rfl rfl rfl) rfl k ?_
      rintro _ m13 ⟨w14, rfl, k⟩
      show sm_wp (d + 1) 15 31 lv0 [.int w14] (hp m13) (WQ K)
      refine wp_p (pc' := 35) (lv' := lv0) (st' := [.int w14]) rfl rfl ?_
      exact wl_ret rfl rfl ⟨_, rfl, k⟩
/-! 16: QueryTables.isTable -/
set_option maxRecDepth 20000 in
theorem sp_16 {d : Nat} {m : Mm} {K : Option Value → Mm → Prop} (x0 : Int32) (k : (if x0 < (nI 0) then K (some (.int (nI 0))) m else (if (nI 3) ≤ x0 then K (some (.int (nI 0))) m else K (some (.int (nI 1))) m))) : WP d 16 [.int x0] m K := by
  have e_0 : sm_lk (lv_args 0 [.int x0]) 0 = some (.int x0) := rfl
  show sm_wp d 16 0 (lv_args 0 [.int x0]) [] (hp m) (WQ K)
  generalize lv_args 0 [.int x0] = lv0 at *
  refine wl_ild_n (pc' := 1) rfl e_0 rfl ?_
  refine wp_if_lt (pc' := 4) rfl rfl (fun c1 => ?_) (fun c1 => ?_)
  · replace k := it_t (c := x0 < (nI 0)) c1 k
    refine wp_p (pc' := 14) (lv' := lv0) (st' := [.int (nI 0)]) rfl rfl ?_
    exact wl_ret rfl rfl ⟨_, rfl, k⟩
  · replace k := it_f (c := x0 < (nI 0)) c1 k
    refine wl_ild_n (pc' := 5) rfl e_0 rfl ?_
    refine wp_p (pc' := 6) (lv' := lv0) (st' := [.int (nI 3), .int x0]) rfl rfl ?_
    refine wp_ic_ge (pc' := 9) rfl rfl (fun c2 => ?_) (fun c2 => ?_)
    · replace k := it_t (c := (nI 3) ≤ x0) c2 k
      refine wp_p (pc' := 14) (lv' := lv0) (st' := [.int (nI 0)]) rfl rfl ?_
      exact wl_ret rfl rfl ⟨_, rfl, k⟩
    · replace k := it_f (c := (nI 3) ≤ x0) c2 k
      refine wp_p (pc' := 10) (lv' := lv0) (st' := [.int (nI 1)]) rfl rfl ?_
      refine wp_p (pc' := 14) (lv' := lv0) (st' := [.int (nI 1)]) rfl rfl ?_
      exact wl_ret rfl rfl ⟨_, rfl, k⟩
/-! 17: QueryTables.forgetAnswers -/
set_option maxRecDepth 20000 in
theorem sp_17 {d : Nat} {m : Mm} {K : Option Value → Mm → Prop} (k : K none ((((m.uF 0 11 (nI 0)).uF 0 12 (nI 0)).uF 0 13 (nI 0)).uF 0 14 (nI 0))) : WP d 17 [.ref 0] m K := by
  have e_0 : sm_lk (lv_args 0 [.ref 0]) 0 = some (.ref 0) := rfl
  show sm_wp d 17 0 (lv_args 0 [.ref 0]) [] (hp m) (WQ K)
  generalize lv_args 0 [.ref 0] = lv0 at *
  refine wl_ald_n (pc' := 1) rfl e_0 rfl ?_
  refine wp_p (pc' := 2) (lv' := lv0) (st' := [.int (nI 0), .ref 0]) rfl rfl ?_
  refine wl_put (pc' := 5) (h2 := hp (m.uF 0 11 (nI 0))) rfl (hq_0 _) rfl rfl rfl (pf_0_11 _ _) ?_
  refine wl_ald_n (pc' := 6) rfl e_0 rfl ?_
  refine wp_p (pc' := 7) (lv' := lv0) (st' := [.int (nI 0), .ref 0]) rfl rfl ?_
  refine wl_put (pc' := 10) (h2 := hp ((m.uF 0 11 (nI 0)).uF 0 12 (nI 0))) rfl (hq_0 _) rfl rfl rfl (pf_0_12 _ _) ?_
  refine wl_ald_n (pc' := 11) rfl e_0 rfl ?_
  refine wp_p (pc' := 12) (lv' := lv0) (st' := [.int (nI 0), .ref 0]) rfl rfl ?_
  refine wl_put (pc' := 15) (h2 := hp (((m.uF 0 11 (nI 0)).uF 0 12 (nI 0)).uF 0 13 (nI 0))) rfl (hq_0 _) rfl rfl rfl (pf_0_13 _ _) ?_
  refine wl_ald_n (pc' := 16) rfl e_0 rfl ?_
  refine wp_p (pc' := 17) (lv' := lv0) (st' := [.int (nI 0), .ref 0]) rfl rfl ?_
  refine wl_put (pc' := 20) (h2 := hp ((((m.uF 0 11 (nI 0)).uF 0 12 (nI 0)).uF 0 13 (nI 0)).uF 0 14 (nI 0))) rfl (hq_0 _) rfl rfl rfl (pf_0_14 _ _) ?_
  exact wp_r rfl rfl ⟨_, rfl, k⟩
/-! 18: QueryTables.carryOut -/
set_option maxRecDepth 20000 in
theorem sp_18 {d : Nat} {m : Mm} {K : Option Value → Mm → Prop} (k : WP d 106 [.ref 29] m (fun v m1 => ∃ w2, v = some (.int w2) ∧ (if w2 = (nI 0) then ∃ r8, tb_of (m1.F 12 5) r8 ∧ tbl r8 ∧ WP d 65 [.ref 12] m1 (fun v m16 => ∃ w17, v = some (.int w17) ∧ (if w17 = (nI 0) then WH (d + 1) 18 86 [(0, .ref 0), (2, .ref r8)] [] m16 K else (if (m16.F 12 6) = (-1) then WP d 40 [.ref 23, .ref r8, .ref r8] m16 (fun v m26 => v = none ∧ WP d 119 [.ref 30] m26 (fun v m27 => v = none ∧ WP d 123 [.ref 30] m27 (fun v m28 => v = none ∧ WH (d + 1) 18 86 [(0, .ref 0), (2, .ref r8)] [] m28 K))) else ∃ r20, tb_of (m16.F 12 6) r20 ∧ tbl r20 ∧ WP d 40 [.ref 23, .ref r8, .ref r20] m16 (fun v m23 => v = none ∧ WP d 119 [.ref 30] m23 (fun v m24 => v = none ∧ WP d 123 [.ref 30] m24 (fun v m25 => v = none ∧ WH (d + 1) 18 86 [(0, .ref 0), (2, .ref r8)] [] m25 K)))))) else K (some (.int w2)) m1))) : WP (d + 1) 18 [.ref 0] m K := by
  have e_0 : sm_lk (lv_args 0 [.ref 0]) 0 = some (.ref 0) := rfl
  show sm_wp (d + 1) 18 0 (lv_args 0 [.ref 0]) [] (hp m) (WQ K)
  generalize lv_args 0 [.ref 0] = lv0 at *
  refine wl_ald_n (pc' := 1) rfl e_0 rfl ?_
  refine wp_get (v := .ref 29) (pc' := 4) rfl (hq_0 _) rfl rfl ?_
  refine wl_cv (As := [.ref 29]) (r := []) (pc' := 7) rfl rfl rfl k ?_
  rintro _ m1 ⟨w2, rfl, k⟩
  show sm_wp (d + 1) 18 7 lv0 [.int w2] (hp m1) (WQ K)
  refine wl_st1 (pc' := 8) (k0 := 1) (v := .int w2) (r := []) rfl rfl (fun lv3 e4 f5 => ?_)
  have e6 := f5 0 _ e_0 (by decide) rfl
  refine wl_ild_n (pc' := 9) rfl e4 rfl ?_
  refine wp_if_eq (pc' := 12) rfl rfl (fun c7 => ?_) (fun c7 => ?_)
  · replace k := it_t (c := w2 = (nI 0)) c7 k
    refine wl_ald_n (pc' := 15) rfl e6 rfl ?_
    refine wp_get (v := .ref 2) (pc' := 18) rfl (hq_0 _) rfl rfl ?_
    refine wl_ald_n (pc' := 19) rfl e6 rfl ?_
    refine wp_get (v := .ref 12) (pc' := 22) rfl (hq_0 _) rfl rfl ?_
    refine wp_get (v := .int (m1.F 12 5)) (pc' := 25) rfl (hq_12 _) rfl rfl ?_
    obtain ⟨r8, k9, k10, k⟩ := k
    refine wl_aaload (k0 := r8) (pc' := 26) rfl (hq_2 _) k9.1 k9.2 rfl ?_
    refine wl_st1 (pc' := 27) (k0 := 2) (v := .ref r8) (r := []) rfl rfl (fun lv11 e12 f13 => ?_)
    have e14 := f13 0 _ e6 (by decide) rfl
    have e15 := f13 1 _ e4 (by decide) rfl
    refine wl_ald_n (pc' := 28) rfl e14 rfl ?_
    refine wp_get (v := .ref 12) (pc' := 31) rfl (hq_0 _) rfl rfl ?_
    refine wl_cv (As := [.ref 12]) (r := []) (pc' := 34) rfl rfl rfl k ?_
    rintro _ m16 ⟨w17, rfl, k⟩
    show sm_wp (d + 1) 18 34 lv11 [.int w17] (hp m16) (WQ K)
    refine wp_if_eq (pc' := 37) rfl rfl (fun c18 => ?_) (fun c18 => ?_)
    · replace k := it_t (c := w17 = (nI 0)) c18 k
      exact k _ ⟨e14, e12, trivial⟩
    · replace k := it_f (c := w17 = (nI 0)) c18 k
      refine wl_ald_n (pc' := 38) rfl e14 rfl ?_
      refine wp_get (v := .ref 23) (pc' := 41) rfl (hq_0 _) rfl rfl ?_
      refine wl_ald_n (pc' := 42) rfl e12 rfl ?_
      refine wl_ald_n (pc' := 43) rfl e14 rfl ?_
      refine wp_get (v := .ref 12) (pc' := 46) rfl (hq_0 _) rfl rfl ?_
      refine wp_get (v := .int (m16.F 12 6)) (pc' := 49) rfl (hq_12 _) rfl rfl ?_
      refine wp_p (pc' := 50) (lv' := lv11) (st' := [.int (-1), .int (m16.F 12 6), .ref r8, .ref 23]) rfl rfl ?_
      refine wp_ic_ne (pc' := 53) rfl rfl (fun c19 => ?_) (fun c19 => ?_)
      · replace k := it_f (c := (m16.F 12 6) = (-1)) c19 k
        refine wl_ald_n (pc' := 58) rfl e14 rfl ?_
        refine wp_get (v := .ref 2) (pc' := 61) rfl (hq_0 _) rfl rfl ?_
        refine wl_ald_n (pc' := 62) rfl e14 rfl ?_
        refine wp_get (v := .ref 12) (pc' := 65) rfl (hq_0 _) rfl rfl ?_
        refine wp_get (v := .int (m16.F 12 6)) (pc' := 68) rfl (hq_12 _) rfl rfl ?_
        obtain ⟨r20, k21, k22, k⟩ := k
        refine wl_aaload (k0 := r20) (pc' := 69) rfl (hq_2 _) k21.1 k21.2 rfl ?_
        refine wl_cv (As := [.ref 23, .ref r8, .ref r20]) (r := []) (pc' := 72) rfl rfl rfl k ?_
        rintro _ m23 ⟨rfl, k⟩
        show sm_wp (d + 1) 18 72 lv11 [] (hp m23) (WQ K)
        refine wl_ald_n (pc' := 73) rfl e14 rfl ?_
        refine wp_get (v := .ref 30) (pc' := 76) rfl (hq_0 _) rfl rfl ?_
        refine wl_cv (As := [.ref 30]) (r := []) (pc' := 79) rfl rfl rfl k ?_
        rintro _ m24 ⟨rfl, k⟩
        show sm_wp (d + 1) 18 79 lv11 [] (hp m24) (WQ K)
        refine wl_ald_n (pc' := 80) rfl e14 rfl ?_
        refine wp_get (v := .ref 30) (pc' := 83) rfl (hq_0 _) rfl rfl ?_
        refine wl_cv (As := [.ref 30]) (r := []) (pc' := 86) rfl rfl rfl k ?_
        rintro _ m25 ⟨rfl, k⟩
        show sm_wp (d + 1) 18 86 lv11 [] (hp m25) (WQ K)
        exact k _ ⟨e14, e12, trivial⟩
      · replace k := it_t (c := (m16.F 12 6) = (-1)) c19 k
        refine wl_ald_n (pc' := 54) rfl e12 rfl ?_
        refine wp_p (pc' := 69) (lv' := lv11) (st' := [.ref r8, .ref r8, .ref 23]) rfl rfl ?_
        refine wl_cv (As := [.ref 23, .ref r8, .ref r8]) (r := []) (pc' := 72) rfl rfl rfl k ?_
        rintro _ m26 ⟨rfl, k⟩
        show sm_wp (d + 1) 18 72 lv11 [] (hp m26) (WQ K)
        refine wl_ald_n (pc' := 73) rfl e14 rfl ?_
        refine wp_get (v := .ref 30) (pc' := 76) rfl (hq_0 _) rfl rfl ?_
        refine wl_cv (As := [.ref 30]) (r := []) (pc' := 79) rfl rfl rfl k ?_
        rintro _ m27 ⟨rfl, k⟩
        show sm_wp (d + 1) 18 79 lv11 [] (hp m27) (WQ K)
        refine wl_ald_n (pc' := 80) rfl e14 rfl ?_
        refine wp_get (v := .ref 30) (pc' := 83) rfl (hq_0 _) rfl rfl ?_
        refine wl_cv (As := [.ref 30]) (r := []) (pc' := 86) rfl rfl rfl k ?_
        rintro _ m28 ⟨rfl, k⟩
        show sm_wp (d + 1) 18 86 lv11 [] (hp m28) (WQ K)
        exact k _ ⟨e14, e12, trivial⟩
  · replace k := it_f (c := w2 = (nI 0)) c7 k
    refine wl_ild_n (pc' := 13) rfl e4 rfl ?_
    exact wl_ret rfl rfl ⟨_, rfl, k⟩
set_option maxRecDepth 20000 in
theorem sg_18_86 {d : Nat} {m : Mm} {K : Option Value → Mm → Prop} (r2 : Nat) (h_r2 : tbl r2) (k : WP d 19 [.ref 0, .ref r2] m (fun v m1 => ∃ w2, v = some (.int w2) ∧ (if w2 = (nI 0) then WP d 65 [.ref 12] m1 (fun v m9 => ∃ w10, v = some (.int w10) ∧ (if w10 = (nI 0) then WH (d + 1) 18 128 [(3, .int w2)] [] m9 K else WP d 122 [.ref 30] (m9.uF 0 13 (m9.F 30 14)) (fun v m12 => ∃ w13, v = some (.int w13) ∧ WH (d + 1) 18 128 [(3, .int w2)] [] (m12.uF 0 14 w13) K))) else WH (d + 1) 18 128 [(3, .int w2)] [] m1 K))) : WH (d + 1) 18 86 [(0, .ref 0), (2, .ref r2)] [] m K := by
  intro lv0 el
  obtain ⟨e_0, e_2, _⟩ := el
  refine wl_ald_n (pc' := 87) rfl e_0 rfl ?_
  refine wl_ald_n (pc' := 88) rfl e_2 rfl ?_
  refine wl_cv (As := [.ref 0, .ref r2]) (r := []) (pc' := 91) rfl rfl rfl k ?_
  rintro _ m1 ⟨w2, rfl, k⟩
  show sm_wp (d + 1) 18 91 lv0 [.int w2] (hp m1) (WQ K)
  refine wl_st1 (pc' := 92) (k0 := 3) (v := .int w2) (r := []) rfl rfl (fun lv3 e4 f5 => ?_)
  have e6 := f5 0 _ e_0 (by decide) rfl
  have e7 := f5 2 _ e_2 (by decide) rfl
  refine wl_ild_n (pc' := 93) rfl e4 rfl ?_
  refine wp_if_ne (pc' := 96) rfl rfl (fun c8 => ?_) (fun c8 => ?_)
  · replace k := it_f (c := w2 = (nI 0)) c8 k
    exact k _ ⟨e4, trivial⟩
  · replace k := it_t (c := w2 = (nI 0)) c8 k
    refine wl_ald_n (pc' := 97) rfl e6 rfl ?_
    refine wp_get (v := .ref 12) (pc' := 100) rfl (hq_0 _) rfl rfl ?_
    refine wl_cv (As := [.ref 12]) (r := []) (pc' := 103) rfl rfl rfl k ?_
    rintro _ m9 ⟨w10, rfl, k⟩
    show sm_wp (d + 1) 18 103 lv3 [.int w10] (hp m9) (WQ K)
    refine wp_if_eq (pc' := 106) rfl rfl (fun c11 => ?_) (fun c11 => ?_)
    · replace k := it_t (c := w10 = (nI 0)) c11 k
      exact k _ ⟨e4, trivial⟩
    · replace k := it_f (c := w10 = (nI 0)) c11 k
      refine wl_ald_n (pc' := 107) rfl e6 rfl ?_
      refine wl_ald_n (pc' := 108) rfl e6 rfl ?_
      refine wp_get (v := .ref 30) (pc' := 111) rfl (hq_0 _) rfl rfl ?_
      refine wp_get (v := .int (m9.F 30 14)) (pc' := 114) rfl (hq_30 _) rfl rfl ?_
      refine wl_put (pc' := 117) (h2 := hp (m9.uF 0 13 (m9.F 30 14))) rfl (hq_0 _) rfl rfl rfl (pf_0_13 _ _) ?_
      refine wl_ald_n (pc' := 118) rfl e6 rfl ?_
      refine wl_ald_n (pc' := 119) rfl e6 rfl ?_
      refine wp_get (v := .ref 30) (pc' := 122) rfl (hq_0 _) rfl rfl ?_
      refine wl_cv (As := [.ref 30]) (r := [.ref 0]) (pc' := 125) rfl rfl rfl k ?_
      rintro _ m12 ⟨w13, rfl, k⟩
      show sm_wp (d + 1) 18 125 lv3 [.int w13, .ref 0] (hp m12) (WQ K)
      refine wl_put (pc' := 128) (h2 := hp (m12.uF 0 14 w13)) rfl (hq_0 _) rfl rfl rfl (pf_0_14 _ _) ?_
      exact k _ ⟨e4, trivial⟩
set_option maxRecDepth 20000 in
theorem sg_18_128 {d : Nat} {m : Mm} {K : Option Value → Mm → Prop} (x3 : Int32) (k : K (some (.int x3)) m) : WH d 18 128 [(3, .int x3)] [] m K := by
  intro lv0 el
  obtain ⟨e_3, _⟩ := el
  refine wl_ild_n (pc' := 129) rfl e_3 rfl ?_
  exact wl_ret rfl rfl ⟨_, rfl, k⟩
/-! 19: QueryTables.effect -/
set_option maxRecDepth 20000 in
theorem sp_19 {d : Nat} {m : Mm} {K : Option Value → Mm → Prop} (r1 : Nat) (h_r1 : tbl r1) (k : (if (m.F 12 4) = nI 4 then WP d 31 [.ref r1, .int (m.F 12 8)] m (fun v m2 => v = none ∧ K (some (.int (nI 0))) m2) else (if (m.F 12 4) = nI 5 then WP d 32 [.ref r1, .int (m.F 12 7)] m (fun v m4 => v = none ∧ K (some (.int (nI 0))) m4) else (if (m.F 12 4) = nI 6 then WP d 20 [.ref 0, .ref r1] m (fun v m6 => ∃ w7, v = some (.int w7) ∧ K (some (.int w7)) m6) else (if (m.F 12 4) = nI 7 then WP d 21 [.ref 0, .ref r1] m (fun v m9 => ∃ w10, v = some (.int w10) ∧ K (some (.int w10)) m9) else (if (m.F 12 4) = nI 8 then WP d 23 [.ref 0, .ref r1] m (fun v m12 => ∃ w13, v = some (.int w13) ∧ K (some (.int w13)) m12) else WP d 24 [.ref 0] m (fun v m14 => ∃ w15, v = some (.int w15) ∧ K (some (.int w15)) m14))))))) : WP (d + 1) 19 [.ref 0, .ref r1] m K := by
  have e_0 : sm_lk (lv_args 0 [.ref 0, .ref r1]) 0 = some (.ref 0) := rfl
  have e_1 : sm_lk (lv_args 0 [.ref 0, .ref r1]) 1 = some (.ref r1) := rfl
  show sm_wp (d + 1) 19 0 (lv_args 0 [.ref 0, .ref r1]) [] (hp m) (WQ K)
  generalize lv_args 0 [.ref 0, .ref r1] = lv0 at *
  refine wl_ald_n (pc' := 1) rfl e_0 rfl ?_
  refine wp_get (v := .ref 12) (pc' := 4) rfl (hq_0 _) rfl rfl ?_
  refine wp_get (v := .int (m.F 12 4)) (pc' := 7) rfl (hq_12 _) rfl rfl ?_
  by_cases c1 : (m.F 12 4) = nI 4
  · replace k := it_t (c := (m.F 12 4) = nI 4) c1 k
    refine wl_sw (pc' := 40) (r := []) c1 rfl rfl ?_
    refine wl_ald_n (pc' := 41) rfl e_1 rfl ?_
    refine wl_ald_n (pc' := 42) rfl e_0 rfl ?_
    refine wp_get (v := .ref 12) (pc' := 45) rfl (hq_0 _) rfl rfl ?_
    refine wp_get (v := .int (m.F 12 8)) (pc' := 48) rfl (hq_12 _) rfl rfl ?_
    refine wl_cv (As := [.ref r1, .int (m.F 12 8)]) (r := []) (pc' := 51) rfl (sm_inv_tbl h_r1 _ rfl rfl rfl) rfl k ?_
    rintro _ m2 ⟨rfl, k⟩
    show sm_wp (d + 1) 19 51 lv0 [] (hp m2) (WQ K)
    refine wp_p (pc' := 52) (lv' := lv0) (st' := [.int (nI 0)]) rfl rfl ?_
    exact wl_ret rfl rfl ⟨_, rfl, k⟩
  replace k := it_f (c := (m.F 12 4) = nI 4) c1 k
  by_cases c3 : (m.F 12 4) = nI 5
  · replace k := it_t (c := (m.F 12 4) = nI 5) c3 k
    refine wl_sw (pc' := 53) (r := []) c3 rfl rfl ?_
    refine wl_ald_n (pc' := 54) rfl e_1 rfl ?_
    refine wl_ald_n (pc' := 55) rfl e_0 rfl ?_
    refine wp_get (v := .ref 12) (pc' := 58) rfl (hq_0 _) rfl rfl ?_
    refine wp_get (v := .int (m.F 12 7)) (pc' := 61) rfl (hq_12 _) rfl rfl ?_
    refine wl_cv (As := [.ref r1, .int (m.F 12 7)]) (r := []) (pc' := 64) rfl (sm_inv_tbl h_r1 _ rfl rfl rfl) rfl k ?_
    rintro _ m4 ⟨rfl, k⟩
    show sm_wp (d + 1) 19 64 lv0 [] (hp m4) (WQ K)
    refine wp_p (pc' := 65) (lv' := lv0) (st' := [.int (nI 0)]) rfl rfl ?_
    exact wl_ret rfl rfl ⟨_, rfl, k⟩
  replace k := it_f (c := (m.F 12 4) = nI 5) c3 k
  by_cases c5 : (m.F 12 4) = nI 6
  · replace k := it_t (c := (m.F 12 4) = nI 6) c5 k
    refine wl_sw (pc' := 66) (r := []) c5 rfl rfl ?_
    refine wl_ald_n (pc' := 67) rfl e_0 rfl ?_
    refine wl_ald_n (pc' := 68) rfl e_1 rfl ?_
    refine wl_cv (As := [.ref 0, .ref r1]) (r := []) (pc' := 71) rfl rfl rfl k ?_
    rintro _ m6 ⟨w7, rfl, k⟩
    show sm_wp (d + 1) 19 71 lv0 [.int w7] (hp m6) (WQ K)
    exact wl_ret rfl rfl ⟨_, rfl, k⟩
  replace k := it_f (c := (m.F 12 4) = nI 6) c5 k
  by_cases c8 : (m.F 12 4) = nI 7
  · replace k := it_t (c := (m.F 12 4) = nI 7) c8 k
    refine wl_sw (pc' := 72) (r := []) c8 rfl rfl ?_
    refine wl_ald_n (pc' := 73) rfl e_0 rfl ?_
    refine wl_ald_n (pc' := 74) rfl e_1 rfl ?_
    refine wl_cv (As := [.ref 0, .ref r1]) (r := []) (pc' := 77) rfl rfl rfl k ?_
    rintro _ m9 ⟨w10, rfl, k⟩
    show sm_wp (d + 1) 19 77 lv0 [.int w10] (hp m9) (WQ K)
    exact wl_ret rfl rfl ⟨_, rfl, k⟩
  replace k := it_f (c := (m.F 12 4) = nI 7) c8 k
  by_cases c11 : (m.F 12 4) = nI 8
  · replace k := it_t (c := (m.F 12 4) = nI 8) c11 k
    refine wl_sw (pc' := 78) (r := []) c11 rfl rfl ?_
    refine wl_ald_n (pc' := 79) rfl e_0 rfl ?_
    refine wl_ald_n (pc' := 80) rfl e_1 rfl ?_
    refine wl_cv (As := [.ref 0, .ref r1]) (r := []) (pc' := 83) rfl rfl rfl k ?_
    rintro _ m12 ⟨w13, rfl, k⟩
    show sm_wp (d + 1) 19 83 lv0 [.int w13] (hp m12) (WQ K)
    exact wl_ret rfl rfl ⟨_, rfl, k⟩
  replace k := it_f (c := (m.F 12 4) = nI 8) c11 k
  have nc1 := sw_ne (n := 4) (by decide) c1
  have nc3 := sw_ne (n := 5) (by decide) c3
  have nc5 := sw_ne (n := 6) (by decide) c5
  have nc8 := sw_ne (n := 7) (by decide) c8
  have nc11 := sw_ne (n := 8) (by decide) c11
  refine wl_td (pc' := 84) (r := []) rfl (by omega) rfl ?_
  refine wl_ald_n (pc' := 85) rfl e_0 rfl ?_
  refine wl_cv (As := [.ref 0]) (r := []) (pc' := 88) rfl rfl rfl k ?_
  rintro _ m14 ⟨w15, rfl, k⟩
  show sm_wp (d + 1) 19 88 lv0 [.int w15] (hp m14) (WQ K)
  exact wl_ret rfl rfl ⟨_, rfl, k⟩
/-! 20: QueryTables.insert -/
set_option maxRecDepth 20000 in
theorem sp_20 {d : Nat} {m : Mm} {K : Option Value → Mm → Prop} (r1 : Nat) (h_r1 : tbl r1) (k : WH d 20 2 [(0, .ref 0), (1, .ref r1), (2, .int (nI 0))] [] m K) : WP d 20 [.ref 0, .ref r1] m K := by
  have e_0 : sm_lk (lv_args 0 [.ref 0, .ref r1]) 0 = some (.ref 0) := rfl
  have e_1 : sm_lk (lv_args 0 [.ref 0, .ref r1]) 1 = some (.ref r1) := rfl
  show sm_wp d 20 0 (lv_args 0 [.ref 0, .ref r1]) [] (hp m) (WQ K)
  generalize lv_args 0 [.ref 0, .ref r1] = lv0 at *
  refine wp_p (pc' := 1) (lv' := lv0) (st' := [.int (nI 0)]) rfl rfl ?_
  refine wl_st1 (pc' := 2) (k0 := 2) (v := .int (nI 0)) (r := []) rfl rfl (fun lv1 e2 f3 => ?_)
  have e4 := f3 0 _ e_0 (by decide) rfl
  have e5 := f3 1 _ e_1 (by decide) rfl
  exact k _ ⟨e4, e5, e2, trivial⟩
set_option maxRecDepth 20000 in
theorem sg_20_2 {d : Nat} {m : Mm} {K : Option Value → Mm → Prop} (r1 : Nat) (x2 : Int32) (h_r1 : tbl r1) (k : (if (m.F 12 9) ≤ x2 then ok (m.B 41).length (nI 0) ∧ (if (lg_cmp ((m.B 41).getD (ix (nI 0)) 0) 1099511627776) = (nI 0) then K (some (.int (nI 4))) m else ok (m.B 41).length (nI 0) ∧ WP d 30 [.ref r1, .int (nI 0), .long ((m.B 41).getD (ix (nI 0)) 0)] m (fun v m5 => ∃ w6, v = some (.int w6) ∧ (if w6 ≤ (nI 0) then (if (m5.F r1 3) < (nI 20) then WP d 33 [.ref r1, .ref 41] m5 (fun v m9 => v = none ∧ K (some (.int (nI 0))) (m9.uF 0 11 (nI 1))) else K (some (.int (nI 5))) m5) else K (some (.int (nI 4))) m5))) else (if (nI 4) ≤ x2 then ok (m.B 41).length (nI 0) ∧ (if (lg_cmp ((m.B 41).getD (ix (nI 0)) 0) 1099511627776) = (nI 0) then K (some (.int (nI 4))) m else ok (m.B 41).length (nI 0) ∧ WP d 30 [.ref r1, .int (nI 0), .long ((m.B 41).getD (ix (nI 0)) 0)] m (fun v m14 => ∃ w15, v = some (.int w15) ∧ (if w15 ≤ (nI 0) then (if (m14.F r1 3) < (nI 20) then WP d 33 [.ref r1, .ref 41] m14 (fun v m18 => v = none ∧ K (some (.int (nI 0))) (m18.uF 0 11 (nI 1))) else K (some (.int (nI 5))) m14) else K (some (.int (nI 4))) m14))) else WP d 61 [.ref 12, .int x2] m (fun v m19 => ∃ w20, v = some (.int w20) ∧ WP d 62 [.ref 12, .int x2] m19 (fun v m21 => ∃ w22, v = some (.int w22) ∧ WP d 51 [.ref 17, .int w20, .int w22, .ref 23] m21 (fun v m23 => ∃ w24, v = some (.long w24) ∧ ok (m23.B 41).length x2 ∧ WH (d + 1) 20 2 [(0, .ref 0), (1, .ref r1), (2, .int (x2 + nI 1))] [] (m23.uB 41 ((m23.B 41).set (ix x2) w24)) K)))))) : WH (d + 1) 20 2 [(0, .ref 0), (1, .ref r1), (2, .int x2)] [] m K := by
  intro lv0 el
  obtain ⟨e_0, e_1, e_2, _⟩ := el
  refine wl_ild_n (pc' := 3) rfl e_2 rfl ?_
  refine wl_ald_n (pc' := 4) rfl e_0 rfl ?_
  refine wp_get (v := .ref 12) (pc' := 7) rfl (hq_0 _) rfl rfl ?_
  refine wp_get (v := .int (m.F 12 9)) (pc' := 10) rfl (hq_12 _) rfl rfl ?_
  refine wp_ic_ge (pc' := 13) rfl rfl (fun c1 => ?_) (fun c1 => ?_)
  · replace k := it_t (c := (m.F 12 9) ≤ x2) c1 k
    refine wl_ald_n (pc' := 58) rfl e_0 rfl ?_
    refine wp_get (v := .ref 41) (pc' := 61) rfl (hq_0 _) rfl rfl ?_
    refine wp_p (pc' := 62) (lv' := lv0) (st' := [.int (nI 0), .ref 41]) rfl rfl ?_
    obtain ⟨k2, k⟩ := k
    refine wl_laload (g := m.B 41) (pc' := 63) rfl (hq_41 _) k2 rfl ?_
    refine wp_p (pc' := 66) (lv' := lv0) (st' := [.long 1099511627776, .long ((m.B 41).getD (ix (nI 0)) 0)]) rfl rfl ?_
    refine wp_lcmp (v := lg_cmp ((m.B 41).getD (ix (nI 0)) 0) 1099511627776) (pc' := 67) rfl rfl rfl ?_
    refine wp_if_eq (pc' := 70) rfl rfl (fun c3 => ?_) (fun c3 => ?_)
    · replace k := it_t (c := (lg_cmp ((m.B 41).getD (ix (nI 0)) 0) 1099511627776) = (nI 0)) c3 k
      refine wp_p (pc' := 85) (lv' := lv0) (st' := [.int (nI 4)]) rfl rfl ?_
      exact wl_ret rfl rfl ⟨_, rfl, k⟩
    · replace k := it_f (c := (lg_cmp ((m.B 41).getD (ix (nI 0)) 0) 1099511627776) = (nI 0)) c3 k
      refine wl_ald_n (pc' := 71) rfl e_1 rfl ?_
      refine wp_p (pc' := 72) (lv' := lv0) (st' := [.int (nI 0), .ref r1]) rfl rfl ?_
      refine wl_ald_n (pc' := 73) rfl e_0 rfl ?_
      refine wp_get (v := .ref 41) (pc' := 76) rfl (hq_0 _) rfl rfl ?_
      refine wp_p (pc' := 77) (lv' := lv0) (st' := [.int (nI 0), .ref 41, .int (nI 0), .ref r1]) rfl rfl ?_
      obtain ⟨k4, k⟩ := k
      refine wl_laload (g := m.B 41) (pc' := 78) rfl (hq_41 _) k4 rfl ?_
      refine wl_cv (As := [.ref r1, .int (nI 0), .long ((m.B 41).getD (ix (nI 0)) 0)]) (r := []) (pc' := 81) rfl (sm_inv_tbl h_r1 _ rfl rfl rfl) rfl k ?_
      rintro _ m5 ⟨w6, rfl, k⟩
      show sm_wp (d + 1) 20 81 lv0 [.int w6] (hp m5) (WQ K)
      refine wp_if_le (pc' := 84) rfl rfl (fun c7 => ?_) (fun c7 => ?_)
      · replace k := it_t (c := w6 ≤ (nI 0)) c7 k
        refine wl_ald_n (pc' := 87) rfl e_1 rfl ?_
        refine wp_get (v := .int (m5.F r1 3)) (pc' := 90) rfl (hq_tbl h_r1 _) rfl rfl ?_
        refine wp_p (pc' := 92) (lv' := lv0) (st' := [.int (nI 20), .int (m5.F r1 3)]) rfl rfl ?_
        refine wp_ic_lt (pc' := 95) rfl rfl (fun c8 => ?_) (fun c8 => ?_)
        · replace k := it_t (c := (m5.F r1 3) < (nI 20)) c8 k
          refine wl_ald_n (pc' := 98) rfl e_1 rfl ?_
          refine wl_ald_n (pc' := 99) rfl e_0 rfl ?_
          refine wp_get (v := .ref 41) (pc' := 102) rfl (hq_0 _) rfl rfl ?_
          refine wl_cv (As := [.ref r1, .ref 41]) (r := []) (pc' := 105) rfl (sm_inv_tbl h_r1 _ rfl rfl rfl) rfl k ?_
          rintro _ m9 ⟨rfl, k⟩
          show sm_wp (d + 1) 20 105 lv0 [] (hp m9) (WQ K)
          refine wl_ald_n (pc' := 106) rfl e_0 rfl ?_
          refine wp_p (pc' := 107) (lv' := lv0) (st' := [.int (nI 1), .ref 0]) rfl rfl ?_
          refine wl_put (pc' := 110) (h2 := hp (m9.uF 0 11 (nI 1))) rfl (hq_0 _) rfl rfl rfl (pf_0_11 _ _) ?_
          refine wp_p (pc' := 111) (lv' := lv0) (st' := [.int (nI 0)]) rfl rfl ?_
          exact wl_ret rfl rfl ⟨_, rfl, k⟩
        · replace k := it_f (c := (m5.F r1 3) < (nI 20)) c8 k
          refine wp_p (pc' := 96) (lv' := lv0) (st' := [.int (nI 5)]) rfl rfl ?_
          exact wl_ret rfl rfl ⟨_, rfl, k⟩
      · replace k := it_f (c := w6 ≤ (nI 0)) c7 k
        refine wp_p (pc' := 85) (lv' := lv0) (st' := [.int (nI 4)]) rfl rfl ?_
        exact wl_ret rfl rfl ⟨_, rfl, k⟩
  · replace k := it_f (c := (m.F 12 9) ≤ x2) c1 k
    refine wl_ild_n (pc' := 14) rfl e_2 rfl ?_
    refine wp_p (pc' := 15) (lv' := lv0) (st' := [.int (nI 4), .int x2]) rfl rfl ?_
    refine wp_ic_ge (pc' := 18) rfl rfl (fun c10 => ?_) (fun c10 => ?_)
    · replace k := it_t (c := (nI 4) ≤ x2) c10 k
      refine wl_ald_n (pc' := 58) rfl e_0 rfl ?_
      refine wp_get (v := .ref 41) (pc' := 61) rfl (hq_0 _) rfl rfl ?_
      refine wp_p (pc' := 62) (lv' := lv0) (st' := [.int (nI 0), .ref 41]) rfl rfl ?_
      obtain ⟨k11, k⟩ := k
      refine wl_laload (g := m.B 41) (pc' := 63) rfl (hq_41 _) k11 rfl ?_
      refine wp_p (pc' := 66) (lv' := lv0) (st' := [.long 1099511627776, .long ((m.B 41).getD (ix (nI 0)) 0)]) rfl rfl ?_
      refine wp_lcmp (v := lg_cmp ((m.B 41).getD (ix (nI 0)) 0) 1099511627776) (pc' := 67) rfl rfl rfl ?_
      refine wp_if_eq (pc' := 70) rfl rfl (fun c12 => ?_) (fun c12 => ?_)
      · replace k := it_t (c := (lg_cmp ((m.B 41).getD (ix (nI 0)) 0) 1099511627776) = (nI 0)) c12 k
        refine wp_p (pc' := 85) (lv' := lv0) (st' := [.int (nI 4)]) rfl rfl ?_
        exact wl_ret rfl rfl ⟨_, rfl, k⟩
      · replace k := it_f (c := (lg_cmp ((m.B 41).getD (ix (nI 0)) 0) 1099511627776) = (nI 0)) c12 k
        refine wl_ald_n (pc' := 71) rfl e_1 rfl ?_
        refine wp_p (pc' := 72) (lv' := lv0) (st' := [.int (nI 0), .ref r1]) rfl rfl ?_
        refine wl_ald_n (pc' := 73) rfl e_0 rfl ?_
        refine wp_get (v := .ref 41) (pc' := 76) rfl (hq_0 _) rfl rfl ?_
        refine wp_p (pc' := 77) (lv' := lv0) (st' := [.int (nI 0), .ref 41, .int (nI 0), .ref r1]) rfl rfl ?_
        obtain ⟨k13, k⟩ := k
        refine wl_laload (g := m.B 41) (pc' := 78) rfl (hq_41 _) k13 rfl ?_
        refine wl_cv (As := [.ref r1, .int (nI 0), .long ((m.B 41).getD (ix (nI 0)) 0)]) (r := []) (pc' := 81) rfl (sm_inv_tbl h_r1 _ rfl rfl rfl) rfl k ?_
        rintro _ m14 ⟨w15, rfl, k⟩
        show sm_wp (d + 1) 20 81 lv0 [.int w15] (hp m14) (WQ K)
        refine wp_if_le (pc' := 84) rfl rfl (fun c16 => ?_) (fun c16 => ?_)
        · replace k := it_t (c := w15 ≤ (nI 0)) c16 k
          refine wl_ald_n (pc' := 87) rfl e_1 rfl ?_
          refine wp_get (v := .int (m14.F r1 3)) (pc' := 90) rfl (hq_tbl h_r1 _) rfl rfl ?_
          refine wp_p (pc' := 92) (lv' := lv0) (st' := [.int (nI 20), .int (m14.F r1 3)]) rfl rfl ?_
          refine wp_ic_lt (pc' := 95) rfl rfl (fun c17 => ?_) (fun c17 => ?_)
          · replace k := it_t (c := (m14.F r1 3) < (nI 20)) c17 k
            refine wl_ald_n (pc' := 98) rfl e_1 rfl ?_
            refine wl_ald_n (pc' := 99) rfl e_0 rfl ?_
            refine wp_get (v := .ref 41) (pc' := 102) rfl (hq_0 _) rfl rfl ?_
            refine wl_cv (As := [.ref r1, .ref 41]) (r := []) (pc' := 105) rfl (sm_inv_tbl h_r1 _ rfl rfl rfl) rfl k ?_
            rintro _ m18 ⟨rfl, k⟩
            show sm_wp (d + 1) 20 105 lv0 [] (hp m18) (WQ K)
            refine wl_ald_n (pc' := 106) rfl e_0 rfl ?_
            refine wp_p (pc' := 107) (lv' := lv0) (st' := [.int (nI 1), .ref 0]) rfl rfl ?_
            refine wl_put (pc' := 110) (h2 := hp (m18.uF 0 11 (nI 1))) rfl (hq_0 _) rfl rfl rfl (pf_0_11 _ _) ?_
            refine wp_p (pc' := 111) (lv' := lv0) (st' := [.int (nI 0)]) rfl rfl ?_
            exact wl_ret rfl rfl ⟨_, rfl, k⟩
          · replace k := it_f (c := (m14.F r1 3) < (nI 20)) c17 k
            refine wp_p (pc' := 96) (lv' := lv0) (st' := [.int (nI 5)]) rfl rfl ?_
            exact wl_ret rfl rfl ⟨_, rfl, k⟩
        · replace k := it_f (c := w15 ≤ (nI 0)) c16 k
          refine wp_p (pc' := 85) (lv' := lv0) (st' := [.int (nI 4)]) rfl rfl ?_
          exact wl_ret rfl rfl ⟨_, rfl, k⟩
    · replace k := it_f (c := (nI 4) ≤ x2) c10 k
      refine wl_ald_n (pc' := 19) rfl e_0 rfl ?_
      refine wp_get (v := .ref 41) (pc' := 22) rfl (hq_0 _) rfl rfl ?_
      refine wl_ild_n (pc' := 23) rfl e_2 rfl ?_
      refine wl_ald_n (pc' := 24) rfl e_0 rfl ?_
      refine wp_get (v := .ref 17) (pc' := 27) rfl (hq_0 _) rfl rfl ?_
      refine wl_ald_n (pc' := 28) rfl e_0 rfl ?_
      refine wp_get (v := .ref 12) (pc' := 31) rfl (hq_0 _) rfl rfl ?_
      refine wl_ild_n (pc' := 32) rfl e_2 rfl ?_
      refine wl_cv (As := [.ref 12, .int x2]) (r := [.ref 17, .int x2, .ref 41]) (pc' := 35) rfl rfl rfl k ?_
      rintro _ m19 ⟨w20, rfl, k⟩
      show sm_wp (d + 1) 20 35 lv0 [.int w20, .ref 17, .int x2, .ref 41] (hp m19) (WQ K)
      refine wl_ald_n (pc' := 36) rfl e_0 rfl ?_
      refine wp_get (v := .ref 12) (pc' := 39) rfl (hq_0 _) rfl rfl ?_
      refine wl_ild_n (pc' := 40) rfl e_2 rfl ?_
      refine wl_cv (As := [.ref 12, .int x2]) (r := [.int w20, .ref 17, .int x2, .ref 41]) (pc' := 43) rfl rfl rfl k ?_
      rintro _ m21 ⟨w22, rfl, k⟩
      show sm_wp (d + 1) 20 43 lv0 [.int w22, .int w20, .ref 17, .int x2, .ref 41] (hp m21) (WQ K)
      refine wl_ald_n (pc' := 44) rfl e_0 rfl ?_
      refine wp_get (v := .ref 23) (pc' := 47) rfl (hq_0 _) rfl rfl ?_
      refine wl_cv (As := [.ref 17, .int w20, .int w22, .ref 23]) (r := [.int x2, .ref 41]) (pc' := 50) rfl rfl rfl k ?_
      rintro _ m23 ⟨w24, rfl, k⟩
      show sm_wp (d + 1) 20 50 lv0 [.long w24, .int x2, .ref 41] (hp m23) (WQ K)
      obtain ⟨k25, k⟩ := k
      refine wl_lastore (g := m23.B 41) (pc' := 51) (h2 := hp (m23.uB 41 ((m23.B 41).set (ix x2) w24))) rfl (hq_41 _) k25 rfl (pa_41 _ _) ?_
      refine wl_iinc (pc' := 54) (v := x2 + nI 1) rfl e_2 rfl rfl rfl (fun lv26 e27 f28 => ?_)
      have e29 := f28 0 _ e_0 (by decide) rfl
      have e30 := f28 1 _ e_1 (by decide) rfl
      refine wp_p (pc' := 2) (lv' := lv26) (st' := []) rfl rfl ?_
      exact k _ ⟨e29, e30, e27, trivial⟩
/-! 21: QueryTables.update -/
set_option maxRecDepth 20000 in
theorem sp_21 {d : Nat} {m : Mm} {K : Option Value → Mm → Prop} (r1 : Nat) (h_r1 : tbl r1) (k : WP d 35 [.ref r1, .int (m.F 12 7), .ref 41] m (fun v m1 => v = none ∧ WH (d + 1) 21 17 [(0, .ref 0), (1, .ref r1), (2, .int (nI 0))] [] m1 K)) : WP (d + 1) 21 [.ref 0, .ref r1] m K := by
  have e_0 : sm_lk (lv_args 0 [.ref 0, .ref r1]) 0 = some (.ref 0) := rfl
  have e_1 : sm_lk (lv_args 0 [.ref 0, .ref r1]) 1 = some (.ref r1) := rfl
  show sm_wp (d + 1) 21 0 (lv_args 0 [.ref 0, .ref r1]) [] (hp m) (WQ K)
  generalize lv_args 0 [.ref 0, .ref r1] = lv0 at *
  refine wl_ald_n (pc' := 1) rfl e_1 rfl ?_
  refine wl_ald_n (pc' := 2) rfl e_0 rfl ?_
  refine wp_get (v := .ref 12) (pc' := 5) rfl (hq_0 _) rfl rfl ?_
  refine wp_get (v := .int (m.F 12 7)) (pc' := 8) rfl (hq_12 _) rfl rfl ?_
  refine wl_ald_n (pc' := 9) rfl e_0 rfl ?_
  refine wp_get (v := .ref 41) (pc' := 12) rfl (hq_0 _) rfl rfl ?_
  refine wl_cv (As := [.ref r1, .int (m.F 12 7), .ref 41]) (r := []) (pc' := 15) rfl (sm_inv_tbl h_r1 _ rfl rfl rfl) rfl k ?_
  rintro _ m1 ⟨rfl, k⟩
  show sm_wp (d + 1) 21 15 lv0 [] (hp m1) (WQ K)
  refine wp_p (pc' := 16) (lv' := lv0) (st' := [.int (nI 0)]) rfl rfl ?_
  refine wl_st1 (pc' := 17) (k0 := 2) (v := .int (nI 0)) (r := []) rfl rfl (fun lv2 e3 f4 => ?_)
  have e5 := f4 0 _ e_0 (by decide) rfl
  have e6 := f4 1 _ e_1 (by decide) rfl
  exact k _ ⟨e5, e6, e3, trivial⟩
set_option maxRecDepth 20000 in
theorem sg_21_17 {d : Nat} {m : Mm} {K : Option Value → Mm → Prop} (r1 : Nat) (x2 : Int32) (h_r1 : tbl r1) (k : (if (m.F 30 15) ≤ x2 then (if (m.F 12 7) = (nI 0) then WP d 22 [.ref 41, .int (m.F r1 3)] m (fun v m4 => ∃ w5, v = some (.int w5) ∧ (if w5 = (nI 0) then K (some (.int (nI 4))) m4 else WP d 36 [.ref r1, .int (m4.F 12 7), .ref 41] m4 (fun v m7 => v = none ∧ K (some (.int (nI 0))) (m7.uF 0 11 (m7.F 30 15))))) else WP d 36 [.ref r1, .int (m.F 12 7), .ref 41] m (fun v m3 => v = none ∧ K (some (.int (nI 0))) (m3.uF 0 11 (m3.F 30 15)))) else (if (nI 20) ≤ x2 then (if (m.F 12 7) = (nI 0) then WP d 22 [.ref 41, .int (m.F r1 3)] m (fun v m11 => ∃ w12, v = some (.int w12) ∧ (if w12 = (nI 0) then K (some (.int (nI 4))) m11 else WP d 36 [.ref r1, .int (m11.F 12 7), .ref 41] m11 (fun v m14 => v = none ∧ K (some (.int (nI 0))) (m14.uF 0 11 (m14.F 30 15))))) else WP d 36 [.ref r1, .int (m.F 12 7), .ref 41] m (fun v m10 => v = none ∧ K (some (.int (nI 0))) (m10.uF 0 11 (m10.F 30 15)))) else WP d 130 [.ref 30, .int x2] m (fun v m15 => v = none ∧ WP d 42 [.ref 23, .int (nI 0)] m15 (fun v m16 => ∃ w17, v = some (.int w17) ∧ WP d 61 [.ref 12, .int (nI 0)] m16 (fun v m18 => ∃ w19, v = some (.int w19) ∧ WP d 62 [.ref 12, .int (nI 0)] m18 (fun v m20 => ∃ w21, v = some (.int w21) ∧ WP d 51 [.ref 17, .int w19, .int w21, .ref 23] m20 (fun v m22 => ∃ w23, v = some (.long w23) ∧ ok (m22.B 41).length w17 ∧ WH (d + 1) 21 17 [(0, .ref 0), (1, .ref r1), (2, .int (x2 + nI 1))] [] (m22.uB 41 ((m22.B 41).set (ix w17) w23)) K)))))))) : WH (d + 1) 21 17 [(0, .ref 0), (1, .ref r1), (2, .int x2)] [] m K := by
  intro lv0 el
  obtain ⟨e_0, e_1, e_2, _⟩ := el
  refine wl_ild_n (pc' := 18) rfl e_2 rfl ?_
  refine wl_ald_n (pc' := 19) rfl e_0 rfl ?_
  refine wp_get (v := .ref 30) (pc' := 22) rfl (hq_0 _) rfl rfl ?_
  refine wp_get (v := .int (m.F 30 15)) (pc' := 25) rfl (hq_30 _) rfl rfl ?_
  refine wp_ic_ge (pc' := 28) rfl rfl (fun c1 => ?_) (fun c1 => ?_)
  · replace k := it_t (c := (m.F 30 15) ≤ x2) c1 k
    refine wl_ald_n (pc' := 89) rfl e_0 rfl ?_
    refine wp_get (v := .ref 12) (pc' := 92) rfl (hq_0 _) rfl rfl ?_
    refine wp_get (v := .int (m.F 12 7)) (pc' := 95) rfl (hq_12 _) rfl rfl ?_
    refine wp_if_ne (pc' := 98) rfl rfl (fun c2 => ?_) (fun c2 => ?_)
    · replace k := it_f (c := (m.F 12 7) = (nI 0)) c2 k
      refine wl_ald_n (pc' := 115) rfl e_1 rfl ?_
      refine wl_ald_n (pc' := 116) rfl e_0 rfl ?_
      refine wp_get (v := .ref 12) (pc' := 119) rfl (hq_0 _) rfl rfl ?_
      refine wp_get (v := .int (m.F 12 7)) (pc' := 122) rfl (hq_12 _) rfl rfl ?_
      refine wl_ald_n (pc' := 123) rfl e_0 rfl ?_
      refine wp_get (v := .ref 41) (pc' := 126) rfl (hq_0 _) rfl rfl ?_
      refine wl_cv (As := [.ref r1, .int (m.F 12 7), .ref 41]) (r := []) (pc' := 129) rfl (sm_inv_tbl h_r1 _ rfl rfl rfl) rfl k ?_
      rintro _ m3 ⟨rfl, k⟩
      show sm_wp (d + 1) 21 129 lv0 [] (hp m3) (WQ K)
      refine wl_ald_n (pc' := 130) rfl e_0 rfl ?_
      refine wl_ald_n (pc' := 131) rfl e_0 rfl ?_
      refine wp_get (v := .ref 30) (pc' := 134) rfl (hq_0 _) rfl rfl ?_
      refine wp_get (v := .int (m3.F 30 15)) (pc' := 137) rfl (hq_30 _) rfl rfl ?_
      refine wl_put (pc' := 140) (h2 := hp (m3.uF 0 11 (m3.F 30 15))) rfl (hq_0 _) rfl rfl rfl (pf_0_11 _ _) ?_
      refine wp_p (pc' := 141) (lv' := lv0) (st' := [.int (nI 0)]) rfl rfl ?_
      exact wl_ret rfl rfl ⟨_, rfl, k⟩
    · replace k := it_t (c := (m.F 12 7) = (nI 0)) c2 k
      refine wl_ald_n (pc' := 99) rfl e_0 rfl ?_
      refine wp_get (v := .ref 41) (pc' := 102) rfl (hq_0 _) rfl rfl ?_
      refine wl_ald_n (pc' := 103) rfl e_1 rfl ?_
      refine wp_get (v := .int (m.F r1 3)) (pc' := 106) rfl (hq_tbl h_r1 _) rfl rfl ?_
      refine wl_cs (As := [.ref 41, .int (m.F r1 3)]) (r := []) (pc' := 109) rfl rfl rfl rfl k ?_
      rintro _ m4 ⟨w5, rfl, k⟩
      show sm_wp (d + 1) 21 109 lv0 [.int w5] (hp m4) (WQ K)
      refine wp_if_ne (pc' := 112) rfl rfl (fun c6 => ?_) (fun c6 => ?_)
      · replace k := it_f (c := w5 = (nI 0)) c6 k
        refine wl_ald_n (pc' := 115) rfl e_1 rfl ?_
        refine wl_ald_n (pc' := 116) rfl e_0 rfl ?_
        refine wp_get (v := .ref 12) (pc' := 119) rfl (hq_0 _) rfl rfl ?_
        refine wp_get (v := .int (m4.F 12 7)) (pc' := 122) rfl (hq_12 _) rfl rfl ?_
        refine wl_ald_n (pc' := 123) rfl e_0 rfl ?_
        refine wp_get (v := .ref 41) (pc' := 126) rfl (hq_0 _) rfl rfl ?_
        refine wl_cv (As := [.ref r1, .int (m4.F 12 7), .ref 41]) (r := []) (pc' := 129) rfl (sm_inv_tbl h_r1 _ rfl rfl rfl) rfl k ?_
        rintro _ m7 ⟨rfl, k⟩
        show sm_wp (d + 1) 21 129 lv0 [] (hp m7) (WQ K)
        refine wl_ald_n (pc' := 130) rfl e_0 rfl ?_
        refine wl_ald_n (pc' := 131) rfl e_0 rfl ?_
        refine wp_get (v := .ref 30) (pc' := 134) rfl (hq_0 _) rfl rfl ?_
        refine wp_get (v := .int (m7.F 30 15)) (pc' := 137) rfl (hq_30 _) rfl rfl ?_
        refine wl_put (pc' := 140) (h2 := hp (m7.uF 0 11 (m7.F 30 15))) rfl (hq_0 _) rfl rfl rfl (pf_0_11 _ _) ?_
        refine wp_p (pc' := 141) (lv' := lv0) (st' := [.int (nI 0)]) rfl rfl ?_
        exact wl_ret rfl rfl ⟨_, rfl, k⟩
      · replace k := it_t (c := w5 = (nI 0)) c6 k
        refine wp_p (pc' := 113) (lv' := lv0) (st' := [.int (nI 4)]) rfl rfl ?_
        exact wl_ret rfl rfl ⟨_, rfl, k⟩
  · replace k := it_f (c := (m.F 30 15) ≤ x2) c1 k
    refine wl_ild_n (pc' := 29) rfl e_2 rfl ?_
    refine wp_p (pc' := 31) (lv' := lv0) (st' := [.int (nI 20), .int x2]) rfl rfl ?_
    refine wp_ic_ge (pc' := 34) rfl rfl (fun c8 => ?_) (fun c8 => ?_)
    · replace k := it_t (c := (nI 20) ≤ x2) c8 k
      refine wl_ald_n (pc' := 89) rfl e_0 rfl ?_
      refine wp_get (v := .ref 12) (pc' := 92) rfl (hq_0 _) rfl rfl ?_
      refine wp_get (v := .int (m.F 12 7)) (pc' := 95) rfl (hq_12 _) rfl rfl ?_
      refine wp_if_ne (pc' := 98) rfl rfl (fun c9 => ?_) (fun c9 => ?_)
      · replace k := it_f (c := (m.F 12 7) = (nI 0)) c9 k
        refine wl_ald_n (pc' := 115) rfl e_1 rfl ?_
        refine wl_ald_n (pc' := 116) rfl e_0 rfl ?_
        refine wp_get (v := .ref 12) (pc' := 119) rfl (hq_0 _) rfl rfl ?_
        refine wp_get (v := .int (m.F 12 7)) (pc' := 122) rfl (hq_12 _) rfl rfl ?_
        refine wl_ald_n (pc' := 123) rfl e_0 rfl ?_
        refine wp_get (v := .ref 41) (pc' := 126) rfl (hq_0 _) rfl rfl ?_
        refine wl_cv (As := [.ref r1, .int (m.F 12 7), .ref 41]) (r := []) (pc' := 129) rfl (sm_inv_tbl h_r1 _ rfl rfl rfl) rfl k ?_
        rintro _ m10 ⟨rfl, k⟩
        show sm_wp (d + 1) 21 129 lv0 [] (hp m10) (WQ K)
        refine wl_ald_n (pc' := 130) rfl e_0 rfl ?_
        refine wl_ald_n (pc' := 131) rfl e_0 rfl ?_
        refine wp_get (v := .ref 30) (pc' := 134) rfl (hq_0 _) rfl rfl ?_
        refine wp_get (v := .int (m10.F 30 15)) (pc' := 137) rfl (hq_30 _) rfl rfl ?_
        refine wl_put (pc' := 140) (h2 := hp (m10.uF 0 11 (m10.F 30 15))) rfl (hq_0 _) rfl rfl rfl (pf_0_11 _ _) ?_
        refine wp_p (pc' := 141) (lv' := lv0) (st' := [.int (nI 0)]) rfl rfl ?_
        exact wl_ret rfl rfl ⟨_, rfl, k⟩
      · replace k := it_t (c := (m.F 12 7) = (nI 0)) c9 k
        refine wl_ald_n (pc' := 99) rfl e_0 rfl ?_
        refine wp_get (v := .ref 41) (pc' := 102) rfl (hq_0 _) rfl rfl ?_
        refine wl_ald_n (pc' := 103) rfl e_1 rfl ?_
        refine wp_get (v := .int (m.F r1 3)) (pc' := 106) rfl (hq_tbl h_r1 _) rfl rfl ?_
        refine wl_cs (As := [.ref 41, .int (m.F r1 3)]) (r := []) (pc' := 109) rfl rfl rfl rfl k ?_
        rintro _ m11 ⟨w12, rfl, k⟩
        show sm_wp (d + 1) 21 109 lv0 [.int w12] (hp m11) (WQ K)
        refine wp_if_ne (pc' := 112) rfl rfl (fun c13 => ?_) (fun c13 => ?_)
        · replace k := it_f (c := w12 = (nI 0)) c13 k
          refine wl_ald_n (pc' := 115) rfl e_1 rfl ?_
          refine wl_ald_n (pc' := 116) rfl e_0 rfl ?_
          refine wp_get (v := .ref 12) (pc' := 119) rfl (hq_0 _) rfl rfl ?_
          refine wp_get (v := .int (m11.F 12 7)) (pc' := 122) rfl (hq_12 _) rfl rfl ?_
          refine wl_ald_n (pc' := 123) rfl e_0 rfl ?_
          refine wp_get (v := .ref 41) (pc' := 126) rfl (hq_0 _) rfl rfl ?_
          refine wl_cv (As := [.ref r1, .int (m11.F 12 7), .ref 41]) (r := []) (pc' := 129) rfl (sm_inv_tbl h_r1 _ rfl rfl rfl) rfl k ?_
          rintro _ m14 ⟨rfl, k⟩
          show sm_wp (d + 1) 21 129 lv0 [] (hp m14) (WQ K)
          refine wl_ald_n (pc' := 130) rfl e_0 rfl ?_
          refine wl_ald_n (pc' := 131) rfl e_0 rfl ?_
          refine wp_get (v := .ref 30) (pc' := 134) rfl (hq_0 _) rfl rfl ?_
          refine wp_get (v := .int (m14.F 30 15)) (pc' := 137) rfl (hq_30 _) rfl rfl ?_
          refine wl_put (pc' := 140) (h2 := hp (m14.uF 0 11 (m14.F 30 15))) rfl (hq_0 _) rfl rfl rfl (pf_0_11 _ _) ?_
          refine wp_p (pc' := 141) (lv' := lv0) (st' := [.int (nI 0)]) rfl rfl ?_
          exact wl_ret rfl rfl ⟨_, rfl, k⟩
        · replace k := it_t (c := w12 = (nI 0)) c13 k
          refine wp_p (pc' := 113) (lv' := lv0) (st' := [.int (nI 4)]) rfl rfl ?_
          exact wl_ret rfl rfl ⟨_, rfl, k⟩
    · replace k := it_f (c := (nI 20) ≤ x2) c8 k
      refine wl_ald_n (pc' := 35) rfl e_0 rfl ?_
      refine wp_get (v := .ref 30) (pc' := 38) rfl (hq_0 _) rfl rfl ?_
      refine wl_ild_n (pc' := 39) rfl e_2 rfl ?_
      refine wl_cv (As := [.ref 30, .int x2]) (r := []) (pc' := 42) rfl rfl rfl k ?_
      rintro _ m15 ⟨rfl, k⟩
      show sm_wp (d + 1) 21 42 lv0 [] (hp m15) (WQ K)
      refine wl_ald_n (pc' := 43) rfl e_0 rfl ?_
      refine wp_get (v := .ref 41) (pc' := 46) rfl (hq_0 _) rfl rfl ?_
      refine wl_ald_n (pc' := 47) rfl e_0 rfl ?_
      refine wp_get (v := .ref 23) (pc' := 50) rfl (hq_0 _) rfl rfl ?_
      refine wp_p (pc' := 51) (lv' := lv0) (st' := [.int (nI 0), .ref 23, .ref 41]) rfl rfl ?_
      refine wl_cv (As := [.ref 23, .int (nI 0)]) (r := [.ref 41]) (pc' := 54) rfl rfl rfl k ?_
      rintro _ m16 ⟨w17, rfl, k⟩
      show sm_wp (d + 1) 21 54 lv0 [.int w17, .ref 41] (hp m16) (WQ K)
      refine wl_ald_n (pc' := 55) rfl e_0 rfl ?_
      refine wp_get (v := .ref 17) (pc' := 58) rfl (hq_0 _) rfl rfl ?_
      refine wl_ald_n (pc' := 59) rfl e_0 rfl ?_
      refine wp_get (v := .ref 12) (pc' := 62) rfl (hq_0 _) rfl rfl ?_
      refine wp_p (pc' := 63) (lv' := lv0) (st' := [.int (nI 0), .ref 12, .ref 17, .int w17, .ref 41]) rfl rfl ?_
      refine wl_cv (As := [.ref 12, .int (nI 0)]) (r := [.ref 17, .int w17, .ref 41]) (pc' := 66) rfl rfl rfl k ?_
      rintro _ m18 ⟨w19, rfl, k⟩
      show sm_wp (d + 1) 21 66 lv0 [.int w19, .ref 17, .int w17, .ref 41] (hp m18) (WQ K)
      refine wl_ald_n (pc' := 67) rfl e_0 rfl ?_
      refine wp_get (v := .ref 12) (pc' := 70) rfl (hq_0 _) rfl rfl ?_
      refine wp_p (pc' := 71) (lv' := lv0) (st' := [.int (nI 0), .ref 12, .int w19, .ref 17, .int w17, .ref 41]) rfl rfl ?_
      refine wl_cv (As := [.ref 12, .int (nI 0)]) (r := [.int w19, .ref 17, .int w17, .ref 41]) (pc' := 74) rfl rfl rfl k ?_
      rintro _ m20 ⟨w21, rfl, k⟩
      show sm_wp (d + 1) 21 74 lv0 [.int w21, .int w19, .ref 17, .int w17, .ref 41] (hp m20) (WQ K)
      refine wl_ald_n (pc' := 75) rfl e_0 rfl ?_
      refine wp_get (v := .ref 23) (pc' := 78) rfl (hq_0 _) rfl rfl ?_
      refine wl_cv (As := [.ref 17, .int w19, .int w21, .ref 23]) (r := [.int w17, .ref 41]) (pc' := 81) rfl rfl rfl k ?_
      rintro _ m22 ⟨w23, rfl, k⟩
      show sm_wp (d + 1) 21 81 lv0 [.long w23, .int w17, .ref 41] (hp m22) (WQ K)
      obtain ⟨k24, k⟩ := k
      refine wl_lastore (g := m22.B 41) (pc' := 82) (h2 := hp (m22.uB 41 ((m22.B 41).set (ix w17) w23))) rfl (hq_41 _) k24 rfl (pa_41 _ _) ?_
      refine wl_iinc (pc' := 85) (v := x2 + nI 1) rfl e_2 rfl rfl rfl (fun lv25 e26 f27 => ?_)
      have e28 := f27 0 _ e_0 (by decide) rfl
      have e29 := f27 1 _ e_1 (by decide) rfl
      refine wp_p (pc' := 17) (lv' := lv25) (st' := []) rfl rfl ?_
      exact k _ ⟨e28, e29, e26, trivial⟩
/-! 22: QueryTables.areKeys -/
set_option maxRecDepth 20000 in
theorem sp_22 {d : Nat} {m : Mm} {K : Option Value → Mm → Prop} (x1 : Int32) (k : WH d 22 2 [(0, .ref 41), (1, .int x1), (2, .int (nI 0))] [] m K) : WP d 22 [.ref 41, .int x1] m K := by
  have e_0 : sm_lk (lv_args 0 [.ref 41, .int x1]) 0 = some (.ref 41) := rfl
  have e_1 : sm_lk (lv_args 0 [.ref 41, .int x1]) 1 = some (.int x1) := rfl
  show sm_wp d 22 0 (lv_args 0 [.ref 41, .int x1]) [] (hp m) (WQ K)
  generalize lv_args 0 [.ref 41, .int x1] = lv0 at *
  refine wp_p (pc' := 1) (lv' := lv0) (st' := [.int (nI 0)]) rfl rfl ?_
  refine wl_st1 (pc' := 2) (k0 := 2) (v := .int (nI 0)) (r := []) rfl rfl (fun lv1 e2 f3 => ?_)
  have e4 := f3 0 _ e_0 (by decide) rfl
  have e5 := f3 1 _ e_1 (by decide) rfl
  exact k _ ⟨e4, e5, e2, trivial⟩
set_option maxRecDepth 20000 in
theorem sg_22_2 {d : Nat} {m : Mm} {K : Option Value → Mm → Prop} (x1 : Int32) (x2 : Int32) (k : (if x1 ≤ x2 then K (some (.int (nI 1))) m else (if (nI (m.B 41).length) ≤ x2 then K (some (.int (nI 1))) m else ok (m.B 41).length x2 ∧ (if (lg_cmp ((m.B 41).getD (ix x2) 0) 1099511627776) = (nI 0) then K (some (.int (nI 0))) m else WH d 22 27 [(0, .ref 41), (1, .int x1), (2, .int x2), (3, .int (nI 0))] [] m K)))) : WH d 22 2 [(0, .ref 41), (1, .int x1), (2, .int x2)] [] m K := by
  intro lv0 el
  obtain ⟨e_0, e_1, e_2, _⟩ := el
  refine wl_ild_n (pc' := 3) rfl e_2 rfl ?_
  refine wl_ild_n (pc' := 4) rfl e_1 rfl ?_
  refine wp_ic_ge (pc' := 7) rfl rfl (fun c1 => ?_) (fun c1 => ?_)
  · replace k := it_t (c := x1 ≤ x2) c1 k
    refine wp_p (pc' := 57) (lv' := lv0) (st' := [.int (nI 1)]) rfl rfl ?_
    exact wl_ret rfl rfl ⟨_, rfl, k⟩
  · replace k := it_f (c := x1 ≤ x2) c1 k
    refine wl_ild_n (pc' := 8) rfl e_2 rfl ?_
    refine wl_ald_n (pc' := 9) rfl e_0 rfl ?_
    refine wl_len (pc' := 10) (v := nI (m.B 41).length) rfl (hq_41 _) rfl rfl rfl ?_
    refine wp_ic_ge (pc' := 13) rfl rfl (fun c2 => ?_) (fun c2 => ?_)
    · replace k := it_t (c := (nI (m.B 41).length) ≤ x2) c2 k
      refine wp_p (pc' := 57) (lv' := lv0) (st' := [.int (nI 1)]) rfl rfl ?_
      exact wl_ret rfl rfl ⟨_, rfl, k⟩
    · replace k := it_f (c := (nI (m.B 41).length) ≤ x2) c2 k
      refine wl_ald_n (pc' := 14) rfl e_0 rfl ?_
      refine wl_ild_n (pc' := 15) rfl e_2 rfl ?_
      obtain ⟨k3, k⟩ := k
      refine wl_laload (g := m.B 41) (pc' := 16) rfl (hq_41 _) k3 rfl ?_
      refine wp_p (pc' := 19) (lv' := lv0) (st' := [.long 1099511627776, .long ((m.B 41).getD (ix x2) 0)]) rfl rfl ?_
      refine wp_lcmp (v := lg_cmp ((m.B 41).getD (ix x2) 0) 1099511627776) (pc' := 20) rfl rfl rfl ?_
      refine wp_if_ne (pc' := 23) rfl rfl (fun c4 => ?_) (fun c4 => ?_)
      · replace k := it_f (c := (lg_cmp ((m.B 41).getD (ix x2) 0) 1099511627776) = (nI 0)) c4 k
        refine wp_p (pc' := 26) (lv' := lv0) (st' := [.int (nI 0)]) rfl rfl ?_
        refine wl_st1 (pc' := 27) (k0 := 3) (v := .int (nI 0)) (r := []) rfl rfl (fun lv5 e6 f7 => ?_)
        have e8 := f7 0 _ e_0 (by decide) rfl
        have e9 := f7 1 _ e_1 (by decide) rfl
        have e10 := f7 2 _ e_2 (by decide) rfl
        exact k _ ⟨e8, e9, e10, e6, trivial⟩
      · replace k := it_t (c := (lg_cmp ((m.B 41).getD (ix x2) 0) 1099511627776) = (nI 0)) c4 k
        refine wp_p (pc' := 24) (lv' := lv0) (st' := [.int (nI 0)]) rfl rfl ?_
        exact wl_ret rfl rfl ⟨_, rfl, k⟩
set_option maxRecDepth 20000 in
theorem sg_22_27 {d : Nat} {m : Mm} {K : Option Value → Mm → Prop} (x1 : Int32) (x2 : Int32) (x3 : Int32) (k : (if x2 ≤ x3 then WH d 22 2 [(0, .ref 41), (1, .int x1), (2, .int (x2 + nI 1))] [] m K else ok (m.B 41).length x2 ∧ ok (m.B 41).length x3 ∧ (if (lg_cmp ((m.B 41).getD (ix x2) 0) ((m.B 41).getD (ix x3) 0)) = (nI 0) then K (some (.int (nI 0))) m else WH d 22 27 [(0, .ref 41), (1, .int x1), (2, .int x2), (3, .int (x3 + nI 1))] [] m K))) : WH d 22 27 [(0, .ref 41), (1, .int x1), (2, .int x2), (3, .int x3)] [] m K := by
  intro lv0 el
  obtain ⟨e_0, e_1, e_2, e_3, _⟩ := el
  refine wl_ild_n (pc' := 28) rfl e_3 rfl ?_
  refine wl_ild_n (pc' := 29) rfl e_2 rfl ?_
  refine wp_ic_ge (pc' := 32) rfl rfl (fun c1 => ?_) (fun c1 => ?_)
  · replace k := it_t (c := x2 ≤ x3) c1 k
    refine wl_iinc (pc' := 53) (v := x2 + nI 1) rfl e_2 rfl rfl rfl (fun lv2 e3 f4 => ?_)
    have e5 := f4 0 _ e_0 (by decide) rfl
    have e6 := f4 1 _ e_1 (by decide) rfl
    have e7 := f4 3 _ e_3 (by decide) rfl
    refine wp_p (pc' := 2) (lv' := lv2) (st' := []) rfl rfl ?_
    exact k _ ⟨e5, e6, e3, trivial⟩
  · replace k := it_f (c := x2 ≤ x3) c1 k
    refine wl_ald_n (pc' := 33) rfl e_0 rfl ?_
    refine wl_ild_n (pc' := 34) rfl e_2 rfl ?_
    obtain ⟨k8, k⟩ := k
    refine wl_laload (g := m.B 41) (pc' := 35) rfl (hq_41 _) k8 rfl ?_
    refine wl_ald_n (pc' := 36) rfl e_0 rfl ?_
    refine wl_ild_n (pc' := 37) rfl e_3 rfl ?_
    obtain ⟨k9, k⟩ := k
    refine wl_laload (g := m.B 41) (pc' := 38) rfl (hq_41 _) k9 rfl ?_
    refine wp_lcmp (v := lg_cmp ((m.B 41).getD (ix x2) 0) ((m.B 41).getD (ix x3) 0)) (pc' := 39) rfl rfl rfl ?_
    refine wp_if_ne (pc' := 42) rfl rfl (fun c10 => ?_) (fun c10 => ?_)
    · replace k := it_f (c := (lg_cmp ((m.B 41).getD (ix x2) 0) ((m.B 41).getD (ix x3) 0)) = (nI 0)) c10 k
      refine wl_iinc (pc' := 47) (v := x3 + nI 1) rfl e_3 rfl rfl rfl (fun lv11 e12 f13 => ?_)
      have e14 := f13 0 _ e_0 (by decide) rfl
      have e15 := f13 1 _ e_1 (by decide) rfl
      have e16 := f13 2 _ e_2 (by decide) rfl
      refine wp_p (pc' := 27) (lv' := lv11) (st' := []) rfl rfl ?_
      exact k _ ⟨e14, e15, e16, e12, trivial⟩
    · replace k := it_t (c := (lg_cmp ((m.B 41).getD (ix x2) 0) ((m.B 41).getD (ix x3) 0)) = (nI 0)) c10 k
      refine wp_p (pc' := 43) (lv' := lv0) (st' := [.int (nI 0)]) rfl rfl ?_
      exact wl_ret rfl rfl ⟨_, rfl, k⟩
/-! 23: QueryTables.delete -/
set_option maxRecDepth 20000 in
theorem sp_23 {d : Nat} {m : Mm} {K : Option Value → Mm → Prop} (r1 : Nat) (h_r1 : tbl r1) (k : WH d 23 10 [(0, .ref 0), (1, .ref r1), (2, .int ((m.F 30 15) - (nI 1)))] [] m K) : WP d 23 [.ref 0, .ref r1] m K := by
  have e_0 : sm_lk (lv_args 0 [.ref 0, .ref r1]) 0 = some (.ref 0) := rfl
  have e_1 : sm_lk (lv_args 0 [.ref 0, .ref r1]) 1 = some (.ref r1) := rfl
  show sm_wp d 23 0 (lv_args 0 [.ref 0, .ref r1]) [] (hp m) (WQ K)
  generalize lv_args 0 [.ref 0, .ref r1] = lv0 at *
  refine wl_ald_n (pc' := 1) rfl e_0 rfl ?_
  refine wp_get (v := .ref 30) (pc' := 4) rfl (hq_0 _) rfl rfl ?_
  refine wp_get (v := .int (m.F 30 15)) (pc' := 7) rfl (hq_30 _) rfl rfl ?_
  refine wp_p (pc' := 8) (lv' := lv0) (st' := [.int (nI 1), .int (m.F 30 15)]) rfl rfl ?_
  refine wp_isub (v := (m.F 30 15) - (nI 1)) (pc' := 9) rfl rfl rfl ?_
  refine wl_st1 (pc' := 10) (k0 := 2) (v := .int ((m.F 30 15) - (nI 1))) (r := []) rfl rfl (fun lv1 e2 f3 => ?_)
  have e4 := f3 0 _ e_0 (by decide) rfl
  have e5 := f3 1 _ e_1 (by decide) rfl
  exact k _ ⟨e4, e5, e2, trivial⟩
set_option maxRecDepth 20000 in
theorem sg_23_10 {d : Nat} {m : Mm} {K : Option Value → Mm → Prop} (r1 : Nat) (x2 : Int32) (h_r1 : tbl r1) (k : (if x2 < (nI 0) then K (some (.int (nI 0))) (m.uF 0 11 (m.F 30 15)) else WP d 130 [.ref 30, .int x2] m (fun v m2 => v = none ∧ WP d 42 [.ref 23, .int (nI 0)] m2 (fun v m3 => ∃ w4, v = some (.int w4) ∧ WP d 34 [.ref r1, .int w4] m3 (fun v m5 => v = none ∧ WH (d + 1) 23 10 [(0, .ref 0), (1, .ref r1), (2, .int (x2 + (-1)))] [] m5 K))))) : WH (d + 1) 23 10 [(0, .ref 0), (1, .ref r1), (2, .int x2)] [] m K := by
  intro lv0 el
  obtain ⟨e_0, e_1, e_2, _⟩ := el
  refine wl_ild_n (pc' := 11) rfl e_2 rfl ?_
  refine wp_if_lt (pc' := 14) rfl rfl (fun c1 => ?_) (fun c1 => ?_)
  · replace k := it_t (c := x2 < (nI 0)) c1 k
    refine wl_ald_n (pc' := 41) rfl e_0 rfl ?_
    refine wl_ald_n (pc' := 42) rfl e_0 rfl ?_
    refine wp_get (v := .ref 30) (pc' := 45) rfl (hq_0 _) rfl rfl ?_
    refine wp_get (v := .int (m.F 30 15)) (pc' := 48) rfl (hq_30 _) rfl rfl ?_
    refine wl_put (pc' := 51) (h2 := hp (m.uF 0 11 (m.F 30 15))) rfl (hq_0 _) rfl rfl rfl (pf_0_11 _ _) ?_
    refine wp_p (pc' := 52) (lv' := lv0) (st' := [.int (nI 0)]) rfl rfl ?_
    exact wl_ret rfl rfl ⟨_, rfl, k⟩
  · replace k := it_f (c := x2 < (nI 0)) c1 k
    refine wl_ald_n (pc' := 15) rfl e_0 rfl ?_
    refine wp_get (v := .ref 30) (pc' := 18) rfl (hq_0 _) rfl rfl ?_
    refine wl_ild_n (pc' := 19) rfl e_2 rfl ?_
    refine wl_cv (As := [.ref 30, .int x2]) (r := []) (pc' := 22) rfl rfl rfl k ?_
    rintro _ m2 ⟨rfl, k⟩
    show sm_wp (d + 1) 23 22 lv0 [] (hp m2) (WQ K)
    refine wl_ald_n (pc' := 23) rfl e_1 rfl ?_
    refine wl_ald_n (pc' := 24) rfl e_0 rfl ?_
    refine wp_get (v := .ref 23) (pc' := 27) rfl (hq_0 _) rfl rfl ?_
    refine wp_p (pc' := 28) (lv' := lv0) (st' := [.int (nI 0), .ref 23, .ref r1]) rfl rfl ?_
    refine wl_cv (As := [.ref 23, .int (nI 0)]) (r := [.ref r1]) (pc' := 31) rfl rfl rfl k ?_
    rintro _ m3 ⟨w4, rfl, k⟩
    show sm_wp (d + 1) 23 31 lv0 [.int w4, .ref r1] (hp m3) (WQ K)
    refine wl_cv (As := [.ref r1, .int w4]) (r := []) (pc' := 34) rfl (sm_inv_tbl h_r1 _ rfl rfl rfl) rfl k ?_
    rintro _ m5 ⟨rfl, k⟩
    show sm_wp (d + 1) 23 34 lv0 [] (hp m5) (WQ K)
    refine wl_iinc (pc' := 37) (v := x2 + (-1)) rfl e_2 rfl rfl rfl (fun lv6 e7 f8 => ?_)
    have e9 := f8 0 _ e_0 (by decide) rfl
    have e10 := f8 1 _ e_1 (by decide) rfl
    refine wp_p (pc' := 10) (lv' := lv6) (st' := []) rfl rfl ?_
    exact k _ ⟨e9, e10, e7, trivial⟩
/-! 24: QueryTables.select -/
set_option maxRecDepth 20000 in
theorem sp_24 {d : Nat} {m : Mm} {K : Option Value → Mm → Prop} (k : (if (m.F 30 15) ≤ (nI 60) then WH (d + 1) 24 48 [(0, .ref 0), (1, .int (nI 0))] [] ((m.uF 0 11 (mnI (m.F 30 15) (m.F 12 15))).uF 0 12 (m.F 12 9)) K else K (some (.int (nI 5))) m)) : WP (d + 1) 24 [.ref 0] m K := by
  have e_0 : sm_lk (lv_args 0 [.ref 0]) 0 = some (.ref 0) := rfl
  show sm_wp (d + 1) 24 0 (lv_args 0 [.ref 0]) [] (hp m) (WQ K)
  generalize lv_args 0 [.ref 0] = lv0 at *
  refine wl_ald_n (pc' := 1) rfl e_0 rfl ?_
  refine wp_get (v := .ref 30) (pc' := 4) rfl (hq_0 _) rfl rfl ?_
  refine wp_get (v := .int (m.F 30 15)) (pc' := 7) rfl (hq_30 _) rfl rfl ?_
  refine wp_p (pc' := 9) (lv' := lv0) (st' := [.int (nI 60), .int (m.F 30 15)]) rfl rfl ?_
  refine wp_ic_le (pc' := 12) rfl rfl (fun c1 => ?_) (fun c1 => ?_)
  · replace k := it_t (c := (m.F 30 15) ≤ (nI 60)) c1 k
    refine wl_ald_n (pc' := 15) rfl e_0 rfl ?_
    refine wl_ald_n (pc' := 16) rfl e_0 rfl ?_
    refine wp_get (v := .ref 30) (pc' := 19) rfl (hq_0 _) rfl rfl ?_
    refine wp_get (v := .int (m.F 30 15)) (pc' := 22) rfl (hq_30 _) rfl rfl ?_
    refine wl_ald_n (pc' := 23) rfl e_0 rfl ?_
    refine wp_get (v := .ref 12) (pc' := 26) rfl (hq_0 _) rfl rfl ?_
    refine wp_get (v := .int (m.F 12 15)) (pc' := 29) rfl (hq_12 _) rfl rfl ?_
    refine wp_mm (st' := [.int (mnI (m.F 30 15) (m.F 12 15)), .ref 0]) (pc' := 32) rfl rfl rfl rfl rfl ?_
    refine wl_put (pc' := 35) (h2 := hp (m.uF 0 11 (mnI (m.F 30 15) (m.F 12 15)))) rfl (hq_0 _) rfl rfl rfl (pf_0_11 _ _) ?_
    refine wl_ald_n (pc' := 36) rfl e_0 rfl ?_
    refine wl_ald_n (pc' := 37) rfl e_0 rfl ?_
    refine wp_get (v := .ref 12) (pc' := 40) rfl (hq_0 _) rfl rfl ?_
    refine wp_get (v := .int (m.F 12 9)) (pc' := 43) rfl (hq_12 _) rfl rfl ?_
    refine wl_put (pc' := 46) (h2 := hp ((m.uF 0 11 (mnI (m.F 30 15) (m.F 12 15))).uF 0 12 (m.F 12 9))) rfl (hq_0 _) rfl rfl rfl (pf_0_12 _ _) ?_
    refine wp_p (pc' := 47) (lv' := lv0) (st' := [.int (nI 0)]) rfl rfl ?_
    refine wl_st1 (pc' := 48) (k0 := 1) (v := .int (nI 0)) (r := []) rfl rfl (fun lv2 e3 f4 => ?_)
    have e5 := f4 0 _ e_0 (by decide) rfl
    exact k _ ⟨e5, e3, trivial⟩
  · replace k := it_f (c := (m.F 30 15) ≤ (nI 60)) c1 k
    refine wp_p (pc' := 13) (lv' := lv0) (st' := [.int (nI 5)]) rfl rfl ?_
    exact wl_ret rfl rfl ⟨_, rfl, k⟩
set_option maxRecDepth 20000 in
theorem sg_24_48 {d : Nat} {m : Mm} {K : Option Value → Mm → Prop} (x1 : Int32) (k : (if (m.F 0 11) ≤ x1 then K (some (.int (nI 0))) m else WP d 130 [.ref 30, .int x1] m (fun v m2 => v = none ∧ WH (d + 1) 24 66 [(0, .ref 0), (1, .int x1), (2, .int (nI 0))] [] m2 K))) : WH (d + 1) 24 48 [(0, .ref 0), (1, .int x1)] [] m K := by
  intro lv0 el
  obtain ⟨e_0, e_1, _⟩ := el
  refine wl_ild_n (pc' := 49) rfl e_1 rfl ?_
  refine wl_ald_n (pc' := 50) rfl e_0 rfl ?_
  refine wp_get (v := .int (m.F 0 11)) (pc' := 53) rfl (hq_0 _) rfl rfl ?_
  refine wp_ic_ge (pc' := 56) rfl rfl (fun c1 => ?_) (fun c1 => ?_)
  · replace k := it_t (c := (m.F 0 11) ≤ x1) c1 k
    refine wp_p (pc' := 129) (lv' := lv0) (st' := [.int (nI 0)]) rfl rfl ?_
    exact wl_ret rfl rfl ⟨_, rfl, k⟩
  · replace k := it_f (c := (m.F 0 11) ≤ x1) c1 k
    refine wl_ald_n (pc' := 57) rfl e_0 rfl ?_
    refine wp_get (v := .ref 30) (pc' := 60) rfl (hq_0 _) rfl rfl ?_
    refine wl_ild_n (pc' := 61) rfl e_1 rfl ?_
    refine wl_cv (As := [.ref 30, .int x1]) (r := []) (pc' := 64) rfl rfl rfl k ?_
    rintro _ m2 ⟨rfl, k⟩
    show sm_wp (d + 1) 24 64 lv0 [] (hp m2) (WQ K)
    refine wp_p (pc' := 65) (lv' := lv0) (st' := [.int (nI 0)]) rfl rfl ?_
    refine wl_st1 (pc' := 66) (k0 := 2) (v := .int (nI 0)) (r := []) rfl rfl (fun lv3 e4 f5 => ?_)
    have e6 := f5 0 _ e_0 (by decide) rfl
    have e7 := f5 1 _ e_1 (by decide) rfl
    exact k _ ⟨e6, e7, e4, trivial⟩
set_option maxRecDepth 20000 in
theorem sg_24_66 {d : Nat} {m : Mm} {K : Option Value → Mm → Prop} (x1 : Int32) (x2 : Int32) (k : (if (m.F 0 12) ≤ x2 then WH (d + 1) 24 48 [(0, .ref 0), (1, .int (x1 + nI 1))] [] m K else (if (nI 3) ≤ x2 then WH (d + 1) 24 48 [(0, .ref 0), (1, .int (x1 + nI 1))] [] m K else WP d 61 [.ref 12, .int x2] m (fun v m13 => ∃ w14, v = some (.int w14) ∧ WP d 62 [.ref 12, .int x2] m13 (fun v m15 => ∃ w16, v = some (.int w16) ∧ WP d 51 [.ref 17, .int w14, .int w16, .ref 23] m15 (fun v m17 => ∃ w18, v = some (.long w18) ∧ ok (m17.B 40).length ((x1 * (nI 3)) + x2) ∧ WH (d + 1) 24 66 [(0, .ref 0), (1, .int x1), (2, .int (x2 + nI 1))] [] (m17.uB 40 ((m17.B 40).set (ix ((x1 * (nI 3)) + x2)) w18)) K)))))) : WH (d + 1) 24 66 [(0, .ref 0), (1, .int x1), (2, .int x2)] [] m K := by
  intro lv0 el
  obtain ⟨e_0, e_1, e_2, _⟩ := el
  refine wl_ild_n (pc' := 67) rfl e_2 rfl ?_
  refine wl_ald_n (pc' := 68) rfl e_0 rfl ?_
  refine wp_get (v := .int (m.F 0 12)) (pc' := 71) rfl (hq_0 _) rfl rfl ?_
  refine wp_ic_ge (pc' := 74) rfl rfl (fun c1 => ?_) (fun c1 => ?_)
  · replace k := it_t (c := (m.F 0 12) ≤ x2) c1 k
    refine wl_iinc (pc' := 125) (v := x1 + nI 1) rfl e_1 rfl rfl rfl (fun lv2 e3 f4 => ?_)
    have e5 := f4 0 _ e_0 (by decide) rfl
    have e6 := f4 2 _ e_2 (by decide) rfl
    refine wp_p (pc' := 48) (lv' := lv2) (st' := []) rfl rfl ?_
    exact k _ ⟨e5, e3, trivial⟩
  · replace k := it_f (c := (m.F 0 12) ≤ x2) c1 k
    refine wl_ild_n (pc' := 75) rfl e_2 rfl ?_
    refine wp_p (pc' := 76) (lv' := lv0) (st' := [.int (nI 3), .int x2]) rfl rfl ?_
    refine wp_ic_ge (pc' := 79) rfl rfl (fun c7 => ?_) (fun c7 => ?_)
    · replace k := it_t (c := (nI 3) ≤ x2) c7 k
      refine wl_iinc (pc' := 125) (v := x1 + nI 1) rfl e_1 rfl rfl rfl (fun lv8 e9 f10 => ?_)
      have e11 := f10 0 _ e_0 (by decide) rfl
      have e12 := f10 2 _ e_2 (by decide) rfl
      refine wp_p (pc' := 48) (lv' := lv8) (st' := []) rfl rfl ?_
      exact k _ ⟨e11, e9, trivial⟩
    · replace k := it_f (c := (nI 3) ≤ x2) c7 k
      refine wl_ald_n (pc' := 80) rfl e_0 rfl ?_
      refine wp_get (v := .ref 40) (pc' := 83) rfl (hq_0 _) rfl rfl ?_
      refine wl_ild_n (pc' := 84) rfl e_1 rfl ?_
      refine wp_p (pc' := 85) (lv' := lv0) (st' := [.int (nI 3), .int x1, .ref 40]) rfl rfl ?_
      refine wp_imul (v := x1 * (nI 3)) (pc' := 86) rfl rfl rfl ?_
      refine wl_ild_n (pc' := 87) rfl e_2 rfl ?_
      refine wp_iadd (v := (x1 * (nI 3)) + x2) (pc' := 88) rfl rfl rfl ?_
      refine wl_ald_n (pc' := 89) rfl e_0 rfl ?_
      refine wp_get (v := .ref 17) (pc' := 92) rfl (hq_0 _) rfl rfl ?_
      refine wl_ald_n (pc' := 93) rfl e_0 rfl ?_
      refine wp_get (v := .ref 12) (pc' := 96) rfl (hq_0 _) rfl rfl ?_
      refine wl_ild_n (pc' := 97) rfl e_2 rfl ?_
      refine wl_cv (As := [.ref 12, .int x2]) (r := [.ref 17, .int ((x1 * (nI 3)) + x2), .ref 40]) (pc' := 100) rfl rfl rfl k ?_
      rintro _ m13 ⟨w14, rfl, k⟩
      show sm_wp (d + 1) 24 100 lv0 [.int w14, .ref 17, .int ((x1 * (nI 3)) + x2), .ref 40] (hp m13) (WQ K)
      refine wl_ald_n (pc' := 101) rfl e_0 rfl ?_
      refine wp_get (v := .ref 12) (pc' := 104) rfl (hq_0 _) rfl rfl ?_
      refine wl_ild_n (pc' := 105) rfl e_2 rfl ?_
      refine wl_cv (As := [.ref 12, .int x2]) (r := [.int w14, .ref 17, .int ((x1 * (nI 3)) + x2), .ref 40]) (pc' := 108) rfl rfl rfl k ?_
      rintro _ m15 ⟨w16, rfl, k⟩
      show sm_wp (d + 1) 24 108 lv0 [.int w16, .int w14, .ref 17, .int ((x1 * (nI 3)) + x2), .ref 40] (hp m15) (WQ K)
      refine wl_ald_n (pc' := 109) rfl e_0 rfl ?_
      refine wp_get (v := .ref 23) (pc' := 112) rfl (hq_0 _) rfl rfl ?_
      refine wl_cv (As := [.ref 17, .int w14, .int w16, .ref 23]) (r := [.int ((x1 * (nI 3)) + x2), .ref 40]) (pc' := 115) rfl rfl rfl k ?_
      rintro _ m17 ⟨w18, rfl, k⟩
      show sm_wp (d + 1) 24 115 lv0 [.long w18, .int ((x1 * (nI 3)) + x2), .ref 40] (hp m17) (WQ K)
      obtain ⟨k19, k⟩ := k
      refine wl_lastore (g := m17.B 40) (pc' := 116) (h2 := hp (m17.uB 40 ((m17.B 40).set (ix ((x1 * (nI 3)) + x2)) w18))) rfl (hq_40 _) k19 rfl (pa_40 _ _) ?_
      refine wl_iinc (pc' := 119) (v := x2 + nI 1) rfl e_2 rfl rfl rfl (fun lv20 e21 f22 => ?_)
      have e23 := f22 0 _ e_0 (by decide) rfl
      have e24 := f22 1 _ e_1 (by decide) rfl
      refine wp_p (pc' := 66) (lv' := lv20) (st' := []) rfl rfl ?_
      exact k _ ⟨e23, e24, e21, trivial⟩
/-! 26: QueryTables$Table.isThere -/
set_option maxRecDepth 20000 in
theorem sp_26 {d : Nat} {m : Mm} {K : Option Value → Mm → Prop} (r0 : Nat) (h_r0 : tbl r0) (k : (if (m.F r0 2) ≤ (nI 0) then K (some (.int (nI 0))) m else K (some (.int (nI 1))) m)) : WP d 26 [.ref r0] m K := by
  have e_0 : sm_lk (lv_args 0 [.ref r0]) 0 = some (.ref r0) := rfl
  show sm_wp d 26 0 (lv_args 0 [.ref r0]) [] (hp m) (WQ K)
  generalize lv_args 0 [.ref r0] = lv0 at *
  refine wl_ald_n (pc' := 1) rfl e_0 rfl ?_
  refine wp_get (v := .int (m.F r0 2)) (pc' := 4) rfl (hq_tbl h_r0 _) rfl rfl ?_
  refine wp_if_le (pc' := 7) rfl rfl (fun c1 => ?_) (fun c1 => ?_)
  · replace k := it_t (c := (m.F r0 2) ≤ (nI 0)) c1 k
    refine wp_p (pc' := 12) (lv' := lv0) (st' := [.int (nI 0)]) rfl rfl ?_
    exact wl_ret rfl rfl ⟨_, rfl, k⟩
  · replace k := it_f (c := (m.F r0 2) ≤ (nI 0)) c1 k
    refine wp_p (pc' := 8) (lv' := lv0) (st' := [.int (nI 1)]) rfl rfl ?_
    refine wp_p (pc' := 12) (lv' := lv0) (st' := [.int (nI 1)]) rfl rfl ?_
    exact wl_ret rfl rfl ⟨_, rfl, k⟩
/-! 27: QueryTables$Table.hasColumn -/
set_option maxRecDepth 20000 in
theorem sp_27 {d : Nat} {m : Mm} {K : Option Value → Mm → Prop} (r0 : Nat) (x1 : Int32) (h_r0 : tbl r0) (k : (if x1 < (nI 0) then K (some (.int (nI 0))) m else (if (m.F r0 2) ≤ x1 then K (some (.int (nI 0))) m else K (some (.int (nI 1))) m))) : WP d 27 [.ref r0, .int x1] m K := by
  have e_0 : sm_lk (lv_args 0 [.ref r0, .int x1]) 0 = some (.ref r0) := rfl
  have e_1 : sm_lk (lv_args 0 [.ref r0, .int x1]) 1 = some (.int x1) := rfl
  show sm_wp d 27 0 (lv_args 0 [.ref r0, .int x1]) [] (hp m) (WQ K)
  generalize lv_args 0 [.ref r0, .int x1] = lv0 at *
  refine wl_ild_n (pc' := 1) rfl e_1 rfl ?_
  refine wp_if_lt (pc' := 4) rfl rfl (fun c1 => ?_) (fun c1 => ?_)
  · replace k := it_t (c := x1 < (nI 0)) c1 k
    refine wp_p (pc' := 17) (lv' := lv0) (st' := [.int (nI 0)]) rfl rfl ?_
    exact wl_ret rfl rfl ⟨_, rfl, k⟩
  · replace k := it_f (c := x1 < (nI 0)) c1 k
    refine wl_ild_n (pc' := 5) rfl e_1 rfl ?_
    refine wl_ald_n (pc' := 6) rfl e_0 rfl ?_
    refine wp_get (v := .int (m.F r0 2)) (pc' := 9) rfl (hq_tbl h_r0 _) rfl rfl ?_
    refine wp_ic_ge (pc' := 12) rfl rfl (fun c2 => ?_) (fun c2 => ?_)
    · replace k := it_t (c := (m.F r0 2) ≤ x1) c2 k
      refine wp_p (pc' := 17) (lv' := lv0) (st' := [.int (nI 0)]) rfl rfl ?_
      exact wl_ret rfl rfl ⟨_, rfl, k⟩
    · replace k := it_f (c := (m.F r0 2) ≤ x1) c2 k
      refine wp_p (pc' := 13) (lv' := lv0) (st' := [.int (nI 1)]) rfl rfl ?_
      refine wp_p (pc' := 17) (lv' := lv0) (st' := [.int (nI 1)]) rfl rfl ?_
      exact wl_ret rfl rfl ⟨_, rfl, k⟩
/-! 28: QueryTables$Table.hasIndex -/
set_option maxRecDepth 20000 in
theorem sp_28 {d : Nat} {m : Mm} {K : Option Value → Mm → Prop} (r0 : Nat) (x1 : Int32) (h_r0 : tbl r0) (k : WP d 27 [.ref r0, .int x1] m (fun v m1 => ∃ w2, v = some (.int w2) ∧ (if w2 = (nI 0) then K (some (.int (nI 0))) m1 else ok (m1.A (r0 + 2)).length x1 ∧ (if ((m1.A (r0 + 2)).getD (ix x1) 0) = (nI 0) then K (some (.int (nI 0))) m1 else K (some (.int (nI 1))) m1)))) : WP (d + 1) 28 [.ref r0, .int x1] m K := by
  have e_0 : sm_lk (lv_args 0 [.ref r0, .int x1]) 0 = some (.ref r0) := rfl
  have e_1 : sm_lk (lv_args 0 [.ref r0, .int x1]) 1 = some (.int x1) := rfl
  show sm_wp (d + 1) 28 0 (lv_args 0 [.ref r0, .int x1]) [] (hp m) (WQ K)
  generalize lv_args 0 [.ref r0, .int x1] = lv0 at *
  refine wl_ald_n (pc' := 1) rfl e_0 rfl ?_
  refine wl_ild_n (pc' := 2) rfl e_1 rfl ?_
  refine wl_cv (As := [.ref r0, .int x1]) (r := []) (pc' := 5) rfl (sm_inv_tbl h_r0 _ rfl rfl rfl) rfl k ?_
  rintro _ m1 ⟨w2, rfl, k⟩
  show sm_wp (d + 1) 28 5 lv0 [.int w2] (hp m1) (WQ K)
  refine wp_if_eq (pc' := 8) rfl rfl (fun c3 => ?_) (fun c3 => ?_)
  · replace k := it_t (c := w2 = (nI 0)) c3 k
    refine wp_p (pc' := 22) (lv' := lv0) (st' := [.int (nI 0)]) rfl rfl ?_
    exact wl_ret rfl rfl ⟨_, rfl, k⟩
  · replace k := it_f (c := w2 = (nI 0)) c3 k
    refine wl_ald_n (pc' := 9) rfl e_0 rfl ?_
    refine wp_get (v := .ref (r0 + 2)) (pc' := 12) rfl (hq_tbl h_r0 _) rfl rfl ?_
    refine wl_ild_n (pc' := 13) rfl e_1 rfl ?_
    obtain ⟨k4, k⟩ := k
    refine wl_baload (g := m1.A (r0 + 2)) (pc' := 14) rfl (hq_tb2 h_r0 _) k4 rfl ?_
    refine wp_if_eq (pc' := 17) rfl rfl (fun c5 => ?_) (fun c5 => ?_)
    · replace k := it_t (c := ((m1.A (r0 + 2)).getD (ix x1) 0) = (nI 0)) c5 k
      refine wp_p (pc' := 22) (lv' := lv0) (st' := [.int (nI 0)]) rfl rfl ?_
      exact wl_ret rfl rfl ⟨_, rfl, k⟩
    · replace k := it_f (c := ((m1.A (r0 + 2)).getD (ix x1) 0) = (nI 0)) c5 k
      refine wp_p (pc' := 18) (lv' := lv0) (st' := [.int (nI 1)]) rfl rfl ?_
      refine wp_p (pc' := 22) (lv' := lv0) (st' := [.int (nI 1)]) rfl rfl ?_
      exact wl_ret rfl rfl ⟨_, rfl, k⟩
