/-! SEGMENTS of the methods 146 to 154 (by program, wip/whole/gen25.py): what must hold of a way from one place to the next -/
/-! 146: QueryTablesModel.nest -/
set_option maxRecDepth 20000 in
theorem sp_146 {d : Nat} {m : Mm} {K : Option Value → Mm → Prop} (x1 : Int32) (k : (if (m.F 42 6) = (nI 0) then (if ((m.F 42 12) + (m.F 42 15)) ≤ (nI 7) then ok (m.A 48).length (m.F 42 10) ∧ K none (((((m.uF 42 6 (nI 0)).uA 48 ((m.A 48).set (ix (m.F 42 10)) x1)).uF 42 10 ((m.F 42 10) + (nI 1))).uF 42 12 ((m.F 42 12) + (nI 1))).uF 42 5 ((m.F 42 5) + (nI 1))) else ok (m.A 48).length (m.F 42 10) ∧ K none (((((m.uF 42 6 (nI 1)).uA 48 ((m.A 48).set (ix (m.F 42 10)) x1)).uF 42 10 ((m.F 42 10) + (nI 1))).uF 42 12 ((m.F 42 12) + (nI 1))).uF 42 5 ((m.F 42 5) + (nI 1)))) else ok (m.A 48).length (m.F 42 10) ∧ K none (((((m.uF 42 6 (nI 1)).uA 48 ((m.A 48).set (ix (m.F 42 10)) x1)).uF 42 10 ((m.F 42 10) + (nI 1))).uF 42 12 ((m.F 42 12) + (nI 1))).uF 42 5 ((m.F 42 5) + (nI 1))))) : WP d 146 [.ref 42, .int x1] m K := by
  have e_0 : sm_lk (lv_args 0 [.ref 42, .int x1]) 0 = some (.ref 42) := rfl
  have e_1 : sm_lk (lv_args 0 [.ref 42, .int x1]) 1 = some (.int x1) := rfl
  show sm_wp d 146 0 (lv_args 0 [.ref 42, .int x1]) [] (hp m) (WQ K)
  generalize lv_args 0 [.ref 42, .int x1] = lv0 at *
  refine wl_ald_n (pc' := 1) rfl e_0 rfl ?_
  refine wl_ald_n (pc' := 2) rfl e_0 rfl ?_
  refine wp_get (v := .int (m.F 42 6)) (pc' := 5) rfl (hq_42 _) rfl rfl ?_
  refine wp_if_ne (pc' := 8) rfl rfl (fun c1 => ?_) (fun c1 => ?_)
  · replace k := it_f (c := (m.F 42 6) = (nI 0)) c1 k
    refine wp_p (pc' := 23) (lv' := lv0) (st' := [.int (nI 1), .ref 42]) rfl rfl ?_
    refine wp_p (pc' := 27) (lv' := lv0) (st' := [.int (nI 1), .ref 42]) rfl rfl ?_
    refine wl_put (pc' := 30) (h2 := hp (m.uF 42 6 (nI 1))) rfl (hq_42 _) rfl rfl rfl (pf_42_6 _ _) ?_
    refine wl_ald_n (pc' := 31) rfl e_0 rfl ?_
    refine wp_get (v := .ref 48) (pc' := 34) rfl (hq_42 _) rfl rfl ?_
    refine wl_ald_n (pc' := 35) rfl e_0 rfl ?_
    refine wp_get (v := .int (m.F 42 10)) (pc' := 38) rfl (hq_42 _) rfl rfl ?_
    refine wl_ild_n (pc' := 39) rfl e_1 rfl ?_
    obtain ⟨k2, k⟩ := k
    refine wl_iastore (g := m.A 48) (pc' := 40) (h2 := hp ((m.uF 42 6 (nI 1)).uA 48 ((m.A 48).set (ix (m.F 42 10)) x1))) rfl (hq_48 _) k2 rfl (pa_48 _ _) ?_
    refine wl_ald_n (pc' := 41) rfl e_0 rfl ?_
    refine wp_p (pc' := 42) (lv' := lv0) (st' := [.ref 42, .ref 42]) rfl rfl ?_
    refine wp_get (v := .int (m.F 42 10)) (pc' := 45) rfl (hq_42 _) rfl rfl ?_
    refine wp_p (pc' := 46) (lv' := lv0) (st' := [.int (nI 1), .int (m.F 42 10), .ref 42]) rfl rfl ?_
    refine wp_iadd (v := (m.F 42 10) + (nI 1)) (pc' := 47) rfl rfl rfl ?_
    refine wl_put (pc' := 50) (h2 := hp (((m.uF 42 6 (nI 1)).uA 48 ((m.A 48).set (ix (m.F 42 10)) x1)).uF 42 10 ((m.F 42 10) + (nI 1)))) rfl (hq_42 _) rfl rfl rfl (pf_42_10 _ _) ?_
    refine wl_ald_n (pc' := 51) rfl e_0 rfl ?_
    refine wp_p (pc' := 52) (lv' := lv0) (st' := [.ref 42, .ref 42]) rfl rfl ?_
    refine wp_get (v := .int (m.F 42 12)) (pc' := 55) rfl (hq_42 _) rfl rfl ?_
    refine wp_p (pc' := 56) (lv' := lv0) (st' := [.int (nI 1), .int (m.F 42 12), .ref 42]) rfl rfl ?_
    refine wp_iadd (v := (m.F 42 12) + (nI 1)) (pc' := 57) rfl rfl rfl ?_
    refine wl_put (pc' := 60) (h2 := hp ((((m.uF 42 6 (nI 1)).uA 48 ((m.A 48).set (ix (m.F 42 10)) x1)).uF 42 10 ((m.F 42 10) + (nI 1))).uF 42 12 ((m.F 42 12) + (nI 1)))) rfl (hq_42 _) rfl rfl rfl (pf_42_12 _ _) ?_
    refine wl_ald_n (pc' := 61) rfl e_0 rfl ?_
    refine wp_p (pc' := 62) (lv' := lv0) (st' := [.ref 42, .ref 42]) rfl rfl ?_
    refine wp_get (v := .int (m.F 42 5)) (pc' := 65) rfl (hq_42 _) rfl rfl ?_
    refine wp_p (pc' := 66) (lv' := lv0) (st' := [.int (nI 1), .int (m.F 42 5), .ref 42]) rfl rfl ?_
    refine wp_iadd (v := (m.F 42 5) + (nI 1)) (pc' := 67) rfl rfl rfl ?_
    refine wl_put (pc' := 70) (h2 := hp (((((m.uF 42 6 (nI 1)).uA 48 ((m.A 48).set (ix (m.F 42 10)) x1)).uF 42 10 ((m.F 42 10) + (nI 1))).uF 42 12 ((m.F 42 12) + (nI 1))).uF 42 5 ((m.F 42 5) + (nI 1)))) rfl (hq_42 _) rfl rfl rfl (pf_42_5 _ _) ?_
    exact wp_r rfl rfl ⟨_, rfl, k⟩
  · replace k := it_t (c := (m.F 42 6) = (nI 0)) c1 k
    refine wl_ald_n (pc' := 9) rfl e_0 rfl ?_
    refine wp_get (v := .int (m.F 42 12)) (pc' := 12) rfl (hq_42 _) rfl rfl ?_
    refine wl_ald_n (pc' := 13) rfl e_0 rfl ?_
    refine wp_get (v := .int (m.F 42 15)) (pc' := 16) rfl (hq_42 _) rfl rfl ?_
    refine wp_iadd (v := (m.F 42 12) + (m.F 42 15)) (pc' := 17) rfl rfl rfl ?_
    refine wp_p (pc' := 19) (lv' := lv0) (st' := [.int (nI 7), .int ((m.F 42 12) + (m.F 42 15)), .ref 42]) rfl rfl ?_
    refine wp_ic_le (pc' := 22) rfl rfl (fun c3 => ?_) (fun c3 => ?_)
    · replace k := it_t (c := ((m.F 42 12) + (m.F 42 15)) ≤ (nI 7)) c3 k
      refine wp_p (pc' := 27) (lv' := lv0) (st' := [.int (nI 0), .ref 42]) rfl rfl ?_
      refine wl_put (pc' := 30) (h2 := hp (m.uF 42 6 (nI 0))) rfl (hq_42 _) rfl rfl rfl (pf_42_6 _ _) ?_
      refine wl_ald_n (pc' := 31) rfl e_0 rfl ?_
      refine wp_get (v := .ref 48) (pc' := 34) rfl (hq_42 _) rfl rfl ?_
      refine wl_ald_n (pc' := 35) rfl e_0 rfl ?_
      refine wp_get (v := .int (m.F 42 10)) (pc' := 38) rfl (hq_42 _) rfl rfl ?_
      refine wl_ild_n (pc' := 39) rfl e_1 rfl ?_
      obtain ⟨k4, k⟩ := k
      refine wl_iastore (g := m.A 48) (pc' := 40) (h2 := hp ((m.uF 42 6 (nI 0)).uA 48 ((m.A 48).set (ix (m.F 42 10)) x1))) rfl (hq_48 _) k4 rfl (pa_48 _ _) ?_
      refine wl_ald_n (pc' := 41) rfl e_0 rfl ?_
      refine wp_p (pc' := 42) (lv' := lv0) (st' := [.ref 42, .ref 42]) rfl rfl ?_
      refine wp_get (v := .int (m.F 42 10)) (pc' := 45) rfl (hq_42 _) rfl rfl ?_
      refine wp_p (pc' := 46) (lv' := lv0) (st' := [.int (nI 1), .int (m.F 42 10), .ref 42]) rfl rfl ?_
      refine wp_iadd (v := (m.F 42 10) + (nI 1)) (pc' := 47) rfl rfl rfl ?_
      refine wl_put (pc' := 50) (h2 := hp (((m.uF 42 6 (nI 0)).uA 48 ((m.A 48).set (ix (m.F 42 10)) x1)).uF 42 10 ((m.F 42 10) + (nI 1)))) rfl (hq_42 _) rfl rfl rfl (pf_42_10 _ _) ?_
      refine wl_ald_n (pc' := 51) rfl e_0 rfl ?_
      refine wp_p (pc' := 52) (lv' := lv0) (st' := [.ref 42, .ref 42]) rfl rfl ?_
      refine wp_get (v := .int (m.F 42 12)) (pc' := 55) rfl (hq_42 _) rfl rfl ?_
      refine wp_p (pc' := 56) (lv' := lv0) (st' := [.int (nI 1), .int (m.F 42 12), .ref 42]) rfl rfl ?_
      refine wp_iadd (v := (m.F 42 12) + (nI 1)) (pc' := 57) rfl rfl rfl ?_
      refine wl_put (pc' := 60) (h2 := hp ((((m.uF 42 6 (nI 0)).uA 48 ((m.A 48).set (ix (m.F 42 10)) x1)).uF 42 10 ((m.F 42 10) + (nI 1))).uF 42 12 ((m.F 42 12) + (nI 1)))) rfl (hq_42 _) rfl rfl rfl (pf_42_12 _ _) ?_
      refine wl_ald_n (pc' := 61) rfl e_0 rfl ?_
      refine wp_p (pc' := 62) (lv' := lv0) (st' := [.ref 42, .ref 42]) rfl rfl ?_
      refine wp_get (v := .int (m.F 42 5)) (pc' := 65) rfl (hq_42 _) rfl rfl ?_
      refine wp_p (pc' := 66) (lv' := lv0) (st' := [.int (nI 1), .int (m.F 42 5), .ref 42]) rfl rfl ?_
      refine wp_iadd (v := (m.F 42 5) + (nI 1)) (pc' := 67) rfl rfl rfl ?_
      refine wl_put (pc' := 70) (h2 := hp (((((m.uF 42 6 (nI 0)).uA 48 ((m.A 48).set (ix (m.F 42 10)) x1)).uF 42 10 ((m.F 42 10) + (nI 1))).uF 42 12 ((m.F 42 12) + (nI 1))).uF 42 5 ((m.F 42 5) + (nI 1)))) rfl (hq_42 _) rfl rfl rfl (pf_42_5 _ _) ?_
      exact wp_r rfl rfl ⟨_, rfl, k⟩
    · replace k := it_f (c := ((m.F 42 12) + (m.F 42 15)) ≤ (nI 7)) c3 k
      refine wp_p (pc' := 23) (lv' := lv0) (st' := [.int (nI 1), .ref 42]) rfl rfl ?_
      refine wp_p (pc' := 27) (lv' := lv0) (st' := [.int (nI 1), .ref 42]) rfl rfl ?_
      refine wl_put (pc' := 30) (h2 := hp (m.uF 42 6 (nI 1))) rfl (hq_42 _) rfl rfl rfl (pf_42_6 _ _) ?_
      refine wl_ald_n (pc' := 31) rfl e_0 rfl ?_
      refine wp_get (v := .ref 48) (pc' := 34) rfl (hq_42 _) rfl rfl ?_
      refine wl_ald_n (pc' := 35) rfl e_0 rfl ?_
      refine wp_get (v := .int (m.F 42 10)) (pc' := 38) rfl (hq_42 _) rfl rfl ?_
      refine wl_ild_n (pc' := 39) rfl e_1 rfl ?_
      obtain ⟨k5, k⟩ := k
      refine wl_iastore (g := m.A 48) (pc' := 40) (h2 := hp ((m.uF 42 6 (nI 1)).uA 48 ((m.A 48).set (ix (m.F 42 10)) x1))) rfl (hq_48 _) k5 rfl (pa_48 _ _) ?_
      refine wl_ald_n (pc' := 41) rfl e_0 rfl ?_
      refine wp_p (pc' := 42) (lv' := lv0) (st' := [.ref 42, .ref 42]) rfl rfl ?_
      refine wp_get (v := .int (m.F 42 10)) (pc' := 45) rfl (hq_42 _) rfl rfl ?_
      refine wp_p (pc' := 46) (lv' := lv0) (st' := [.int (nI 1), .int (m.F 42 10), .ref 42]) rfl rfl ?_
      refine wp_iadd (v := (m.F 42 10) + (nI 1)) (pc' := 47) rfl rfl rfl ?_
      refine wl_put (pc' := 50) (h2 := hp (((m.uF 42 6 (nI 1)).uA 48 ((m.A 48).set (ix (m.F 42 10)) x1)).uF 42 10 ((m.F 42 10) + (nI 1)))) rfl (hq_42 _) rfl rfl rfl (pf_42_10 _ _) ?_
      refine wl_ald_n (pc' := 51) rfl e_0 rfl ?_
      refine wp_p (pc' := 52) (lv' := lv0) (st' := [.ref 42, .ref 42]) rfl rfl ?_
      refine wp_get (v := .int (m.F 42 12)) (pc' := 55) rfl (hq_42 _) rfl rfl ?_
      refine wp_p (pc' := 56) (lv' := lv0) (st' := [.int (nI 1), .int (m.F 42 12), .ref 42]) rfl rfl ?_
      refine wp_iadd (v := (m.F 42 12) + (nI 1)) (pc' := 57) rfl rfl rfl ?_
      refine wl_put (pc' := 60) (h2 := hp ((((m.uF 42 6 (nI 1)).uA 48 ((m.A 48).set (ix (m.F 42 10)) x1)).uF 42 10 ((m.F 42 10) + (nI 1))).uF 42 12 ((m.F 42 12) + (nI 1)))) rfl (hq_42 _) rfl rfl rfl (pf_42_12 _ _) ?_
      refine wl_ald_n (pc' := 61) rfl e_0 rfl ?_
      refine wp_p (pc' := 62) (lv' := lv0) (st' := [.ref 42, .ref 42]) rfl rfl ?_
      refine wp_get (v := .int (m.F 42 5)) (pc' := 65) rfl (hq_42 _) rfl rfl ?_
      refine wp_p (pc' := 66) (lv' := lv0) (st' := [.int (nI 1), .int (m.F 42 5), .ref 42]) rfl rfl ?_
      refine wp_iadd (v := (m.F 42 5) + (nI 1)) (pc' := 67) rfl rfl rfl ?_
      refine wl_put (pc' := 70) (h2 := hp (((((m.uF 42 6 (nI 1)).uA 48 ((m.A 48).set (ix (m.F 42 10)) x1)).uF 42 10 ((m.F 42 10) + (nI 1))).uF 42 12 ((m.F 42 12) + (nI 1))).uF 42 5 ((m.F 42 5) + (nI 1)))) rfl (hq_42 _) rfl rfl rfl (pf_42_5 _ _) ?_
      exact wp_r rfl rfl ⟨_, rfl, k⟩
/-! 147: QueryTablesModel.top -/
set_option maxRecDepth 20000 in
theorem sp_147 {d : Nat} {m : Mm} {K : Option Value → Mm → Prop} (k : (if (m.F 42 10) ≤ (nI 0) then K (some (.int (nI 0))) m else ok (m.A 48).length ((m.F 42 10) - (nI 1)) ∧ K (some (.int ((m.A 48).getD (ix ((m.F 42 10) - (nI 1))) 0))) m)) : WP d 147 [.ref 42] m K := by
  have e_0 : sm_lk (lv_args 0 [.ref 42]) 0 = some (.ref 42) := rfl
  show sm_wp d 147 0 (lv_args 0 [.ref 42]) [] (hp m) (WQ K)
  generalize lv_args 0 [.ref 42] = lv0 at *
  refine wl_ald_n (pc' := 1) rfl e_0 rfl ?_
  refine wp_get (v := .int (m.F 42 10)) (pc' := 4) rfl (hq_42 _) rfl rfl ?_
  refine wp_if_le (pc' := 7) rfl rfl (fun c1 => ?_) (fun c1 => ?_)
  · replace k := it_t (c := (m.F 42 10) ≤ (nI 0)) c1 k
    refine wp_p (pc' := 22) (lv' := lv0) (st' := [.int (nI 0)]) rfl rfl ?_
    exact wl_ret rfl rfl ⟨_, rfl, k⟩
  · replace k := it_f (c := (m.F 42 10) ≤ (nI 0)) c1 k
    refine wl_ald_n (pc' := 8) rfl e_0 rfl ?_
    refine wp_get (v := .ref 48) (pc' := 11) rfl (hq_42 _) rfl rfl ?_
    refine wl_ald_n (pc' := 12) rfl e_0 rfl ?_
    refine wp_get (v := .int (m.F 42 10)) (pc' := 15) rfl (hq_42 _) rfl rfl ?_
    refine wp_p (pc' := 16) (lv' := lv0) (st' := [.int (nI 1), .int (m.F 42 10), .ref 48]) rfl rfl ?_
    refine wp_isub (v := (m.F 42 10) - (nI 1)) (pc' := 17) rfl rfl rfl ?_
    obtain ⟨k2, k⟩ := k
    refine wl_iaload (g := m.A 48) (pc' := 18) rfl (hq_48 _) k2 rfl ?_
    refine wp_p (pc' := 22) (lv' := lv0) (st' := [.int ((m.A 48).getD (ix ((m.F 42 10) - (nI 1))) 0)]) rfl rfl ?_
    exact wl_ret rfl rfl ⟨_, rfl, k⟩
/-! 148: QueryTablesModel.signs -/
set_option maxRecDepth 20000 in
theorem sp_148 {d : Nat} {m : Mm} {K : Option Value → Mm → Prop} (k : WH d 148 0 [(0, .ref 42)] [] m K) : WP d 148 [.ref 42] m K := by
  have e_0 : sm_lk (lv_args 0 [.ref 42]) 0 = some (.ref 42) := rfl
  show sm_wp d 148 0 (lv_args 0 [.ref 42]) [] (hp m) (WQ K)
  generalize lv_args 0 [.ref 42] = lv0 at *
  exact k _ ⟨e_0, trivial⟩
set_option maxRecDepth 20000 in
theorem sg_148_0 {d : Nat} {m : Mm} {K : Option Value → Mm → Prop} (k : WP d 147 [.ref 42] m (fun v m1 => ∃ w2, v = some (.int w2) ∧ (if w2 = (nI 8) then WP d 145 [.ref 42, .int (nI 8), .int (nI 0)] ((m1.uF 42 10 ((m1.F 42 10) - (nI 1))).uF 42 12 ((m1.F 42 12) - (nI 1))) (fun v m4 => v = none ∧ WH (d + 1) 148 0 [(0, .ref 42)] [] m4 K) else K none m1))) : WH (d + 1) 148 0 [(0, .ref 42)] [] m K := by
  intro lv0 el
  obtain ⟨e_0, _⟩ := el
  refine wl_ald_n (pc' := 1) rfl e_0 rfl ?_
  refine wl_cv (As := [.ref 42]) (r := []) (pc' := 4) rfl rfl rfl k ?_
  rintro _ m1 ⟨w2, rfl, k⟩
  show sm_wp (d + 1) 148 4 lv0 [.int w2] (hp m1) (WQ K)
  refine wp_p (pc' := 6) (lv' := lv0) (st' := [.int (nI 8), .int w2]) rfl rfl ?_
  refine wp_ic_ne (pc' := 9) rfl rfl (fun c3 => ?_) (fun c3 => ?_)
  · replace k := it_f (c := w2 = (nI 8)) c3 k
    exact wp_r rfl rfl ⟨_, rfl, k⟩
  · replace k := it_t (c := w2 = (nI 8)) c3 k
    refine wl_ald_n (pc' := 10) rfl e_0 rfl ?_
    refine wp_p (pc' := 11) (lv' := lv0) (st' := [.ref 42, .ref 42]) rfl rfl ?_
    refine wp_get (v := .int (m1.F 42 10)) (pc' := 14) rfl (hq_42 _) rfl rfl ?_
    refine wp_p (pc' := 15) (lv' := lv0) (st' := [.int (nI 1), .int (m1.F 42 10), .ref 42]) rfl rfl ?_
    refine wp_isub (v := (m1.F 42 10) - (nI 1)) (pc' := 16) rfl rfl rfl ?_
    refine wl_put (pc' := 19) (h2 := hp (m1.uF 42 10 ((m1.F 42 10) - (nI 1)))) rfl (hq_42 _) rfl rfl rfl (pf_42_10 _ _) ?_
    refine wl_ald_n (pc' := 20) rfl e_0 rfl ?_
    refine wp_p (pc' := 21) (lv' := lv0) (st' := [.ref 42, .ref 42]) rfl rfl ?_
    refine wp_get (v := .int (m1.F 42 12)) (pc' := 24) rfl (hq_42 _) rfl rfl ?_
    refine wp_p (pc' := 25) (lv' := lv0) (st' := [.int (nI 1), .int (m1.F 42 12), .ref 42]) rfl rfl ?_
    refine wp_isub (v := (m1.F 42 12) - (nI 1)) (pc' := 26) rfl rfl rfl ?_
    refine wl_put (pc' := 29) (h2 := hp ((m1.uF 42 10 ((m1.F 42 10) - (nI 1))).uF 42 12 ((m1.F 42 12) - (nI 1)))) rfl (hq_42 _) rfl rfl rfl (pf_42_12 _ _) ?_
    refine wl_ald_n (pc' := 30) rfl e_0 rfl ?_
    refine wp_p (pc' := 32) (lv' := lv0) (st' := [.int (nI 8), .ref 42]) rfl rfl ?_
    refine wp_p (pc' := 33) (lv' := lv0) (st' := [.int (nI 0), .int (nI 8), .ref 42]) rfl rfl ?_
    refine wl_cv (As := [.ref 42, .int (nI 8), .int (nI 0)]) (r := []) (pc' := 36) rfl rfl rfl k ?_
    rintro _ m4 ⟨rfl, k⟩
    show sm_wp (d + 1) 148 36 lv0 [] (hp m4) (WQ K)
    refine wp_p (pc' := 0) (lv' := lv0) (st' := []) rfl rfl ?_
    exact k _ ⟨e_0, trivial⟩
/-! 149: QueryTablesModel.operand -/
set_option maxRecDepth 20000 in
theorem sp_149 {d : Nat} {m : Mm} {K : Option Value → Mm → Prop} (k : WP d 140 [.ref 42, .int (nI 40)] (m.uF 42 16 (nI 0)) (fun v m1 => ∃ w2, v = some (.int w2) ∧ (if w2 = (nI 0) then WP d 140 [.ref 42, .int (nI 45)] m1 (fun v m9 => ∃ w10, v = some (.int w10) ∧ (if w10 = (nI 0) then ok (m9.A 44).length (m9.F 42 5) ∧ (if ((m9.A 44).getD (ix (m9.F 42 5)) 0) = (nI 3) then WP d 143 [.ref 42, .int (nI 3)] m9 (fun v m68 => ∃ w69, v = some (.int w69) ∧ WP d 145 [.ref 42, .int (nI 1), .int w69] m68 (fun v m74 => v = none ∧ WP d 148 [.ref 42] m74 (fun v m75 => v = none ∧ K none m75))) else ok (m9.A 44).length (m9.F 42 5) ∧ (if ((m9.A 44).getD (ix (m9.F 42 5)) 0) = (nI 2) then WP d 143 [.ref 42, .int (nI 2)] m9 (fun v m31 => ∃ w32, v = some (.int w32) ∧ (if (m31.F 42 6) = (nI 0) then WP d 141 [.ref 42, .int (nI 46)] m31 (fun v m47 => ∃ w48, v = some (.int w48) ∧ (if w48 = (nI 0) then WP d 144 [.ref 42] (m47.uF 42 6 (nI 1)) (fun v m59 => ∃ w60, v = some (.int w60) ∧ WP d 145 [.ref 42, .int (nI 3), .int ((((nI 4) * w32) + (nI 4)) + w60)] m59 (fun v m66 => v = none ∧ WP d 148 [.ref 42] m66 (fun v m67 => v = none ∧ K none m67))) else WP d 144 [.ref 42] (m47.uF 42 6 (nI 0)) (fun v m50 => ∃ w51, v = some (.int w51) ∧ WP d 145 [.ref 42, .int (nI 3), .int ((((nI 4) * w32) + (nI 4)) + w51)] m50 (fun v m57 => v = none ∧ WP d 148 [.ref 42] m57 (fun v m58 => v = none ∧ K none m58))))) else WP d 144 [.ref 42] (m31.uF 42 6 (nI 1)) (fun v m38 => ∃ w39, v = some (.int w39) ∧ WP d 145 [.ref 42, .int (nI 3), .int ((((nI 4) * w32) + (nI 4)) + w39)] m38 (fun v m45 => v = none ∧ WP d 148 [.ref 42] m45 (fun v m46 => v = none ∧ K none m46))))) else WP d 139 [.int (nI 110), .int (nI 117), .int (nI 108), .int (nI 108), .int (nI 0), .int (nI 0)] m9 (fun v m16 => ∃ w17, v = some (.int w17) ∧ WP d 142 [.ref 42, .int w17] m16 (fun v m18 => ∃ w19, v = some (.int w19) ∧ (if w19 = (nI 0) then WP d 144 [.ref 42] m18 (fun v m21 => ∃ w22, v = some (.int w22) ∧ WP d 145 [.ref 42, .int (nI 3), .int w22] m21 (fun v m27 => v = none ∧ WP d 148 [.ref 42] m27 (fun v m28 => v = none ∧ K none m28))) else WP d 145 [.ref 42, .int (nI 2), .int (nI 0)] m18 (fun v m29 => v = none ∧ WP d 148 [.ref 42] m29 (fun v m30 => v = none ∧ K none m30))))))) else WP d 140 [.ref 42, .int (nI 40)] m9 (fun v m76 => ∃ w77, v = some (.int w77) ∧ (if w77 = (nI 0) then WP d 146 [.ref 42, .int (nI 8)] m76 (fun v m79 => v = none ∧ K none (m79.uF 42 16 (nI 1))) else WP d 146 [.ref 42, .int (nI 16)] m76 (fun v m80 => v = none ∧ K none (m80.uF 42 16 (nI 1))))))) else WP d 140 [.ref 42, .int (nI 40)] m1 (fun v m4 => ∃ w5, v = some (.int w5) ∧ (if w5 = (nI 0) then WP d 146 [.ref 42, .int (nI 8)] m4 (fun v m7 => v = none ∧ K none (m7.uF 42 16 (nI 1))) else WP d 146 [.ref 42, .int (nI 16)] m4 (fun v m8 => v = none ∧ K none (m8.uF 42 16 (nI 1)))))))) : WP (d + 1) 149 [.ref 42] m K := by
  have e_0 : sm_lk (lv_args 0 [.ref 42]) 0 = some (.ref 42) := rfl
  show sm_wp (d + 1) 149 0 (lv_args 0 [.ref 42]) [] (hp m) (WQ K)
  generalize lv_args 0 [.ref 42] = lv0 at *
  refine wl_ald_n (pc' := 1) rfl e_0 rfl ?_
  refine wp_p (pc' := 2) (lv' := lv0) (st' := [.int (nI 0), .ref 42]) rfl rfl ?_
  refine wl_put (pc' := 5) (h2 := hp (m.uF 42 16 (nI 0))) rfl (hq_42 _) rfl rfl rfl (pf_42_16 _ _) ?_
  refine wl_ald_n (pc' := 6) rfl e_0 rfl ?_
  refine wp_p (pc' := 8) (lv' := lv0) (st' := [.int (nI 40), .ref 42]) rfl rfl ?_
  refine wl_cv (As := [.ref 42, .int (nI 40)]) (r := []) (pc' := 11) rfl rfl rfl k ?_
  rintro _ m1 ⟨w2, rfl, k⟩
  show sm_wp (d + 1) 149 11 lv0 [.int w2] (hp m1) (WQ K)
  refine wp_if_ne (pc' := 14) rfl rfl (fun c3 => ?_) (fun c3 => ?_)
  · replace k := it_f (c := w2 = (nI 0)) c3 k
    refine wl_ald_n (pc' := 24) rfl e_0 rfl ?_
    refine wl_ald_n (pc' := 25) rfl e_0 rfl ?_
    refine wp_p (pc' := 27) (lv' := lv0) (st' := [.int (nI 40), .ref 42, .ref 42]) rfl rfl ?_
    refine wl_cv (As := [.ref 42, .int (nI 40)]) (r := [.ref 42]) (pc' := 30) rfl rfl rfl k ?_
    rintro _ m4 ⟨w5, rfl, k⟩
    show sm_wp (d + 1) 149 30 lv0 [.int w5, .ref 42] (hp m4) (WQ K)
    refine wp_if_eq (pc' := 33) rfl rfl (fun c6 => ?_) (fun c6 => ?_)
    · replace k := it_t (c := w5 = (nI 0)) c6 k
      refine wp_p (pc' := 40) (lv' := lv0) (st' := [.int (nI 8), .ref 42]) rfl rfl ?_
      refine wl_cv (As := [.ref 42, .int (nI 8)]) (r := []) (pc' := 43) rfl rfl rfl k ?_
      rintro _ m7 ⟨rfl, k⟩
      show sm_wp (d + 1) 149 43 lv0 [] (hp m7) (WQ K)
      refine wl_ald_n (pc' := 44) rfl e_0 rfl ?_
      refine wp_p (pc' := 45) (lv' := lv0) (st' := [.int (nI 1), .ref 42]) rfl rfl ?_
      refine wl_put (pc' := 48) (h2 := hp (m7.uF 42 16 (nI 1))) rfl (hq_42 _) rfl rfl rfl (pf_42_16 _ _) ?_
      exact wp_r rfl rfl ⟨_, rfl, k⟩
    · replace k := it_f (c := w5 = (nI 0)) c6 k
      refine wp_p (pc' := 35) (lv' := lv0) (st' := [.int (nI 16), .ref 42]) rfl rfl ?_
      refine wp_p (pc' := 40) (lv' := lv0) (st' := [.int (nI 16), .ref 42]) rfl rfl ?_
      refine wl_cv (As := [.ref 42, .int (nI 16)]) (r := []) (pc' := 43) rfl rfl rfl k ?_
      rintro _ m8 ⟨rfl, k⟩
      show sm_wp (d + 1) 149 43 lv0 [] (hp m8) (WQ K)
      refine wl_ald_n (pc' := 44) rfl e_0 rfl ?_
      refine wp_p (pc' := 45) (lv' := lv0) (st' := [.int (nI 1), .ref 42]) rfl rfl ?_
      refine wl_put (pc' := 48) (h2 := hp (m8.uF 42 16 (nI 1))) rfl (hq_42 _) rfl rfl rfl (pf_42_16 _ _) ?_
      exact wp_r rfl rfl ⟨_, rfl, k⟩
  · replace k := it_t (c := w2 = (nI 0)) c3 k
    refine wl_ald_n (pc' := 15) rfl e_0 rfl ?_
    refine wp_p (pc' := 17) (lv' := lv0) (st' := [.int (nI 45), .ref 42]) rfl rfl ?_
    refine wl_cv (As := [.ref 42, .int (nI 45)]) (r := []) (pc' := 20) rfl rfl rfl k ?_
    rintro _ m9 ⟨w10, rfl, k⟩
    show sm_wp (d + 1) 149 20 lv0 [.int w10] (hp m9) (WQ K)
    refine wp_if_eq (pc' := 23) rfl rfl (fun c11 => ?_) (fun c11 => ?_)
    · replace k := it_t (c := w10 = (nI 0)) c11 k
      refine wl_ald_n (pc' := 50) rfl e_0 rfl ?_
      refine wp_get (v := .ref 44) (pc' := 53) rfl (hq_42 _) rfl rfl ?_
      refine wl_ald_n (pc' := 54) rfl e_0 rfl ?_
      refine wp_get (v := .int (m9.F 42 5)) (pc' := 57) rfl (hq_42 _) rfl rfl ?_
      obtain ⟨k12, k⟩ := k
      refine wl_iaload (g := m9.A 44) (pc' := 58) rfl (hq_44 _) k12 rfl ?_
      refine wp_p (pc' := 59) (lv' := lv0) (st' := [.int (nI 3), .int ((m9.A 44).getD (ix (m9.F 42 5)) 0)]) rfl rfl ?_
      refine wp_ic_ne (pc' := 62) rfl rfl (fun c13 => ?_) (fun c13 => ?_)
      · replace k := it_f (c := ((m9.A 44).getD (ix (m9.F 42 5)) 0) = (nI 3)) c13 k
        refine wl_ald_n (pc' := 78) rfl e_0 rfl ?_
        refine wp_get (v := .ref 44) (pc' := 81) rfl (hq_42 _) rfl rfl ?_
        refine wl_ald_n (pc' := 82) rfl e_0 rfl ?_
        refine wp_get (v := .int (m9.F 42 5)) (pc' := 85) rfl (hq_42 _) rfl rfl ?_
        obtain ⟨k14, k⟩ := k
        refine wl_iaload (g := m9.A 44) (pc' := 86) rfl (hq_44 _) k14 rfl ?_
        refine wp_p (pc' := 87) (lv' := lv0) (st' := [.int (nI 2), .int ((m9.A 44).getD (ix (m9.F 42 5)) 0)]) rfl rfl ?_
        refine wp_ic_ne (pc' := 90) rfl rfl (fun c15 => ?_) (fun c15 => ?_)
        · replace k := it_f (c := ((m9.A 44).getD (ix (m9.F 42 5)) 0) = (nI 2)) c15 k
          refine wl_ald_n (pc' := 142) rfl e_0 rfl ?_
          refine wp_p (pc' := 144) (lv' := lv0) (st' := [.int (nI 110), .ref 42]) rfl rfl ?_
          refine wp_p (pc' := 146) (lv' := lv0) (st' := [.int (nI 117), .int (nI 110), .ref 42]) rfl rfl ?_
          refine wp_p (pc' := 148) (lv' := lv0) (st' := [.int (nI 108), .int (nI 117), .int (nI 110), .ref 42]) rfl rfl ?_
          refine wp_p (pc' := 150) (lv' := lv0) (st' := [.int (nI 108), .int (nI 108), .int (nI 117), .int (nI 110), .ref 42]) rfl rfl ?_
          refine wp_p (pc' := 151) (lv' := lv0) (st' := [.int (nI 0), .int (nI 108), .int (nI 108), .int (nI 117), .int (nI 110), .ref 42]) rfl rfl ?_
          refine wp_p (pc' := 152) (lv' := lv0) (st' := [.int (nI 0), .int (nI 0), .int (nI 108), .int (nI 108), .int (nI 117), .int (nI 110), .ref 42]) rfl rfl ?_
          refine wl_cs (As := [.int (nI 110), .int (nI 117), .int (nI 108), .int (nI 108), .int (nI 0), .int (nI 0)]) (r := [.ref 42]) (pc' := 155) rfl rfl rfl rfl k ?_
          rintro _ m16 ⟨w17, rfl, k⟩
          show sm_wp (d + 1) 149 155 lv0 [.int w17, .ref 42] (hp m16) (WQ K)
          refine wl_cv (As := [.ref 42, .int w17]) (r := []) (pc' := 158) rfl rfl rfl k ?_
          rintro _ m18 ⟨w19, rfl, k⟩
          show sm_wp (d + 1) 149 158 lv0 [.int w19] (hp m18) (WQ K)
          refine wp_if_eq (pc' := 161) rfl rfl (fun c20 => ?_) (fun c20 => ?_)
          · replace k := it_t (c := w19 = (nI 0)) c20 k
            refine wl_ald_n (pc' := 171) rfl e_0 rfl ?_
            refine wl_cv (As := [.ref 42]) (r := []) (pc' := 174) rfl rfl rfl k ?_
            rintro _ m21 ⟨w22, rfl, k⟩
            show sm_wp (d + 1) 149 174 lv0 [.int w22] (hp m21) (WQ K)
            refine wl_st1 (pc' := 175) (k0 := 1) (v := .int w22) (r := []) rfl rfl (fun lv23 e24 f25 => ?_)
            have e26 := f25 0 _ e_0 (by decide) rfl
            refine wl_ald_n (pc' := 176) rfl e26 rfl ?_
            refine wp_p (pc' := 177) (lv' := lv23) (st' := [.int (nI 3), .ref 42]) rfl rfl ?_
            refine wl_ild_n (pc' := 178) rfl e24 rfl ?_
            refine wl_cv (As := [.ref 42, .int (nI 3), .int w22]) (r := []) (pc' := 181) rfl rfl rfl k ?_
            rintro _ m27 ⟨rfl, k⟩
            show sm_wp (d + 1) 149 181 lv23 [] (hp m27) (WQ K)
            refine wl_ald_n (pc' := 182) rfl e26 rfl ?_
            refine wl_cv (As := [.ref 42]) (r := []) (pc' := 185) rfl rfl rfl k ?_
            rintro _ m28 ⟨rfl, k⟩
            show sm_wp (d + 1) 149 185 lv23 [] (hp m28) (WQ K)
            exact wp_r rfl rfl ⟨_, rfl, k⟩
          · replace k := it_f (c := w19 = (nI 0)) c20 k
            refine wl_ald_n (pc' := 162) rfl e_0 rfl ?_
            refine wp_p (pc' := 163) (lv' := lv0) (st' := [.int (nI 2), .ref 42]) rfl rfl ?_
            refine wp_p (pc' := 164) (lv' := lv0) (st' := [.int (nI 0), .int (nI 2), .ref 42]) rfl rfl ?_
            refine wl_cv (As := [.ref 42, .int (nI 2), .int (nI 0)]) (r := []) (pc' := 167) rfl rfl rfl k ?_
            rintro _ m29 ⟨rfl, k⟩
            show sm_wp (d + 1) 149 167 lv0 [] (hp m29) (WQ K)
            refine wp_p (pc' := 181) (lv' := lv0) (st' := []) rfl rfl ?_
            refine wl_ald_n (pc' := 182) rfl e_0 rfl ?_
            refine wl_cv (As := [.ref 42]) (r := []) (pc' := 185) rfl rfl rfl k ?_
            rintro _ m30 ⟨rfl, k⟩
            show sm_wp (d + 1) 149 185 lv0 [] (hp m30) (WQ K)
            exact wp_r rfl rfl ⟨_, rfl, k⟩
        · replace k := it_t (c := ((m9.A 44).getD (ix (m9.F 42 5)) 0) = (nI 2)) c15 k
          refine wl_ald_n (pc' := 91) rfl e_0 rfl ?_
          refine wp_p (pc' := 92) (lv' := lv0) (st' := [.int (nI 2), .ref 42]) rfl rfl ?_
          refine wl_cv (As := [.ref 42, .int (nI 2)]) (r := []) (pc' := 95) rfl rfl rfl k ?_
          rintro _ m31 ⟨w32, rfl, k⟩
          show sm_wp (d + 1) 149 95 lv0 [.int w32] (hp m31) (WQ K)
          refine wl_st1 (pc' := 96) (k0 := 1) (v := .int w32) (r := []) rfl rfl (fun lv33 e34 f35 => ?_)
          have e36 := f35 0 _ e_0 (by decide) rfl
          refine wl_ald_n (pc' := 97) rfl e36 rfl ?_
          refine wl_ald_n (pc' := 98) rfl e36 rfl ?_
          refine wp_get (v := .int (m31.F 42 6)) (pc' := 101) rfl (hq_42 _) rfl rfl ?_
          refine wp_if_ne (pc' := 104) rfl rfl (fun c37 => ?_) (fun c37 => ?_)
          · replace k := it_f (c := (m31.F 42 6) = (nI 0)) c37 k
            refine wp_p (pc' := 114) (lv' := lv33) (st' := [.int (nI 1), .ref 42]) rfl rfl ?_
            refine wp_p (pc' := 118) (lv' := lv33) (st' := [.int (nI 1), .ref 42]) rfl rfl ?_
            refine wl_put (pc' := 121) (h2 := hp (m31.uF 42 6 (nI 1))) rfl (hq_42 _) rfl rfl rfl (pf_42_6 _ _) ?_
            refine wl_ald_n (pc' := 122) rfl e36 rfl ?_
            refine wl_cv (As := [.ref 42]) (r := []) (pc' := 125) rfl rfl rfl k ?_
            rintro _ m38 ⟨w39, rfl, k⟩
            show sm_wp (d + 1) 149 125 lv33 [.int w39] (hp m38) (WQ K)
            refine wl_st1 (pc' := 126) (k0 := 2) (v := .int w39) (r := []) rfl rfl (fun lv40 e41 f42 => ?_)
            have e43 := f42 0 _ e36 (by decide) rfl
            have e44 := f42 1 _ e34 (by decide) rfl
            refine wl_ald_n (pc' := 127) rfl e43 rfl ?_
            refine wp_p (pc' := 128) (lv' := lv40) (st' := [.int (nI 3), .ref 42]) rfl rfl ?_
            refine wp_p (pc' := 129) (lv' := lv40) (st' := [.int (nI 4), .int (nI 3), .ref 42]) rfl rfl ?_
            refine wl_ild_n (pc' := 130) rfl e44 rfl ?_
            refine wp_imul (v := (nI 4) * w32) (pc' := 131) rfl rfl rfl ?_
            refine wp_p (pc' := 132) (lv' := lv40) (st' := [.int (nI 4), .int ((nI 4) * w32), .int (nI 3), .ref 42]) rfl rfl ?_
            refine wp_iadd (v := ((nI 4) * w32) + (nI 4)) (pc' := 133) rfl rfl rfl ?_
            refine wl_ild_n (pc' := 134) rfl e41 rfl ?_
            refine wp_iadd (v := (((nI 4) * w32) + (nI 4)) + w39) (pc' := 135) rfl rfl rfl ?_
            refine wl_cv (As := [.ref 42, .int (nI 3), .int ((((nI 4) * w32) + (nI 4)) + w39)]) (r := []) (pc' := 138) rfl rfl rfl k ?_
            rintro _ m45 ⟨rfl, k⟩
            show sm_wp (d + 1) 149 138 lv40 [] (hp m45) (WQ K)
            refine wp_p (pc' := 181) (lv' := lv40) (st' := []) rfl rfl ?_
            refine wl_ald_n (pc' := 182) rfl e43 rfl ?_
            refine wl_cv (As := [.ref 42]) (r := []) (pc' := 185) rfl rfl rfl k ?_
            rintro _ m46 ⟨rfl, k⟩
            show sm_wp (d + 1) 149 185 lv40 [] (hp m46) (WQ K)
            exact wp_r rfl rfl ⟨_, rfl, k⟩
          · replace k := it_t (c := (m31.F 42 6) = (nI 0)) c37 k
            refine wl_ald_n (pc' := 105) rfl e36 rfl ?_
            refine wp_p (pc' := 107) (lv' := lv33) (st' := [.int (nI 46), .ref 42, .ref 42]) rfl rfl ?_
            refine wl_cv (As := [.ref 42, .int (nI 46)]) (r := [.ref 42]) (pc' := 110) rfl rfl rfl k ?_
            rintro _ m47 ⟨w48, rfl, k⟩
            show sm_wp (d + 1) 149 110 lv33 [.int w48, .ref 42] (hp m47) (WQ K)
            refine wp_if_ne (pc' := 113) rfl rfl (fun c49 => ?_) (fun c49 => ?_)
            · replace k := it_f (c := w48 = (nI 0)) c49 k
              refine wp_p (pc' := 118) (lv' := lv33) (st' := [.int (nI 0), .ref 42]) rfl rfl ?_
              refine wl_put (pc' := 121) (h2 := hp (m47.uF 42 6 (nI 0))) rfl (hq_42 _) rfl rfl rfl (pf_42_6 _ _) ?_
              refine wl_ald_n (pc' := 122) rfl e36 rfl ?_
              refine wl_cv (As := [.ref 42]) (r := []) (pc' := 125) rfl rfl rfl k ?_
              rintro _ m50 ⟨w51, rfl, k⟩
              show sm_wp (d + 1) 149 125 lv33 [.int w51] (hp m50) (WQ K)
              refine wl_st1 (pc' := 126) (k0 := 2) (v := .int w51) (r := []) rfl rfl (fun lv52 e53 f54 => ?_)
              have e55 := f54 0 _ e36 (by decide) rfl
              have e56 := f54 1 _ e34 (by decide) rfl
              refine wl_ald_n (pc' := 127) rfl e55 rfl ?_
              refine wp_p (pc' := 128) (lv' := lv52) (st' := [.int (nI 3), .ref 42]) rfl rfl ?_
              refine wp_p (pc' := 129) (lv' := lv52) (st' := [.int (nI 4), .int (nI 3), .ref 42]) rfl rfl ?_
              refine wl_ild_n (pc' := 130) rfl e56 rfl ?_
              refine wp_imul (v := (nI 4) * w32) (pc' := 131) rfl rfl rfl ?_
              refine wp_p (pc' := 132) (lv' := lv52) (st' := [.int (nI 4), .int ((nI 4) * w32), .int (nI 3), .ref 42]) rfl rfl ?_
              refine wp_iadd (v := ((nI 4) * w32) + (nI 4)) (pc' := 133) rfl rfl rfl ?_
              refine wl_ild_n (pc' := 134) rfl e53 rfl ?_
              refine wp_iadd (v := (((nI 4) * w32) + (nI 4)) + w51) (pc' := 135) rfl rfl rfl ?_
              refine wl_cv (As := [.ref 42, .int (nI 3), .int ((((nI 4) * w32) + (nI 4)) + w51)]) (r := []) (pc' := 138) rfl rfl rfl k ?_
              rintro _ m57 ⟨rfl, k⟩
              show sm_wp (d + 1) 149 138 lv52 [] (hp m57) (WQ K)
              refine wp_p (pc' := 181) (lv' := lv52) (st' := []) rfl rfl ?_
              refine wl_ald_n (pc' := 182) rfl e55 rfl ?_
              refine wl_cv (As := [.ref 42]) (r := []) (pc' := 185) rfl rfl rfl k ?_
              rintro _ m58 ⟨rfl, k⟩
              show sm_wp (d + 1) 149 185 lv52 [] (hp m58) (WQ K)
              exact wp_r rfl rfl ⟨_, rfl, k⟩
            · replace k := it_t (c := w48 = (nI 0)) c49 k
              refine wp_p (pc' := 114) (lv' := lv33) (st' := [.int (nI 1), .ref 42]) rfl rfl ?_
              refine wp_p (pc' := 118) (lv' := lv33) (st' := [.int (nI 1), .ref 42]) rfl rfl ?_
              refine wl_put (pc' := 121) (h2 := hp (m47.uF 42 6 (nI 1))) rfl (hq_42 _) rfl rfl rfl (pf_42_6 _ _) ?_
              refine wl_ald_n (pc' := 122) rfl e36 rfl ?_
              refine wl_cv (As := [.ref 42]) (r := []) (pc' := 125) rfl rfl rfl k ?_
              rintro _ m59 ⟨w60, rfl, k⟩
              show sm_wp (d + 1) 149 125 lv33 [.int w60] (hp m59) (WQ K)
              refine wl_st1 (pc' := 126) (k0 := 2) (v := .int w60) (r := []) rfl rfl (fun lv61 e62 f63 => ?_)
              have e64 := f63 0 _ e36 (by decide) rfl
              have e65 := f63 1 _ e34 (by decide) rfl
              refine wl_ald_n (pc' := 127) rfl e64 rfl ?_
              refine wp_p (pc' := 128) (lv' := lv61) (st' := [.int (nI 3), .ref 42]) rfl rfl ?_
              refine wp_p (pc' := 129) (lv' := lv61) (st' := [.int (nI 4), .int (nI 3), .ref 42]) rfl rfl ?_
              refine wl_ild_n (pc' := 130) rfl e65 rfl ?_
              refine wp_imul (v := (nI 4) * w32) (pc' := 131) rfl rfl rfl ?_
              refine wp_p (pc' := 132) (lv' := lv61) (st' := [.int (nI 4), .int ((nI 4) * w32), .int (nI 3), .ref 42]) rfl rfl ?_
              refine wp_iadd (v := ((nI 4) * w32) + (nI 4)) (pc' := 133) rfl rfl rfl ?_
              refine wl_ild_n (pc' := 134) rfl e62 rfl ?_
              refine wp_iadd (v := (((nI 4) * w32) + (nI 4)) + w60) (pc' := 135) rfl rfl rfl ?_
              refine wl_cv (As := [.ref 42, .int (nI 3), .int ((((nI 4) * w32) + (nI 4)) + w60)]) (r := []) (pc' := 138) rfl rfl rfl k ?_
              rintro _ m66 ⟨rfl, k⟩
              show sm_wp (d + 1) 149 138 lv61 [] (hp m66) (WQ K)
              refine wp_p (pc' := 181) (lv' := lv61) (st' := []) rfl rfl ?_
              refine wl_ald_n (pc' := 182) rfl e64 rfl ?_
              refine wl_cv (As := [.ref 42]) (r := []) (pc' := 185) rfl rfl rfl k ?_
              rintro _ m67 ⟨rfl, k⟩
              show sm_wp (d + 1) 149 185 lv61 [] (hp m67) (WQ K)
              exact wp_r rfl rfl ⟨_, rfl, k⟩
      · replace k := it_t (c := ((m9.A 44).getD (ix (m9.F 42 5)) 0) = (nI 3)) c13 k
        refine wl_ald_n (pc' := 63) rfl e_0 rfl ?_
        refine wp_p (pc' := 64) (lv' := lv0) (st' := [.int (nI 3), .ref 42]) rfl rfl ?_
        refine wl_cv (As := [.ref 42, .int (nI 3)]) (r := []) (pc' := 67) rfl rfl rfl k ?_
        rintro _ m68 ⟨w69, rfl, k⟩
        show sm_wp (d + 1) 149 67 lv0 [.int w69] (hp m68) (WQ K)
        refine wl_st1 (pc' := 68) (k0 := 1) (v := .int w69) (r := []) rfl rfl (fun lv70 e71 f72 => ?_)
        have e73 := f72 0 _ e_0 (by decide) rfl
        refine wl_ald_n (pc' := 69) rfl e73 rfl ?_
        refine wp_p (pc' := 70) (lv' := lv70) (st' := [.int (nI 1), .ref 42]) rfl rfl ?_
        refine wl_ild_n (pc' := 71) rfl e71 rfl ?_
        refine wl_cv (As := [.ref 42, .int (nI 1), .int w69]) (r := []) (pc' := 74) rfl rfl rfl k ?_
        rintro _ m74 ⟨rfl, k⟩
        show sm_wp (d + 1) 149 74 lv70 [] (hp m74) (WQ K)
        refine wp_p (pc' := 181) (lv' := lv70) (st' := []) rfl rfl ?_
        refine wl_ald_n (pc' := 182) rfl e73 rfl ?_
        refine wl_cv (As := [.ref 42]) (r := []) (pc' := 185) rfl rfl rfl k ?_
        rintro _ m75 ⟨rfl, k⟩
        show sm_wp (d + 1) 149 185 lv70 [] (hp m75) (WQ K)
        exact wp_r rfl rfl ⟨_, rfl, k⟩
    · replace k := it_f (c := w10 = (nI 0)) c11 k
      refine wl_ald_n (pc' := 24) rfl e_0 rfl ?_
      refine wl_ald_n (pc' := 25) rfl e_0 rfl ?_
      refine wp_p (pc' := 27) (lv' := lv0) (st' := [.int (nI 40), .ref 42, .ref 42]) rfl rfl ?_
      refine wl_cv (As := [.ref 42, .int (nI 40)]) (r := [.ref 42]) (pc' := 30) rfl rfl rfl k ?_
      rintro _ m76 ⟨w77, rfl, k⟩
      show sm_wp (d + 1) 149 30 lv0 [.int w77, .ref 42] (hp m76) (WQ K)
      refine wp_if_eq (pc' := 33) rfl rfl (fun c78 => ?_) (fun c78 => ?_)
      · replace k := it_t (c := w77 = (nI 0)) c78 k
        refine wp_p (pc' := 40) (lv' := lv0) (st' := [.int (nI 8), .ref 42]) rfl rfl ?_
        refine wl_cv (As := [.ref 42, .int (nI 8)]) (r := []) (pc' := 43) rfl rfl rfl k ?_
        rintro _ m79 ⟨rfl, k⟩
        show sm_wp (d + 1) 149 43 lv0 [] (hp m79) (WQ K)
        refine wl_ald_n (pc' := 44) rfl e_0 rfl ?_
        refine wp_p (pc' := 45) (lv' := lv0) (st' := [.int (nI 1), .ref 42]) rfl rfl ?_
        refine wl_put (pc' := 48) (h2 := hp (m79.uF 42 16 (nI 1))) rfl (hq_42 _) rfl rfl rfl (pf_42_16 _ _) ?_
        exact wp_r rfl rfl ⟨_, rfl, k⟩
      · replace k := it_f (c := w77 = (nI 0)) c78 k
        refine wp_p (pc' := 35) (lv' := lv0) (st' := [.int (nI 16), .ref 42]) rfl rfl ?_
        refine wp_p (pc' := 40) (lv' := lv0) (st' := [.int (nI 16), .ref 42]) rfl rfl ?_
        refine wl_cv (As := [.ref 42, .int (nI 16)]) (r := []) (pc' := 43) rfl rfl rfl k ?_
        rintro _ m80 ⟨rfl, k⟩
        show sm_wp (d + 1) 149 43 lv0 [] (hp m80) (WQ K)
        refine wl_ald_n (pc' := 44) rfl e_0 rfl ?_
        refine wp_p (pc' := 45) (lv' := lv0) (st' := [.int (nI 1), .ref 42]) rfl rfl ?_
        refine wl_put (pc' := 48) (h2 := hp (m80.uF 42 16 (nI 1))) rfl (hq_42 _) rfl rfl rfl (pf_42_16 _ _) ?_
        exact wp_r rfl rfl ⟨_, rfl, k⟩
/-! 150: QueryTablesModel.operator -/
set_option maxRecDepth 20000 in
theorem sp_150 {d : Nat} {m : Mm} {K : Option Value → Mm → Prop} (k : WP d 140 [.ref 42, .int (nI 43)] m (fun v m1 => ∃ w2, v = some (.int w2) ∧ (if w2 = (nI 0) then WP d 140 [.ref 42, .int (nI 45)] m1 (fun v m4 => ∃ w5, v = some (.int w5) ∧ (if w5 = (nI 0) then WP d 140 [.ref 42, .int (nI 42)] m4 (fun v m7 => ∃ w8, v = some (.int w8) ∧ (if w8 = (nI 0) then WP d 140 [.ref 42, .int (nI 47)] m7 (fun v m10 => ∃ w11, v = some (.int w11) ∧ (if w11 = (nI 0) then WH (d + 1) 150 167 [(0, .ref 42), (2, .int (nI 0)), (3, .int (nI 0))] [] m10 K else WH (d + 1) 150 60 [(0, .ref 42), (1, .int (nI 7))] [] m10 K)) else WH (d + 1) 150 60 [(0, .ref 42), (1, .int (nI 6))] [] m7 K)) else WH (d + 1) 150 60 [(0, .ref 42), (1, .int (nI 5))] [] m4 K)) else WH (d + 1) 150 60 [(0, .ref 42), (1, .int (nI 4))] [] m1 K))) : WP (d + 1) 150 [.ref 42] m K := by
  have e_0 : sm_lk (lv_args 0 [.ref 42]) 0 = some (.ref 42) := rfl
  show sm_wp (d + 1) 150 0 (lv_args 0 [.ref 42]) [] (hp m) (WQ K)
  generalize lv_args 0 [.ref 42] = lv0 at *
  refine wl_ald_n (pc' := 1) rfl e_0 rfl ?_
  refine wp_p (pc' := 3) (lv' := lv0) (st' := [.int (nI 43), .ref 42]) rfl rfl ?_
  refine wl_cv (As := [.ref 42, .int (nI 43)]) (r := []) (pc' := 6) rfl rfl rfl k ?_
  rintro _ m1 ⟨w2, rfl, k⟩
  show sm_wp (d + 1) 150 6 lv0 [.int w2] (hp m1) (WQ K)
  refine wp_if_eq (pc' := 9) rfl rfl (fun c3 => ?_) (fun c3 => ?_)
  · replace k := it_t (c := w2 = (nI 0)) c3 k
    refine wl_ald_n (pc' := 14) rfl e_0 rfl ?_
    refine wp_p (pc' := 16) (lv' := lv0) (st' := [.int (nI 45), .ref 42]) rfl rfl ?_
    refine wl_cv (As := [.ref 42, .int (nI 45)]) (r := []) (pc' := 19) rfl rfl rfl k ?_
    rintro _ m4 ⟨w5, rfl, k⟩
    show sm_wp (d + 1) 150 19 lv0 [.int w5] (hp m4) (WQ K)
    refine wp_if_eq (pc' := 22) rfl rfl (fun c6 => ?_) (fun c6 => ?_)
    · replace k := it_t (c := w5 = (nI 0)) c6 k
      refine wl_ald_n (pc' := 27) rfl e_0 rfl ?_
      refine wp_p (pc' := 29) (lv' := lv0) (st' := [.int (nI 42), .ref 42]) rfl rfl ?_
      refine wl_cv (As := [.ref 42, .int (nI 42)]) (r := []) (pc' := 32) rfl rfl rfl k ?_
      rintro _ m7 ⟨w8, rfl, k⟩
      show sm_wp (d + 1) 150 32 lv0 [.int w8] (hp m7) (WQ K)
      refine wp_if_eq (pc' := 35) rfl rfl (fun c9 => ?_) (fun c9 => ?_)
      · replace k := it_t (c := w8 = (nI 0)) c9 k
        refine wl_ald_n (pc' := 41) rfl e_0 rfl ?_
        refine wp_p (pc' := 43) (lv' := lv0) (st' := [.int (nI 47), .ref 42]) rfl rfl ?_
        refine wl_cv (As := [.ref 42, .int (nI 47)]) (r := []) (pc' := 46) rfl rfl rfl k ?_
        rintro _ m10 ⟨w11, rfl, k⟩
        show sm_wp (d + 1) 150 46 lv0 [.int w11] (hp m10) (WQ K)
        refine wp_if_eq (pc' := 49) rfl rfl (fun c12 => ?_) (fun c12 => ?_)
        · replace k := it_t (c := w11 = (nI 0)) c12 k
          refine wp_p (pc' := 55) (lv' := lv0) (st' := [.int (nI 0)]) rfl rfl ?_
          refine wl_st1 (pc' := 56) (k0 := 1) (v := .int (nI 0)) (r := []) rfl rfl (fun lv13 e14 f15 => ?_)
          have e16 := f15 0 _ e_0 (by decide) rfl
          refine wl_ild_n (pc' := 57) rfl e14 rfl ?_
          refine wp_p (pc' := 163) (lv' := lv13) (st' := []) rfl rfl ?_
          refine wp_p (pc' := 164) (lv' := lv13) (st' := [.int (nI 0)]) rfl rfl ?_
          refine wl_st1 (pc' := 165) (k0 := 2) (v := .int (nI 0)) (r := []) rfl rfl (fun lv17 e18 f19 => ?_)
          have e20 := f19 0 _ e16 (by decide) rfl
          have e21 := f19 1 _ e14 (by decide) rfl
          refine wp_p (pc' := 166) (lv' := lv17) (st' := [.int (nI 0)]) rfl rfl ?_
          refine wl_st1 (pc' := 167) (k0 := 3) (v := .int (nI 0)) (r := []) rfl rfl (fun lv22 e23 f24 => ?_)
          have e25 := f24 0 _ e20 (by decide) rfl
          have e26 := f24 1 _ e21 (by decide) rfl
          have e27 := f24 2 _ e18 (by decide) rfl
          exact k _ ⟨e25, e27, e23, trivial⟩
        · replace k := it_f (c := w11 = (nI 0)) c12 k
          refine wp_p (pc' := 51) (lv' := lv0) (st' := [.int (nI 7)]) rfl rfl ?_
          refine wp_p (pc' := 55) (lv' := lv0) (st' := [.int (nI 7)]) rfl rfl ?_
          refine wl_st1 (pc' := 56) (k0 := 1) (v := .int (nI 7)) (r := []) rfl rfl (fun lv28 e29 f30 => ?_)
          have e31 := f30 0 _ e_0 (by decide) rfl
          refine wl_ild_n (pc' := 57) rfl e29 rfl ?_
          refine wp_p (pc' := 60) (lv' := lv28) (st' := []) rfl rfl ?_
          exact k _ ⟨e31, e29, trivial⟩
      · replace k := it_f (c := w8 = (nI 0)) c9 k
        refine wp_p (pc' := 37) (lv' := lv0) (st' := [.int (nI 6)]) rfl rfl ?_
        refine wp_p (pc' := 55) (lv' := lv0) (st' := [.int (nI 6)]) rfl rfl ?_
        refine wl_st1 (pc' := 56) (k0 := 1) (v := .int (nI 6)) (r := []) rfl rfl (fun lv32 e33 f34 => ?_)
        have e35 := f34 0 _ e_0 (by decide) rfl
        refine wl_ild_n (pc' := 57) rfl e33 rfl ?_
        refine wp_p (pc' := 60) (lv' := lv32) (st' := []) rfl rfl ?_
        exact k _ ⟨e35, e33, trivial⟩
    · replace k := it_f (c := w5 = (nI 0)) c6 k
      refine wp_p (pc' := 23) (lv' := lv0) (st' := [.int (nI 5)]) rfl rfl ?_
      refine wp_p (pc' := 55) (lv' := lv0) (st' := [.int (nI 5)]) rfl rfl ?_
      refine wl_st1 (pc' := 56) (k0 := 1) (v := .int (nI 5)) (r := []) rfl rfl (fun lv36 e37 f38 => ?_)
      have e39 := f38 0 _ e_0 (by decide) rfl
      refine wl_ild_n (pc' := 57) rfl e37 rfl ?_
      refine wp_p (pc' := 60) (lv' := lv36) (st' := []) rfl rfl ?_
      exact k _ ⟨e39, e37, trivial⟩
  · replace k := it_f (c := w2 = (nI 0)) c3 k
    refine wp_p (pc' := 10) (lv' := lv0) (st' := [.int (nI 4)]) rfl rfl ?_
    refine wp_p (pc' := 55) (lv' := lv0) (st' := [.int (nI 4)]) rfl rfl ?_
    refine wl_st1 (pc' := 56) (k0 := 1) (v := .int (nI 4)) (r := []) rfl rfl (fun lv40 e41 f42 => ?_)
    have e43 := f42 0 _ e_0 (by decide) rfl
    refine wl_ild_n (pc' := 57) rfl e41 rfl ?_
    refine wp_p (pc' := 60) (lv' := lv40) (st' := []) rfl rfl ?_
    exact k _ ⟨e43, e41, trivial⟩
set_option maxRecDepth 20000 in
theorem sg_150_167 {d : Nat} {m : Mm} {K : Option Value → Mm → Prop} (x2 : Int32) (x3 : Int32) (k : (if (m.F 42 10) ≤ x3 then (if x2 = (nI 0) then WH (d + 1) 150 215 [] [] m K else WP d 140 [.ref 42, .int (nI 41)] m (fun v m3 => ∃ w4, v = some (.int w4) ∧ (if w4 = (nI 0) then WH (d + 1) 150 215 [] [] m3 K else WH (d + 1) 150 227 [(0, .ref 42)] [] (m3.uF 42 5 ((m3.F 42 5) + (nI 1))) K))) else (if x2 = (nI 0) then ok (m.A 48).length x3 ∧ (if ((m.A 48).getD (ix x3) 0) = (nI 16) then WH (d + 1) 150 190 [(0, .ref 42), (3, .int x3)] [] m K else WH (d + 1) 150 167 [(0, .ref 42), (2, .int (nI 0)), (3, .int (x3 + nI 1))] [] m K) else WH (d + 1) 150 190 [(0, .ref 42), (3, .int x3)] [] m K))) : WH (d + 1) 150 167 [(0, .ref 42), (2, .int x2), (3, .int x3)] [] m K := by
  intro lv0 el
  obtain ⟨e_0, e_2, e_3, _⟩ := el
  refine wl_ild_n (pc' := 168) rfl e_3 rfl ?_
  refine wl_ald_n (pc' := 169) rfl e_0 rfl ?_
  refine wp_get (v := .int (m.F 42 10)) (pc' := 172) rfl (hq_42 _) rfl rfl ?_
  refine wp_ic_ge (pc' := 175) rfl rfl (fun c1 => ?_) (fun c1 => ?_)
  · replace k := it_t (c := (m.F 42 10) ≤ x3) c1 k
    refine wl_ild_n (pc' := 203) rfl e_2 rfl ?_
    refine wp_if_eq (pc' := 206) rfl rfl (fun c2 => ?_) (fun c2 => ?_)
    · replace k := it_t (c := x2 = (nI 0)) c2 k
      exact k _ trivial
    · replace k := it_f (c := x2 = (nI 0)) c2 k
      refine wl_ald_n (pc' := 207) rfl e_0 rfl ?_
      refine wp_p (pc' := 209) (lv' := lv0) (st' := [.int (nI 41), .ref 42]) rfl rfl ?_
      refine wl_cv (As := [.ref 42, .int (nI 41)]) (r := []) (pc' := 212) rfl rfl rfl k ?_
      rintro _ m3 ⟨w4, rfl, k⟩
      show sm_wp (d + 1) 150 212 lv0 [.int w4] (hp m3) (WQ K)
      refine wp_if_ne (pc' := 215) rfl rfl (fun c5 => ?_) (fun c5 => ?_)
      · replace k := it_f (c := w4 = (nI 0)) c5 k
        refine wl_ald_n (pc' := 218) rfl e_0 rfl ?_
        refine wp_p (pc' := 219) (lv' := lv0) (st' := [.ref 42, .ref 42]) rfl rfl ?_
        refine wp_get (v := .int (m3.F 42 5)) (pc' := 222) rfl (hq_42 _) rfl rfl ?_
        refine wp_p (pc' := 223) (lv' := lv0) (st' := [.int (nI 1), .int (m3.F 42 5), .ref 42]) rfl rfl ?_
        refine wp_iadd (v := (m3.F 42 5) + (nI 1)) (pc' := 224) rfl rfl rfl ?_
        refine wl_put (pc' := 227) (h2 := hp (m3.uF 42 5 ((m3.F 42 5) + (nI 1)))) rfl (hq_42 _) rfl rfl rfl (pf_42_5 _ _) ?_
        exact k _ ⟨e_0, trivial⟩
      · replace k := it_t (c := w4 = (nI 0)) c5 k
        exact k _ trivial
  · replace k := it_f (c := (m.F 42 10) ≤ x3) c1 k
    refine wl_ild_n (pc' := 176) rfl e_2 rfl ?_
    refine wp_if_ne (pc' := 179) rfl rfl (fun c6 => ?_) (fun c6 => ?_)
    · replace k := it_f (c := x2 = (nI 0)) c6 k
      exact k _ ⟨e_0, e_3, trivial⟩
    · replace k := it_t (c := x2 = (nI 0)) c6 k
      refine wl_ald_n (pc' := 180) rfl e_0 rfl ?_
      refine wp_get (v := .ref 48) (pc' := 183) rfl (hq_42 _) rfl rfl ?_
      refine wl_ild_n (pc' := 184) rfl e_3 rfl ?_
      obtain ⟨k7, k⟩ := k
      refine wl_iaload (g := m.A 48) (pc' := 185) rfl (hq_48 _) k7 rfl ?_
      refine wp_p (pc' := 187) (lv' := lv0) (st' := [.int (nI 16), .int ((m.A 48).getD (ix x3) 0)]) rfl rfl ?_
      refine wp_ic_ne (pc' := 190) rfl rfl (fun c8 => ?_) (fun c8 => ?_)
      · replace k := it_f (c := ((m.A 48).getD (ix x3) 0) = (nI 16)) c8 k
        refine wp_p (pc' := 195) (lv' := lv0) (st' := [.int (nI 0)]) rfl rfl ?_
        refine wl_st1 (pc' := 196) (k0 := 2) (v := .int (nI 0)) (r := []) rfl rfl (fun lv9 e10 f11 => ?_)
        have e12 := f11 0 _ e_0 (by decide) rfl
        have e13 := f11 3 _ e_3 (by decide) rfl
        refine wl_iinc (pc' := 199) (v := x3 + nI 1) rfl e13 rfl rfl rfl (fun lv14 e15 f16 => ?_)
        have e17 := f16 0 _ e12 (by decide) rfl
        have e18 := f16 2 _ e10 (by decide) rfl
        refine wp_p (pc' := 167) (lv' := lv14) (st' := []) rfl rfl ?_
        exact k _ ⟨e17, e18, e15, trivial⟩
      · replace k := it_t (c := ((m.A 48).getD (ix x3) 0) = (nI 16)) c8 k
        exact k _ ⟨e_0, e_3, trivial⟩
set_option maxRecDepth 20000 in
theorem sg_150_60 {d : Nat} {m : Mm} {K : Option Value → Mm → Prop} (x1 : Int32) (k : WP d 147 [.ref 42] m (fun v m1 => ∃ w2, v = some (.int w2) ∧ (if w2 = (nI 6) then WH (d + 1) 150 99 [(0, .ref 42), (1, .int x1)] [] m1 K else WP d 147 [.ref 42] m1 (fun v m4 => ∃ w5, v = some (.int w5) ∧ (if w5 = (nI 7) then WH (d + 1) 150 99 [(0, .ref 42), (1, .int x1)] [] m4 K else (if (nI 5) < x1 then WH (d + 1) 150 126 [(0, .ref 42), (1, .int x1)] [] m4 K else WP d 147 [.ref 42] m4 (fun v m8 => ∃ w9, v = some (.int w9) ∧ (if w9 = (nI 4) then WH (d + 1) 150 99 [(0, .ref 42), (1, .int x1)] [] m8 K else WP d 147 [.ref 42] m8 (fun v m11 => ∃ w12, v = some (.int w12) ∧ (if w12 = (nI 5) then WH (d + 1) 150 99 [(0, .ref 42), (1, .int x1)] [] m11 K else WH (d + 1) 150 126 [(0, .ref 42), (1, .int x1)] [] m11 K)))))))))) : WH (d + 1) 150 60 [(0, .ref 42), (1, .int x1)] [] m K := by
  intro lv0 el
  obtain ⟨e_0, e_1, _⟩ := el
  refine wl_ald_n (pc' := 61) rfl e_0 rfl ?_
  refine wl_cv (As := [.ref 42]) (r := []) (pc' := 64) rfl rfl rfl k ?_
  rintro _ m1 ⟨w2, rfl, k⟩
  show sm_wp (d + 1) 150 64 lv0 [.int w2] (hp m1) (WQ K)
  refine wp_p (pc' := 66) (lv' := lv0) (st' := [.int (nI 6), .int w2]) rfl rfl ?_
  refine wp_ic_eq (pc' := 69) rfl rfl (fun c3 => ?_) (fun c3 => ?_)
  · replace k := it_t (c := w2 = (nI 6)) c3 k
    exact k _ ⟨e_0, e_1, trivial⟩
  · replace k := it_f (c := w2 = (nI 6)) c3 k
    refine wl_ald_n (pc' := 70) rfl e_0 rfl ?_
    refine wl_cv (As := [.ref 42]) (r := []) (pc' := 73) rfl rfl rfl k ?_
    rintro _ m4 ⟨w5, rfl, k⟩
    show sm_wp (d + 1) 150 73 lv0 [.int w5] (hp m4) (WQ K)
    refine wp_p (pc' := 75) (lv' := lv0) (st' := [.int (nI 7), .int w5]) rfl rfl ?_
    refine wp_ic_eq (pc' := 78) rfl rfl (fun c6 => ?_) (fun c6 => ?_)
    · replace k := it_t (c := w5 = (nI 7)) c6 k
      exact k _ ⟨e_0, e_1, trivial⟩
    · replace k := it_f (c := w5 = (nI 7)) c6 k
      refine wl_ild_n (pc' := 79) rfl e_1 rfl ?_
      refine wp_p (pc' := 80) (lv' := lv0) (st' := [.int (nI 5), .int x1]) rfl rfl ?_
      refine wp_ic_gt (pc' := 83) rfl rfl (fun c7 => ?_) (fun c7 => ?_)
      · replace k := it_t (c := (nI 5) < x1) c7 k
        exact k _ ⟨e_0, e_1, trivial⟩
      · replace k := it_f (c := (nI 5) < x1) c7 k
        refine wl_ald_n (pc' := 84) rfl e_0 rfl ?_
        refine wl_cv (As := [.ref 42]) (r := []) (pc' := 87) rfl rfl rfl k ?_
        rintro _ m8 ⟨w9, rfl, k⟩
        show sm_wp (d + 1) 150 87 lv0 [.int w9] (hp m8) (WQ K)
        refine wp_p (pc' := 88) (lv' := lv0) (st' := [.int (nI 4), .int w9]) rfl rfl ?_
        refine wp_ic_eq (pc' := 91) rfl rfl (fun c10 => ?_) (fun c10 => ?_)
        · replace k := it_t (c := w9 = (nI 4)) c10 k
          exact k _ ⟨e_0, e_1, trivial⟩
        · replace k := it_f (c := w9 = (nI 4)) c10 k
          refine wl_ald_n (pc' := 92) rfl e_0 rfl ?_
          refine wl_cv (As := [.ref 42]) (r := []) (pc' := 95) rfl rfl rfl k ?_
          rintro _ m11 ⟨w12, rfl, k⟩
          show sm_wp (d + 1) 150 95 lv0 [.int w12] (hp m11) (WQ K)
          refine wp_p (pc' := 96) (lv' := lv0) (st' := [.int (nI 5), .int w12]) rfl rfl ?_
          refine wp_ic_ne (pc' := 99) rfl rfl (fun c13 => ?_) (fun c13 => ?_)
          · replace k := it_f (c := w12 = (nI 5)) c13 k
            exact k _ ⟨e_0, e_1, trivial⟩
          · replace k := it_t (c := w12 = (nI 5)) c13 k
            exact k _ ⟨e_0, e_1, trivial⟩
set_option maxRecDepth 20000 in
theorem sg_150_215 {d : Nat} {m : Mm} {K : Option Value → Mm → Prop} (k : K (some (.int (nI 0))) m) : WH d 150 215 [] [] m K := by
  intro lv0 el
  refine wp_p (pc' := 216) (lv' := lv0) (st' := [.int (nI 0)]) rfl rfl ?_
  exact wl_ret rfl rfl ⟨_, rfl, k⟩
set_option maxRecDepth 20000 in
theorem sg_150_227 {d : Nat} {m : Mm} {K : Option Value → Mm → Prop} (k : WP d 147 [.ref 42] m (fun v m1 => ∃ w2, v = some (.int w2) ∧ (if w2 = (nI 16) then WP d 148 [.ref 42] ((m1.uF 42 10 ((m1.F 42 10) - (nI 1))).uF 42 12 ((m1.F 42 12) - (nI 1))) (fun v m4 => v = none ∧ K (some (.int (nI 1))) m4) else ok (m1.A 48).length ((m1.F 42 10) - (nI 1)) ∧ WP d 145 [.ref 42, .int ((m1.A 48).getD (ix ((m1.F 42 10) - (nI 1))) 0), .int (nI 0)] (m1.uF 42 10 ((m1.F 42 10) - (nI 1))) (fun v m6 => v = none ∧ WH (d + 1) 150 227 [(0, .ref 42)] [] m6 K)))) : WH (d + 1) 150 227 [(0, .ref 42)] [] m K := by
  intro lv0 el
  obtain ⟨e_0, _⟩ := el
  refine wl_ald_n (pc' := 228) rfl e_0 rfl ?_
  refine wl_cv (As := [.ref 42]) (r := []) (pc' := 231) rfl rfl rfl k ?_
  rintro _ m1 ⟨w2, rfl, k⟩
  show sm_wp (d + 1) 150 231 lv0 [.int w2] (hp m1) (WQ K)
  refine wp_p (pc' := 233) (lv' := lv0) (st' := [.int (nI 16), .int w2]) rfl rfl ?_
  refine wp_ic_eq (pc' := 236) rfl rfl (fun c3 => ?_) (fun c3 => ?_)
  · replace k := it_t (c := w2 = (nI 16)) c3 k
    refine wl_ald_n (pc' := 264) rfl e_0 rfl ?_
    refine wp_p (pc' := 265) (lv' := lv0) (st' := [.ref 42, .ref 42]) rfl rfl ?_
    refine wp_get (v := .int (m1.F 42 10)) (pc' := 268) rfl (hq_42 _) rfl rfl ?_
    refine wp_p (pc' := 269) (lv' := lv0) (st' := [.int (nI 1), .int (m1.F 42 10), .ref 42]) rfl rfl ?_
    refine wp_isub (v := (m1.F 42 10) - (nI 1)) (pc' := 270) rfl rfl rfl ?_
    refine wl_put (pc' := 273) (h2 := hp (m1.uF 42 10 ((m1.F 42 10) - (nI 1)))) rfl (hq_42 _) rfl rfl rfl (pf_42_10 _ _) ?_
    refine wl_ald_n (pc' := 274) rfl e_0 rfl ?_
    refine wp_p (pc' := 275) (lv' := lv0) (st' := [.ref 42, .ref 42]) rfl rfl ?_
    refine wp_get (v := .int (m1.F 42 12)) (pc' := 278) rfl (hq_42 _) rfl rfl ?_
    refine wp_p (pc' := 279) (lv' := lv0) (st' := [.int (nI 1), .int (m1.F 42 12), .ref 42]) rfl rfl ?_
    refine wp_isub (v := (m1.F 42 12) - (nI 1)) (pc' := 280) rfl rfl rfl ?_
    refine wl_put (pc' := 283) (h2 := hp ((m1.uF 42 10 ((m1.F 42 10) - (nI 1))).uF 42 12 ((m1.F 42 12) - (nI 1)))) rfl (hq_42 _) rfl rfl rfl (pf_42_12 _ _) ?_
    refine wl_ald_n (pc' := 284) rfl e_0 rfl ?_
    refine wl_cv (As := [.ref 42]) (r := []) (pc' := 287) rfl rfl rfl k ?_
    rintro _ m4 ⟨rfl, k⟩
    show sm_wp (d + 1) 150 287 lv0 [] (hp m4) (WQ K)
    refine wp_p (pc' := 288) (lv' := lv0) (st' := [.int (nI 1)]) rfl rfl ?_
    exact wl_ret rfl rfl ⟨_, rfl, k⟩
  · replace k := it_f (c := w2 = (nI 16)) c3 k
    refine wl_ald_n (pc' := 237) rfl e_0 rfl ?_
    refine wp_p (pc' := 238) (lv' := lv0) (st' := [.ref 42, .ref 42]) rfl rfl ?_
    refine wp_get (v := .int (m1.F 42 10)) (pc' := 241) rfl (hq_42 _) rfl rfl ?_
    refine wp_p (pc' := 242) (lv' := lv0) (st' := [.int (nI 1), .int (m1.F 42 10), .ref 42]) rfl rfl ?_
    refine wp_isub (v := (m1.F 42 10) - (nI 1)) (pc' := 243) rfl rfl rfl ?_
    refine wl_put (pc' := 246) (h2 := hp (m1.uF 42 10 ((m1.F 42 10) - (nI 1)))) rfl (hq_42 _) rfl rfl rfl (pf_42_10 _ _) ?_
    refine wl_ald_n (pc' := 247) rfl e_0 rfl ?_
    refine wl_ald_n (pc' := 248) rfl e_0 rfl ?_
    refine wp_get (v := .ref 48) (pc' := 251) rfl (hq_42 _) rfl rfl ?_
    refine wl_ald_n (pc' := 252) rfl e_0 rfl ?_
    refine wp_get (v := .int ((m1.F 42 10) - (nI 1))) (pc' := 255) rfl (hq_42 _) rfl rfl ?_
    obtain ⟨k5, k⟩ := k
    refine wl_iaload (g := m1.A 48) (pc' := 256) rfl (hq_48 _) k5 rfl ?_
    refine wp_p (pc' := 257) (lv' := lv0) (st' := [.int (nI 0), .int ((m1.A 48).getD (ix ((m1.F 42 10) - (nI 1))) 0), .ref 42]) rfl rfl ?_
    refine wl_cv (As := [.ref 42, .int ((m1.A 48).getD (ix ((m1.F 42 10) - (nI 1))) 0), .int (nI 0)]) (r := []) (pc' := 260) rfl rfl rfl k ?_
    rintro _ m6 ⟨rfl, k⟩
    show sm_wp (d + 1) 150 260 lv0 [] (hp m6) (WQ K)
    refine wp_p (pc' := 227) (lv' := lv0) (st' := []) rfl rfl ?_
    exact k _ ⟨e_0, trivial⟩
set_option maxRecDepth 20000 in
theorem sg_150_190 {d : Nat} {m : Mm} {K : Option Value → Mm → Prop} (x3 : Int32) (k : WH d 150 167 [(0, .ref 42), (2, .int (nI 1)), (3, .int (x3 + nI 1))] [] m K) : WH d 150 190 [(0, .ref 42), (3, .int x3)] [] m K := by
  intro lv0 el
  obtain ⟨e_0, e_3, _⟩ := el
  refine wp_p (pc' := 191) (lv' := lv0) (st' := [.int (nI 1)]) rfl rfl ?_
  refine wp_p (pc' := 195) (lv' := lv0) (st' := [.int (nI 1)]) rfl rfl ?_
  refine wl_st1 (pc' := 196) (k0 := 2) (v := .int (nI 1)) (r := []) rfl rfl (fun lv1 e2 f3 => ?_)
  have e4 := f3 0 _ e_0 (by decide) rfl
  have e5 := f3 3 _ e_3 (by decide) rfl
  refine wl_iinc (pc' := 199) (v := x3 + nI 1) rfl e5 rfl rfl rfl (fun lv6 e7 f8 => ?_)
  have e9 := f8 0 _ e4 (by decide) rfl
  have e10 := f8 2 _ e2 (by decide) rfl
  refine wp_p (pc' := 167) (lv' := lv6) (st' := []) rfl rfl ?_
  exact k _ ⟨e9, e10, e7, trivial⟩
set_option maxRecDepth 20000 in
theorem sg_150_99 {d : Nat} {m : Mm} {K : Option Value → Mm → Prop} (x1 : Int32) (k : ok (m.A 48).length ((m.F 42 10) - (nI 1)) ∧ WP d 145 [.ref 42, .int ((m.A 48).getD (ix ((m.F 42 10) - (nI 1))) 0), .int (nI 0)] (m.uF 42 10 ((m.F 42 10) - (nI 1))) (fun v m2 => v = none ∧ WH (d + 1) 150 60 [(0, .ref 42), (1, .int x1)] [] m2 K)) : WH (d + 1) 150 99 [(0, .ref 42), (1, .int x1)] [] m K := by
  intro lv0 el
  obtain ⟨e_0, e_1, _⟩ := el
  refine wl_ald_n (pc' := 100) rfl e_0 rfl ?_
  refine wp_p (pc' := 101) (lv' := lv0) (st' := [.ref 42, .ref 42]) rfl rfl ?_
  refine wp_get (v := .int (m.F 42 10)) (pc' := 104) rfl (hq_42 _) rfl rfl ?_
  refine wp_p (pc' := 105) (lv' := lv0) (st' := [.int (nI 1), .int (m.F 42 10), .ref 42]) rfl rfl ?_
  refine wp_isub (v := (m.F 42 10) - (nI 1)) (pc' := 106) rfl rfl rfl ?_
  refine wl_put (pc' := 109) (h2 := hp (m.uF 42 10 ((m.F 42 10) - (nI 1)))) rfl (hq_42 _) rfl rfl rfl (pf_42_10 _ _) ?_
  refine wl_ald_n (pc' := 110) rfl e_0 rfl ?_
  refine wl_ald_n (pc' := 111) rfl e_0 rfl ?_
  refine wp_get (v := .ref 48) (pc' := 114) rfl (hq_42 _) rfl rfl ?_
  refine wl_ald_n (pc' := 115) rfl e_0 rfl ?_
  refine wp_get (v := .int ((m.F 42 10) - (nI 1))) (pc' := 118) rfl (hq_42 _) rfl rfl ?_
  obtain ⟨k1, k⟩ := k
  refine wl_iaload (g := m.A 48) (pc' := 119) rfl (hq_48 _) k1 rfl ?_
  refine wp_p (pc' := 120) (lv' := lv0) (st' := [.int (nI 0), .int ((m.A 48).getD (ix ((m.F 42 10) - (nI 1))) 0), .ref 42]) rfl rfl ?_
  refine wl_cv (As := [.ref 42, .int ((m.A 48).getD (ix ((m.F 42 10) - (nI 1))) 0), .int (nI 0)]) (r := []) (pc' := 123) rfl rfl rfl k ?_
  rintro _ m2 ⟨rfl, k⟩
  show sm_wp (d + 1) 150 123 lv0 [] (hp m2) (WQ K)
  refine wp_p (pc' := 60) (lv' := lv0) (st' := []) rfl rfl ?_
  exact k _ ⟨e_0, e_1, trivial⟩
set_option maxRecDepth 20000 in
theorem sg_150_126 {d : Nat} {m : Mm} {K : Option Value → Mm → Prop} (x1 : Int32) (k : ok (m.A 48).length (m.F 42 10) ∧ K (some (.int (nI 1))) ((((m.uA 48 ((m.A 48).set (ix (m.F 42 10)) x1)).uF 42 10 ((m.F 42 10) + (nI 1))).uF 42 5 ((m.F 42 5) + (nI 1))).uF 42 16 (nI 1))) : WH d 150 126 [(0, .ref 42), (1, .int x1)] [] m K := by
  intro lv0 el
  obtain ⟨e_0, e_1, _⟩ := el
  refine wl_ald_n (pc' := 127) rfl e_0 rfl ?_
  refine wp_get (v := .ref 48) (pc' := 130) rfl (hq_42 _) rfl rfl ?_
  refine wl_ald_n (pc' := 131) rfl e_0 rfl ?_
  refine wp_get (v := .int (m.F 42 10)) (pc' := 134) rfl (hq_42 _) rfl rfl ?_
  refine wl_ild_n (pc' := 135) rfl e_1 rfl ?_
  obtain ⟨k1, k⟩ := k
  refine wl_iastore (g := m.A 48) (pc' := 136) (h2 := hp (m.uA 48 ((m.A 48).set (ix (m.F 42 10)) x1))) rfl (hq_48 _) k1 rfl (pa_48 _ _) ?_
  refine wl_ald_n (pc' := 137) rfl e_0 rfl ?_
  refine wp_p (pc' := 138) (lv' := lv0) (st' := [.ref 42, .ref 42]) rfl rfl ?_
  refine wp_get (v := .int (m.F 42 10)) (pc' := 141) rfl (hq_42 _) rfl rfl ?_
  refine wp_p (pc' := 142) (lv' := lv0) (st' := [.int (nI 1), .int (m.F 42 10), .ref 42]) rfl rfl ?_
  refine wp_iadd (v := (m.F 42 10) + (nI 1)) (pc' := 143) rfl rfl rfl ?_
  refine wl_put (pc' := 146) (h2 := hp ((m.uA 48 ((m.A 48).set (ix (m.F 42 10)) x1)).uF 42 10 ((m.F 42 10) + (nI 1)))) rfl (hq_42 _) rfl rfl rfl (pf_42_10 _ _) ?_
  refine wl_ald_n (pc' := 147) rfl e_0 rfl ?_
  refine wp_p (pc' := 148) (lv' := lv0) (st' := [.ref 42, .ref 42]) rfl rfl ?_
  refine wp_get (v := .int (m.F 42 5)) (pc' := 151) rfl (hq_42 _) rfl rfl ?_
  refine wp_p (pc' := 152) (lv' := lv0) (st' := [.int (nI 1), .int (m.F 42 5), .ref 42]) rfl rfl ?_
  refine wp_iadd (v := (m.F 42 5) + (nI 1)) (pc' := 153) rfl rfl rfl ?_
  refine wl_put (pc' := 156) (h2 := hp (((m.uA 48 ((m.A 48).set (ix (m.F 42 10)) x1)).uF 42 10 ((m.F 42 10) + (nI 1))).uF 42 5 ((m.F 42 5) + (nI 1)))) rfl (hq_42 _) rfl rfl rfl (pf_42_5 _ _) ?_
  refine wl_ald_n (pc' := 157) rfl e_0 rfl ?_
  refine wp_p (pc' := 158) (lv' := lv0) (st' := [.int (nI 1), .ref 42]) rfl rfl ?_
  refine wl_put (pc' := 161) (h2 := hp ((((m.uA 48 ((m.A 48).set (ix (m.F 42 10)) x1)).uF 42 10 ((m.F 42 10) + (nI 1))).uF 42 5 ((m.F 42 5) + (nI 1))).uF 42 16 (nI 1))) rfl (hq_42 _) rfl rfl rfl (pf_42_16 _ _) ?_
  refine wp_p (pc' := 162) (lv' := lv0) (st' := [.int (nI 1)]) rfl rfl ?_
  exact wl_ret rfl rfl ⟨_, rfl, k⟩
/-! 151: QueryTablesModel.expression -/
set_option maxRecDepth 20000 in
theorem sp_151 {d : Nat} {m : Mm} {K : Option Value → Mm → Prop} (k : WH d 151 17 [(0, .ref 42), (1, .int (nI 1))] [] (((m.uF 42 10 (nI 0)).uF 42 12 (nI 0)).uF 42 16 (nI 1)) K) : WP d 151 [.ref 42] m K := by
  have e_0 : sm_lk (lv_args 0 [.ref 42]) 0 = some (.ref 42) := rfl
  show sm_wp d 151 0 (lv_args 0 [.ref 42]) [] (hp m) (WQ K)
  generalize lv_args 0 [.ref 42] = lv0 at *
  refine wl_ald_n (pc' := 1) rfl e_0 rfl ?_
  refine wp_p (pc' := 2) (lv' := lv0) (st' := [.int (nI 0), .ref 42]) rfl rfl ?_
  refine wl_put (pc' := 5) (h2 := hp (m.uF 42 10 (nI 0))) rfl (hq_42 _) rfl rfl rfl (pf_42_10 _ _) ?_
  refine wl_ald_n (pc' := 6) rfl e_0 rfl ?_
  refine wp_p (pc' := 7) (lv' := lv0) (st' := [.int (nI 0), .ref 42]) rfl rfl ?_
  refine wl_put (pc' := 10) (h2 := hp ((m.uF 42 10 (nI 0)).uF 42 12 (nI 0))) rfl (hq_42 _) rfl rfl rfl (pf_42_12 _ _) ?_
  refine wl_ald_n (pc' := 11) rfl e_0 rfl ?_
  refine wp_p (pc' := 12) (lv' := lv0) (st' := [.int (nI 1), .ref 42]) rfl rfl ?_
  refine wl_put (pc' := 15) (h2 := hp (((m.uF 42 10 (nI 0)).uF 42 12 (nI 0)).uF 42 16 (nI 1))) rfl (hq_42 _) rfl rfl rfl (pf_42_16 _ _) ?_
  refine wp_p (pc' := 16) (lv' := lv0) (st' := [.int (nI 1)]) rfl rfl ?_
  refine wl_st1 (pc' := 17) (k0 := 1) (v := .int (nI 1)) (r := []) rfl rfl (fun lv1 e2 f3 => ?_)
  have e4 := f3 0 _ e_0 (by decide) rfl
  exact k _ ⟨e4, e2, trivial⟩
set_option maxRecDepth 20000 in
theorem sg_151_17 {d : Nat} {m : Mm} {K : Option Value → Mm → Prop} (x1 : Int32) (k : (if x1 = (nI 0) then WH (d + 1) 151 50 [(0, .ref 42)] [] m K else (if (m.F 42 6) = (nI 0) then (if (m.F 42 16) = (nI 0) then WP d 150 [.ref 42] m (fun v m4 => ∃ w5, v = some (.int w5) ∧ WH (d + 1) 151 17 [(0, .ref 42), (1, .int w5)] [] m4 K) else WP d 149 [.ref 42] m (fun v m10 => v = none ∧ WH (d + 1) 151 17 [(0, .ref 42), (1, .int x1)] [] m10 K)) else WH (d + 1) 151 50 [(0, .ref 42)] [] m K))) : WH (d + 1) 151 17 [(0, .ref 42), (1, .int x1)] [] m K := by
  intro lv0 el
  obtain ⟨e_0, e_1, _⟩ := el
  refine wl_ild_n (pc' := 18) rfl e_1 rfl ?_
  refine wp_if_eq (pc' := 21) rfl rfl (fun c1 => ?_) (fun c1 => ?_)
  · replace k := it_t (c := x1 = (nI 0)) c1 k
    exact k _ ⟨e_0, trivial⟩
  · replace k := it_f (c := x1 = (nI 0)) c1 k
    refine wl_ald_n (pc' := 22) rfl e_0 rfl ?_
    refine wp_get (v := .int (m.F 42 6)) (pc' := 25) rfl (hq_42 _) rfl rfl ?_
    refine wp_if_ne (pc' := 28) rfl rfl (fun c2 => ?_) (fun c2 => ?_)
    · replace k := it_f (c := (m.F 42 6) = (nI 0)) c2 k
      exact k _ ⟨e_0, trivial⟩
    · replace k := it_t (c := (m.F 42 6) = (nI 0)) c2 k
      refine wl_ald_n (pc' := 29) rfl e_0 rfl ?_
      refine wp_get (v := .int (m.F 42 16)) (pc' := 32) rfl (hq_42 _) rfl rfl ?_
      refine wp_if_eq (pc' := 35) rfl rfl (fun c3 => ?_) (fun c3 => ?_)
      · replace k := it_t (c := (m.F 42 16) = (nI 0)) c3 k
        refine wl_ald_n (pc' := 43) rfl e_0 rfl ?_
        refine wl_cv (As := [.ref 42]) (r := []) (pc' := 46) rfl rfl rfl k ?_
        rintro _ m4 ⟨w5, rfl, k⟩
        show sm_wp (d + 1) 151 46 lv0 [.int w5] (hp m4) (WQ K)
        refine wl_st1 (pc' := 47) (k0 := 1) (v := .int w5) (r := []) rfl rfl (fun lv6 e7 f8 => ?_)
        have e9 := f8 0 _ e_0 (by decide) rfl
        refine wp_p (pc' := 17) (lv' := lv6) (st' := []) rfl rfl ?_
        exact k _ ⟨e9, e7, trivial⟩
      · replace k := it_f (c := (m.F 42 16) = (nI 0)) c3 k
        refine wl_ald_n (pc' := 36) rfl e_0 rfl ?_
        refine wl_cv (As := [.ref 42]) (r := []) (pc' := 39) rfl rfl rfl k ?_
        rintro _ m10 ⟨rfl, k⟩
        show sm_wp (d + 1) 151 39 lv0 [] (hp m10) (WQ K)
        refine wp_p (pc' := 17) (lv' := lv0) (st' := []) rfl rfl ?_
        exact k _ ⟨e_0, e_1, trivial⟩
set_option maxRecDepth 20000 in
theorem sg_151_50 {d : Nat} {m : Mm} {K : Option Value → Mm → Prop} (k : (if (m.F 42 10) ≤ (nI 0) then K none m else (if (m.F 42 6) = (nI 0) then ok (m.A 48).length ((m.F 42 10) - (nI 1)) ∧ (if ((m.A 48).getD (ix ((m.F 42 10) - (nI 1))) 0) = (nI 16) then ok (m.A 48).length ((m.F 42 10) - (nI 1)) ∧ WP d 145 [.ref 42, .int ((m.A 48).getD (ix ((m.F 42 10) - (nI 1))) 0), .int (nI 0)] ((m.uF 42 10 ((m.F 42 10) - (nI 1))).uF 42 6 (nI 1)) (fun v m10 => v = none ∧ WH (d + 1) 151 50 [(0, .ref 42)] [] m10 K) else ok (m.A 48).length ((m.F 42 10) - (nI 1)) ∧ WP d 145 [.ref 42, .int ((m.A 48).getD (ix ((m.F 42 10) - (nI 1))) 0), .int (nI 0)] ((m.uF 42 10 ((m.F 42 10) - (nI 1))).uF 42 6 (nI 0)) (fun v m8 => v = none ∧ WH (d + 1) 151 50 [(0, .ref 42)] [] m8 K)) else ok (m.A 48).length ((m.F 42 10) - (nI 1)) ∧ WP d 145 [.ref 42, .int ((m.A 48).getD (ix ((m.F 42 10) - (nI 1))) 0), .int (nI 0)] ((m.uF 42 10 ((m.F 42 10) - (nI 1))).uF 42 6 (nI 1)) (fun v m4 => v = none ∧ WH (d + 1) 151 50 [(0, .ref 42)] [] m4 K)))) : WH (d + 1) 151 50 [(0, .ref 42)] [] m K := by
  intro lv0 el
  obtain ⟨e_0, _⟩ := el
  refine wl_ald_n (pc' := 51) rfl e_0 rfl ?_
  refine wp_get (v := .int (m.F 42 10)) (pc' := 54) rfl (hq_42 _) rfl rfl ?_
  refine wp_if_le (pc' := 57) rfl rfl (fun c1 => ?_) (fun c1 => ?_)
  · replace k := it_t (c := (m.F 42 10) ≤ (nI 0)) c1 k
    exact wp_r rfl rfl ⟨_, rfl, k⟩
  · replace k := it_f (c := (m.F 42 10) ≤ (nI 0)) c1 k
    refine wl_ald_n (pc' := 58) rfl e_0 rfl ?_
    refine wp_p (pc' := 59) (lv' := lv0) (st' := [.ref 42, .ref 42]) rfl rfl ?_
    refine wp_get (v := .int (m.F 42 10)) (pc' := 62) rfl (hq_42 _) rfl rfl ?_
    refine wp_p (pc' := 63) (lv' := lv0) (st' := [.int (nI 1), .int (m.F 42 10), .ref 42]) rfl rfl ?_
    refine wp_isub (v := (m.F 42 10) - (nI 1)) (pc' := 64) rfl rfl rfl ?_
    refine wl_put (pc' := 67) (h2 := hp (m.uF 42 10 ((m.F 42 10) - (nI 1)))) rfl (hq_42 _) rfl rfl rfl (pf_42_10 _ _) ?_
    refine wl_ald_n (pc' := 68) rfl e_0 rfl ?_
    refine wl_ald_n (pc' := 69) rfl e_0 rfl ?_
    refine wp_get (v := .int (m.F 42 6)) (pc' := 72) rfl (hq_42 _) rfl rfl ?_
    refine wp_if_ne (pc' := 75) rfl rfl (fun c2 => ?_) (fun c2 => ?_)
    · replace k := it_f (c := (m.F 42 6) = (nI 0)) c2 k
      refine wp_p (pc' := 90) (lv' := lv0) (st' := [.int (nI 1), .ref 42]) rfl rfl ?_
      refine wp_p (pc' := 94) (lv' := lv0) (st' := [.int (nI 1), .ref 42]) rfl rfl ?_
      refine wl_put (pc' := 97) (h2 := hp ((m.uF 42 10 ((m.F 42 10) - (nI 1))).uF 42 6 (nI 1))) rfl (hq_42 _) rfl rfl rfl (pf_42_6 _ _) ?_
      refine wl_ald_n (pc' := 98) rfl e_0 rfl ?_
      refine wl_ald_n (pc' := 99) rfl e_0 rfl ?_
      refine wp_get (v := .ref 48) (pc' := 102) rfl (hq_42 _) rfl rfl ?_
      refine wl_ald_n (pc' := 103) rfl e_0 rfl ?_
      refine wp_get (v := .int ((m.F 42 10) - (nI 1))) (pc' := 106) rfl (hq_42 _) rfl rfl ?_
      obtain ⟨k3, k⟩ := k
      refine wl_iaload (g := m.A 48) (pc' := 107) rfl (hq_48 _) k3 rfl ?_
      refine wp_p (pc' := 108) (lv' := lv0) (st' := [.int (nI 0), .int ((m.A 48).getD (ix ((m.F 42 10) - (nI 1))) 0), .ref 42]) rfl rfl ?_
      refine wl_cv (As := [.ref 42, .int ((m.A 48).getD (ix ((m.F 42 10) - (nI 1))) 0), .int (nI 0)]) (r := []) (pc' := 111) rfl rfl rfl k ?_
      rintro _ m4 ⟨rfl, k⟩
      show sm_wp (d + 1) 151 111 lv0 [] (hp m4) (WQ K)
      refine wp_p (pc' := 50) (lv' := lv0) (st' := []) rfl rfl ?_
      exact k _ ⟨e_0, trivial⟩
    · replace k := it_t (c := (m.F 42 6) = (nI 0)) c2 k
      refine wl_ald_n (pc' := 76) rfl e_0 rfl ?_
      refine wp_get (v := .ref 48) (pc' := 79) rfl (hq_42 _) rfl rfl ?_
      refine wl_ald_n (pc' := 80) rfl e_0 rfl ?_
      refine wp_get (v := .int ((m.F 42 10) - (nI 1))) (pc' := 83) rfl (hq_42 _) rfl rfl ?_
      obtain ⟨k5, k⟩ := k
      refine wl_iaload (g := m.A 48) (pc' := 84) rfl (hq_48 _) k5 rfl ?_
      refine wp_p (pc' := 86) (lv' := lv0) (st' := [.int (nI 16), .int ((m.A 48).getD (ix ((m.F 42 10) - (nI 1))) 0), .ref 42]) rfl rfl ?_
      refine wp_ic_ne (pc' := 89) rfl rfl (fun c6 => ?_) (fun c6 => ?_)
      · replace k := it_f (c := ((m.A 48).getD (ix ((m.F 42 10) - (nI 1))) 0) = (nI 16)) c6 k
        refine wp_p (pc' := 94) (lv' := lv0) (st' := [.int (nI 0), .ref 42]) rfl rfl ?_
        refine wl_put (pc' := 97) (h2 := hp ((m.uF 42 10 ((m.F 42 10) - (nI 1))).uF 42 6 (nI 0))) rfl (hq_42 _) rfl rfl rfl (pf_42_6 _ _) ?_
        refine wl_ald_n (pc' := 98) rfl e_0 rfl ?_
        refine wl_ald_n (pc' := 99) rfl e_0 rfl ?_
        refine wp_get (v := .ref 48) (pc' := 102) rfl (hq_42 _) rfl rfl ?_
        refine wl_ald_n (pc' := 103) rfl e_0 rfl ?_
        refine wp_get (v := .int ((m.F 42 10) - (nI 1))) (pc' := 106) rfl (hq_42 _) rfl rfl ?_
        obtain ⟨k7, k⟩ := k
        refine wl_iaload (g := m.A 48) (pc' := 107) rfl (hq_48 _) k7 rfl ?_
        refine wp_p (pc' := 108) (lv' := lv0) (st' := [.int (nI 0), .int ((m.A 48).getD (ix ((m.F 42 10) - (nI 1))) 0), .ref 42]) rfl rfl ?_
        refine wl_cv (As := [.ref 42, .int ((m.A 48).getD (ix ((m.F 42 10) - (nI 1))) 0), .int (nI 0)]) (r := []) (pc' := 111) rfl rfl rfl k ?_
        rintro _ m8 ⟨rfl, k⟩
        show sm_wp (d + 1) 151 111 lv0 [] (hp m8) (WQ K)
        refine wp_p (pc' := 50) (lv' := lv0) (st' := []) rfl rfl ?_
        exact k _ ⟨e_0, trivial⟩
      · replace k := it_t (c := ((m.A 48).getD (ix ((m.F 42 10) - (nI 1))) 0) = (nI 16)) c6 k
        refine wp_p (pc' := 90) (lv' := lv0) (st' := [.int (nI 1), .ref 42]) rfl rfl ?_
        refine wp_p (pc' := 94) (lv' := lv0) (st' := [.int (nI 1), .ref 42]) rfl rfl ?_
        refine wl_put (pc' := 97) (h2 := hp ((m.uF 42 10 ((m.F 42 10) - (nI 1))).uF 42 6 (nI 1))) rfl (hq_42 _) rfl rfl rfl (pf_42_6 _ _) ?_
        refine wl_ald_n (pc' := 98) rfl e_0 rfl ?_
        refine wl_ald_n (pc' := 99) rfl e_0 rfl ?_
        refine wp_get (v := .ref 48) (pc' := 102) rfl (hq_42 _) rfl rfl ?_
        refine wl_ald_n (pc' := 103) rfl e_0 rfl ?_
        refine wp_get (v := .int ((m.F 42 10) - (nI 1))) (pc' := 106) rfl (hq_42 _) rfl rfl ?_
        obtain ⟨k9, k⟩ := k
        refine wl_iaload (g := m.A 48) (pc' := 107) rfl (hq_48 _) k9 rfl ?_
        refine wp_p (pc' := 108) (lv' := lv0) (st' := [.int (nI 0), .int ((m.A 48).getD (ix ((m.F 42 10) - (nI 1))) 0), .ref 42]) rfl rfl ?_
        refine wl_cv (As := [.ref 42, .int ((m.A 48).getD (ix ((m.F 42 10) - (nI 1))) 0), .int (nI 0)]) (r := []) (pc' := 111) rfl rfl rfl k ?_
        rintro _ m10 ⟨rfl, k⟩
        show sm_wp (d + 1) 151 111 lv0 [] (hp m10) (WQ K)
        refine wp_p (pc' := 50) (lv' := lv0) (st' := []) rfl rfl ?_
        exact k _ ⟨e_0, trivial⟩
/-! 152: QueryTablesModel.unhold -/
set_option maxRecDepth 20000 in
theorem sp_152 {d : Nat} {m : Mm} {K : Option Value → Mm → Prop} (k : ok (m.A 49).length ((m.F 42 13) - (nI 1)) ∧ WP d 145 [.ref 42, .int ((m.A 49).getD (ix ((m.F 42 13) - (nI 1))) 0), .int (nI 0)] (m.uF 42 13 ((m.F 42 13) - (nI 1))) (fun v m2 => v = none ∧ K none m2)) : WP (d + 1) 152 [.ref 42] m K := by
  have e_0 : sm_lk (lv_args 0 [.ref 42]) 0 = some (.ref 42) := rfl
  show sm_wp (d + 1) 152 0 (lv_args 0 [.ref 42]) [] (hp m) (WQ K)
  generalize lv_args 0 [.ref 42] = lv0 at *
  refine wl_ald_n (pc' := 1) rfl e_0 rfl ?_
  refine wp_p (pc' := 2) (lv' := lv0) (st' := [.ref 42, .ref 42]) rfl rfl ?_
  refine wp_get (v := .int (m.F 42 13)) (pc' := 5) rfl (hq_42 _) rfl rfl ?_
  refine wp_p (pc' := 6) (lv' := lv0) (st' := [.int (nI 1), .int (m.F 42 13), .ref 42]) rfl rfl ?_
  refine wp_isub (v := (m.F 42 13) - (nI 1)) (pc' := 7) rfl rfl rfl ?_
  refine wl_put (pc' := 10) (h2 := hp (m.uF 42 13 ((m.F 42 13) - (nI 1)))) rfl (hq_42 _) rfl rfl rfl (pf_42_13 _ _) ?_
  refine wl_ald_n (pc' := 11) rfl e_0 rfl ?_
  refine wl_ald_n (pc' := 12) rfl e_0 rfl ?_
  refine wp_get (v := .ref 49) (pc' := 15) rfl (hq_42 _) rfl rfl ?_
  refine wl_ald_n (pc' := 16) rfl e_0 rfl ?_
  refine wp_get (v := .int ((m.F 42 13) - (nI 1))) (pc' := 19) rfl (hq_42 _) rfl rfl ?_
  obtain ⟨k1, k⟩ := k
  refine wl_iaload (g := m.A 49) (pc' := 20) rfl (hq_49 _) k1 rfl ?_
  refine wp_p (pc' := 21) (lv' := lv0) (st' := [.int (nI 0), .int ((m.A 49).getD (ix ((m.F 42 13) - (nI 1))) 0), .ref 42]) rfl rfl ?_
  refine wl_cv (As := [.ref 42, .int ((m.A 49).getD (ix ((m.F 42 13) - (nI 1))) 0), .int (nI 0)]) (r := []) (pc' := 24) rfl rfl rfl k ?_
  rintro _ m2 ⟨rfl, k⟩
  show sm_wp (d + 1) 152 24 lv0 [] (hp m2) (WQ K)
  exact wp_r rfl rfl ⟨_, rfl, k⟩
/-! 153: QueryTablesModel.keep -/
set_option maxRecDepth 20000 in
theorem sp_153 {d : Nat} {m : Mm} {K : Option Value → Mm → Prop} (x1 : Int32) (k : ok (m.A 49).length (m.F 42 13) ∧ K none ((m.uA 49 ((m.A 49).set (ix (m.F 42 13)) x1)).uF 42 13 ((m.F 42 13) + (nI 1)))) : WP d 153 [.ref 42, .int x1] m K := by
  have e_0 : sm_lk (lv_args 0 [.ref 42, .int x1]) 0 = some (.ref 42) := rfl
  have e_1 : sm_lk (lv_args 0 [.ref 42, .int x1]) 1 = some (.int x1) := rfl
  show sm_wp d 153 0 (lv_args 0 [.ref 42, .int x1]) [] (hp m) (WQ K)
  generalize lv_args 0 [.ref 42, .int x1] = lv0 at *
  refine wl_ald_n (pc' := 1) rfl e_0 rfl ?_
  refine wp_get (v := .ref 49) (pc' := 4) rfl (hq_42 _) rfl rfl ?_
  refine wl_ald_n (pc' := 5) rfl e_0 rfl ?_
  refine wp_get (v := .int (m.F 42 13)) (pc' := 8) rfl (hq_42 _) rfl rfl ?_
  refine wl_ild_n (pc' := 9) rfl e_1 rfl ?_
  obtain ⟨k1, k⟩ := k
  refine wl_iastore (g := m.A 49) (pc' := 10) (h2 := hp (m.uA 49 ((m.A 49).set (ix (m.F 42 13)) x1))) rfl (hq_49 _) k1 rfl (pa_49 _ _) ?_
  refine wl_ald_n (pc' := 11) rfl e_0 rfl ?_
  refine wp_p (pc' := 12) (lv' := lv0) (st' := [.ref 42, .ref 42]) rfl rfl ?_
  refine wp_get (v := .int (m.F 42 13)) (pc' := 15) rfl (hq_42 _) rfl rfl ?_
  refine wp_p (pc' := 16) (lv' := lv0) (st' := [.int (nI 1), .int (m.F 42 13), .ref 42]) rfl rfl ?_
  refine wp_iadd (v := (m.F 42 13) + (nI 1)) (pc' := 17) rfl rfl rfl ?_
  refine wl_put (pc' := 20) (h2 := hp ((m.uA 49 ((m.A 49).set (ix (m.F 42 13)) x1)).uF 42 13 ((m.F 42 13) + (nI 1)))) rfl (hq_42 _) rfl rfl rfl (pf_42_13 _ _) ?_
  exact wp_r rfl rfl ⟨_, rfl, k⟩
/-! 154: QueryTablesModel.complete -/
set_option maxRecDepth 20000 in
theorem sp_154 {d : Nat} {m : Mm} {K : Option Value → Mm → Prop} (k : WH d 154 0 [(0, .ref 42)] [] m K) : WP d 154 [.ref 42] m K := by
  have e_0 : sm_lk (lv_args 0 [.ref 42]) 0 = some (.ref 42) := rfl
  show sm_wp d 154 0 (lv_args 0 [.ref 42]) [] (hp m) (WQ K)
  generalize lv_args 0 [.ref 42] = lv0 at *
  exact k _ ⟨e_0, trivial⟩
set_option maxRecDepth 20000 in
theorem sg_154_0 {d : Nat} {m : Mm} {K : Option Value → Mm → Prop} (k : (if (m.F 42 13) ≤ (nI 0) then (if (m.F 42 15) = (nI 0) then ok (m.A 53).length (m.F 42 33) ∧ ok (m.A 54).length (m.F 42 33) ∧ ok (m.A 55).length (m.F 42 33) ∧ K none ((((m.uA 53 ((m.A 53).set (ix (m.F 42 33)) (m.F 42 38))).uA 54 ((m.A 54).set (ix (m.F 42 33)) (m.F 42 7))).uA 55 ((m.A 55).set (ix (m.F 42 33)) (m.F 42 39))).uF 42 33 ((m.F 42 33) + (nI 1))) else K none m) else ok (m.A 49).length ((m.F 42 13) - (nI 1)) ∧ (if ((m.A 49).getD (ix ((m.F 42 13) - (nI 1))) 0) = (nI 13) then WP d 152 [.ref 42] m (fun v m12 => v = none ∧ WH (d + 1) 154 0 [(0, .ref 42)] [] (m12.uF 42 15 ((m12.F 42 15) - (nI 1))) K) else (if (m.F 42 15) = (nI 0) then ok (m.A 53).length (m.F 42 33) ∧ ok (m.A 54).length (m.F 42 33) ∧ ok (m.A 55).length (m.F 42 33) ∧ K none ((((m.uA 53 ((m.A 53).set (ix (m.F 42 33)) (m.F 42 38))).uA 54 ((m.A 54).set (ix (m.F 42 33)) (m.F 42 7))).uA 55 ((m.A 55).set (ix (m.F 42 33)) (m.F 42 39))).uF 42 33 ((m.F 42 33) + (nI 1))) else K none m)))) : WH (d + 1) 154 0 [(0, .ref 42)] [] m K := by
  intro lv0 el
  obtain ⟨e_0, _⟩ := el
  refine wl_ald_n (pc' := 1) rfl e_0 rfl ?_
  refine wp_get (v := .int (m.F 42 13)) (pc' := 4) rfl (hq_42 _) rfl rfl ?_
  refine wp_if_le (pc' := 7) rfl rfl (fun c1 => ?_) (fun c1 => ?_)
  · replace k := it_t (c := (m.F 42 13) ≤ (nI 0)) c1 k
    refine wl_ald_n (pc' := 41) rfl e_0 rfl ?_
    refine wp_get (v := .int (m.F 42 15)) (pc' := 44) rfl (hq_42 _) rfl rfl ?_
    refine wp_if_ne (pc' := 47) rfl rfl (fun c2 => ?_) (fun c2 => ?_)
    · replace k := it_f (c := (m.F 42 15) = (nI 0)) c2 k
      exact wp_r rfl rfl ⟨_, rfl, k⟩
    · replace k := it_t (c := (m.F 42 15) = (nI 0)) c2 k
      refine wl_ald_n (pc' := 48) rfl e_0 rfl ?_
      refine wp_get (v := .ref 53) (pc' := 51) rfl (hq_42 _) rfl rfl ?_
      refine wl_ald_n (pc' := 52) rfl e_0 rfl ?_
      refine wp_get (v := .int (m.F 42 33)) (pc' := 55) rfl (hq_42 _) rfl rfl ?_
      refine wl_ald_n (pc' := 56) rfl e_0 rfl ?_
      refine wp_get (v := .int (m.F 42 38)) (pc' := 59) rfl (hq_42 _) rfl rfl ?_
      obtain ⟨k3, k⟩ := k
      refine wl_iastore (g := m.A 53) (pc' := 60) (h2 := hp (m.uA 53 ((m.A 53).set (ix (m.F 42 33)) (m.F 42 38)))) rfl (hq_53 _) k3 rfl (pa_53 _ _) ?_
      refine wl_ald_n (pc' := 61) rfl e_0 rfl ?_
      refine wp_get (v := .ref 54) (pc' := 64) rfl (hq_42 _) rfl rfl ?_
      refine wl_ald_n (pc' := 65) rfl e_0 rfl ?_
      refine wp_get (v := .int (m.F 42 33)) (pc' := 68) rfl (hq_42 _) rfl rfl ?_
      refine wl_ald_n (pc' := 69) rfl e_0 rfl ?_
      refine wp_get (v := .int (m.F 42 7)) (pc' := 72) rfl (hq_42 _) rfl rfl ?_
      obtain ⟨k4, k⟩ := k
      refine wl_iastore (g := m.A 54) (pc' := 73) (h2 := hp ((m.uA 53 ((m.A 53).set (ix (m.F 42 33)) (m.F 42 38))).uA 54 ((m.A 54).set (ix (m.F 42 33)) (m.F 42 7)))) rfl (hq_54 _) k4 rfl (pa_54 _ _) ?_
      refine wl_ald_n (pc' := 74) rfl e_0 rfl ?_
      refine wp_get (v := .ref 55) (pc' := 77) rfl (hq_42 _) rfl rfl ?_
      refine wl_ald_n (pc' := 78) rfl e_0 rfl ?_
      refine wp_get (v := .int (m.F 42 33)) (pc' := 81) rfl (hq_42 _) rfl rfl ?_
      refine wl_ald_n (pc' := 82) rfl e_0 rfl ?_
      refine wp_get (v := .int (m.F 42 39)) (pc' := 85) rfl (hq_42 _) rfl rfl ?_
      obtain ⟨k5, k⟩ := k
      refine wl_iastore (g := m.A 55) (pc' := 86) (h2 := hp (((m.uA 53 ((m.A 53).set (ix (m.F 42 33)) (m.F 42 38))).uA 54 ((m.A 54).set (ix (m.F 42 33)) (m.F 42 7))).uA 55 ((m.A 55).set (ix (m.F 42 33)) (m.F 42 39)))) rfl (hq_55 _) k5 rfl (pa_55 _ _) ?_
      refine wl_ald_n (pc' := 87) rfl e_0 rfl ?_
      refine wp_p (pc' := 88) (lv' := lv0) (st' := [.ref 42, .ref 42]) rfl rfl ?_
      refine wp_get (v := .int (m.F 42 33)) (pc' := 91) rfl (hq_42 _) rfl rfl ?_
      refine wp_p (pc' := 92) (lv' := lv0) (st' := [.int (nI 1), .int (m.F 42 33), .ref 42]) rfl rfl ?_
      refine wp_iadd (v := (m.F 42 33) + (nI 1)) (pc' := 93) rfl rfl rfl ?_
      refine wl_put (pc' := 96) (h2 := hp ((((m.uA 53 ((m.A 53).set (ix (m.F 42 33)) (m.F 42 38))).uA 54 ((m.A 54).set (ix (m.F 42 33)) (m.F 42 7))).uA 55 ((m.A 55).set (ix (m.F 42 33)) (m.F 42 39))).uF 42 33 ((m.F 42 33) + (nI 1)))) rfl (hq_42 _) rfl rfl rfl (pf_42_33 _ _) ?_
      exact wp_r rfl rfl ⟨_, rfl, k⟩
  · replace k := it_f (c := (m.F 42 13) ≤ (nI 0)) c1 k
    refine wl_ald_n (pc' := 8) rfl e_0 rfl ?_
    refine wp_get (v := .ref 49) (pc' := 11) rfl (hq_42 _) rfl rfl ?_
    refine wl_ald_n (pc' := 12) rfl e_0 rfl ?_
    refine wp_get (v := .int (m.F 42 13)) (pc' := 15) rfl (hq_42 _) rfl rfl ?_
    refine wp_p (pc' := 16) (lv' := lv0) (st' := [.int (nI 1), .int (m.F 42 13), .ref 49]) rfl rfl ?_
    refine wp_isub (v := (m.F 42 13) - (nI 1)) (pc' := 17) rfl rfl rfl ?_
    obtain ⟨k6, k⟩ := k
    refine wl_iaload (g := m.A 49) (pc' := 18) rfl (hq_49 _) k6 rfl ?_
    refine wp_p (pc' := 20) (lv' := lv0) (st' := [.int (nI 13), .int ((m.A 49).getD (ix ((m.F 42 13) - (nI 1))) 0)]) rfl rfl ?_
    refine wp_ic_ne (pc' := 23) rfl rfl (fun c7 => ?_) (fun c7 => ?_)
    · replace k := it_f (c := ((m.A 49).getD (ix ((m.F 42 13) - (nI 1))) 0) = (nI 13)) c7 k
      refine wl_ald_n (pc' := 41) rfl e_0 rfl ?_
      refine wp_get (v := .int (m.F 42 15)) (pc' := 44) rfl (hq_42 _) rfl rfl ?_
      refine wp_if_ne (pc' := 47) rfl rfl (fun c8 => ?_) (fun c8 => ?_)
      · replace k := it_f (c := (m.F 42 15) = (nI 0)) c8 k
        exact wp_r rfl rfl ⟨_, rfl, k⟩
      · replace k := it_t (c := (m.F 42 15) = (nI 0)) c8 k
        refine wl_ald_n (pc' := 48) rfl e_0 rfl ?_
        refine wp_get (v := .ref 53) (pc' := 51) rfl (hq_42 _) rfl rfl ?_
        refine wl_ald_n (pc' := 52) rfl e_0 rfl ?_
        refine wp_get (v := .int (m.F 42 33)) (pc' := 55) rfl (hq_42 _) rfl rfl ?_
        refine wl_ald_n (pc' := 56) rfl e_0 rfl ?_
        refine wp_get (v := .int (m.F 42 38)) (pc' := 59) rfl (hq_42 _) rfl rfl ?_
        obtain ⟨k9, k⟩ := k
        refine wl_iastore (g := m.A 53) (pc' := 60) (h2 := hp (m.uA 53 ((m.A 53).set (ix (m.F 42 33)) (m.F 42 38)))) rfl (hq_53 _) k9 rfl (pa_53 _ _) ?_
        refine wl_ald_n (pc' := 61) rfl e_0 rfl ?_
        refine wp_get (v := .ref 54) (pc' := 64) rfl (hq_42 _) rfl rfl ?_
        refine wl_ald_n (pc' := 65) rfl e_0 rfl ?_
        refine wp_get (v := .int (m.F 42 33)) (pc' := 68) rfl (hq_42 _) rfl rfl ?_
        refine wl_ald_n (pc' := 69) rfl e_0 rfl ?_
        refine wp_get (v := .int (m.F 42 7)) (pc' := 72) rfl (hq_42 _) rfl rfl ?_
        obtain ⟨k10, k⟩ := k
        refine wl_iastore (g := m.A 54) (pc' := 73) (h2 := hp ((m.uA 53 ((m.A 53).set (ix (m.F 42 33)) (m.F 42 38))).uA 54 ((m.A 54).set (ix (m.F 42 33)) (m.F 42 7)))) rfl (hq_54 _) k10 rfl (pa_54 _ _) ?_
        refine wl_ald_n (pc' := 74) rfl e_0 rfl ?_
        refine wp_get (v := .ref 55) (pc' := 77) rfl (hq_42 _) rfl rfl ?_
        refine wl_ald_n (pc' := 78) rfl e_0 rfl ?_
        refine wp_get (v := .int (m.F 42 33)) (pc' := 81) rfl (hq_42 _) rfl rfl ?_
        refine wl_ald_n (pc' := 82) rfl e_0 rfl ?_
        refine wp_get (v := .int (m.F 42 39)) (pc' := 85) rfl (hq_42 _) rfl rfl ?_
        obtain ⟨k11, k⟩ := k
        refine wl_iastore (g := m.A 55) (pc' := 86) (h2 := hp (((m.uA 53 ((m.A 53).set (ix (m.F 42 33)) (m.F 42 38))).uA 54 ((m.A 54).set (ix (m.F 42 33)) (m.F 42 7))).uA 55 ((m.A 55).set (ix (m.F 42 33)) (m.F 42 39)))) rfl (hq_55 _) k11 rfl (pa_55 _ _) ?_
        refine wl_ald_n (pc' := 87) rfl e_0 rfl ?_
        refine wp_p (pc' := 88) (lv' := lv0) (st' := [.ref 42, .ref 42]) rfl rfl ?_
        refine wp_get (v := .int (m.F 42 33)) (pc' := 91) rfl (hq_42 _) rfl rfl ?_
        refine wp_p (pc' := 92) (lv' := lv0) (st' := [.int (nI 1), .int (m.F 42 33), .ref 42]) rfl rfl ?_
        refine wp_iadd (v := (m.F 42 33) + (nI 1)) (pc' := 93) rfl rfl rfl ?_
        refine wl_put (pc' := 96) (h2 := hp ((((m.uA 53 ((m.A 53).set (ix (m.F 42 33)) (m.F 42 38))).uA 54 ((m.A 54).set (ix (m.F 42 33)) (m.F 42 7))).uA 55 ((m.A 55).set (ix (m.F 42 33)) (m.F 42 39))).uF 42 33 ((m.F 42 33) + (nI 1)))) rfl (hq_42 _) rfl rfl rfl (pf_42_33 _ _) ?_
        exact wp_r rfl rfl ⟨_, rfl, k⟩
    · replace k := it_t (c := ((m.A 49).getD (ix ((m.F 42 13) - (nI 1))) 0) = (nI 13)) c7 k
      refine wl_ald_n (pc' := 24) rfl e_0 rfl ?_
      refine wl_cv (As := [.ref 42]) (r := []) (pc' := 27) rfl rfl rfl k ?_
      rintro _ m12 ⟨rfl, k⟩
      show sm_wp (d + 1) 154 27 lv0 [] (hp m12) (WQ K)
      refine wl_ald_n (pc' := 28) rfl e_0 rfl ?_
      refine wp_p (pc' := 29) (lv' := lv0) (st' := [.ref 42, .ref 42]) rfl rfl ?_
      refine wp_get (v := .int (m12.F 42 15)) (pc' := 32) rfl (hq_42 _) rfl rfl ?_
      refine wp_p (pc' := 33) (lv' := lv0) (st' := [.int (nI 1), .int (m12.F 42 15), .ref 42]) rfl rfl ?_
      refine wp_isub (v := (m12.F 42 15) - (nI 1)) (pc' := 34) rfl rfl rfl ?_
      refine wl_put (pc' := 37) (h2 := hp (m12.uF 42 15 ((m12.F 42 15) - (nI 1)))) rfl (hq_42 _) rfl rfl rfl (pf_42_15 _ _) ?_
      refine wp_p (pc' := 0) (lv' := lv0) (st' := []) rfl rfl ?_
      exact k _ ⟨e_0, trivial⟩
