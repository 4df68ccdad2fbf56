/-! SEGMENTS of the methods 79 to 98 (by program, wip/whole/gen25.py): what must hold of a way from one place to the next -/
/-! 79: QueryTables$Tokens.keep -/
set_option maxRecDepth 20000 in
theorem sp_79 {d : Nat} {m : Mm} {K : Option Value → Mm → Prop} (x1 : Int32) (x2 : Int32) (k : (if (m.F 26 2) < (nI 80) then ok (m.A 27).length (m.F 26 2) ∧ ok (m.A 28).length (m.F 26 2) ∧ K (some (.int (nI 1))) (((m.uA 27 ((m.A 27).set (ix (m.F 26 2)) x1)).uA 28 ((m.A 28).set (ix (m.F 26 2)) x2)).uF 26 2 ((m.F 26 2) + (nI 1))) else K (some (.int (nI 0))) m)) : WP d 79 [.ref 26, .int x1, .int x2] m K := by
  have e_0 : sm_lk (lv_args 0 [.ref 26, .int x1, .int x2]) 0 = some (.ref 26) := rfl
  have e_1 : sm_lk (lv_args 0 [.ref 26, .int x1, .int x2]) 1 = some (.int x1) := rfl
  have e_2 : sm_lk (lv_args 0 [.ref 26, .int x1, .int x2]) 2 = some (.int x2) := rfl
  show sm_wp d 79 0 (lv_args 0 [.ref 26, .int x1, .int x2]) [] (hp m) (WQ K)
  generalize lv_args 0 [.ref 26, .int x1, .int x2] = lv0 at *
  refine wl_ald_n (pc' := 1) rfl e_0 rfl ?_
  refine wp_get (v := .int (m.F 26 2)) (pc' := 4) rfl (hq_26 _) rfl rfl ?_
  refine wp_p (pc' := 6) (lv' := lv0) (st' := [.int (nI 80), .int (m.F 26 2)]) rfl rfl ?_
  refine wp_ic_lt (pc' := 9) rfl rfl (fun c1 => ?_) (fun c1 => ?_)
  · replace k := it_t (c := (m.F 26 2) < (nI 80)) c1 k
    refine wl_ald_n (pc' := 12) rfl e_0 rfl ?_
    refine wp_get (v := .ref 27) (pc' := 15) rfl (hq_26 _) rfl rfl ?_
    refine wl_ald_n (pc' := 16) rfl e_0 rfl ?_
    refine wp_get (v := .int (m.F 26 2)) (pc' := 19) rfl (hq_26 _) rfl rfl ?_
    refine wl_ild_n (pc' := 20) rfl e_1 rfl ?_
    obtain ⟨k2, k⟩ := k
    refine wl_iastore (g := m.A 27) (pc' := 21) (h2 := hp (m.uA 27 ((m.A 27).set (ix (m.F 26 2)) x1))) rfl (hq_27 _) k2 rfl (pa_27 _ _) ?_
    refine wl_ald_n (pc' := 22) rfl e_0 rfl ?_
    refine wp_get (v := .ref 28) (pc' := 25) rfl (hq_26 _) rfl rfl ?_
    refine wl_ald_n (pc' := 26) rfl e_0 rfl ?_
    refine wp_get (v := .int (m.F 26 2)) (pc' := 29) rfl (hq_26 _) rfl rfl ?_
    refine wl_ild_n (pc' := 30) rfl e_2 rfl ?_
    obtain ⟨k3, k⟩ := k
    refine wl_iastore (g := m.A 28) (pc' := 31) (h2 := hp ((m.uA 27 ((m.A 27).set (ix (m.F 26 2)) x1)).uA 28 ((m.A 28).set (ix (m.F 26 2)) x2))) rfl (hq_28 _) k3 rfl (pa_28 _ _) ?_
    refine wl_ald_n (pc' := 32) rfl e_0 rfl ?_
    refine wp_p (pc' := 33) (lv' := lv0) (st' := [.ref 26, .ref 26]) rfl rfl ?_
    refine wp_get (v := .int (m.F 26 2)) (pc' := 36) rfl (hq_26 _) rfl rfl ?_
    refine wp_p (pc' := 37) (lv' := lv0) (st' := [.int (nI 1), .int (m.F 26 2), .ref 26]) rfl rfl ?_
    refine wp_iadd (v := (m.F 26 2) + (nI 1)) (pc' := 38) rfl rfl rfl ?_
    refine wl_put (pc' := 41) (h2 := hp (((m.uA 27 ((m.A 27).set (ix (m.F 26 2)) x1)).uA 28 ((m.A 28).set (ix (m.F 26 2)) x2)).uF 26 2 ((m.F 26 2) + (nI 1)))) rfl (hq_26 _) rfl rfl rfl (pf_26_2 _ _) ?_
    refine wp_p (pc' := 42) (lv' := lv0) (st' := [.int (nI 1)]) rfl rfl ?_
    exact wl_ret rfl rfl ⟨_, rfl, k⟩
  · replace k := it_f (c := (m.F 26 2) < (nI 80)) c1 k
    refine wp_p (pc' := 10) (lv' := lv0) (st' := [.int (nI 0)]) rfl rfl ?_
    exact wl_ret rfl rfl ⟨_, rfl, k⟩
/-! 80: QueryTables$Tokens.verbKind -/
set_option maxRecDepth 20000 in
theorem sp_80 {d : Nat} {m : Mm} {K : Option Value → Mm → Prop} (x1 : Int32) (x2 : Int32) (k : WP d 82 [.ref 1, .int x1, .int x2, .float 1] m (fun v m1 => ∃ w2, v = some (.int w2) ∧ (if w2 = (nI 0) then WP d 82 [.ref 1, .int x1, .int x2, .float 3] m1 (fun v m4 => ∃ w5, v = some (.int w5) ∧ (if w5 = (nI 0) then WP d 82 [.ref 1, .int x1, .int x2, .float 5] m4 (fun v m7 => ∃ w8, v = some (.int w8) ∧ (if w8 = (nI 0) then WP d 82 [.ref 1, .int x1, .int x2, .float 7] m7 (fun v m10 => ∃ w11, v = some (.int w11) ∧ (if w11 = (nI 0) then WP d 82 [.ref 1, .int x1, .int x2, .float 9] m10 (fun v m13 => ∃ w14, v = some (.int w14) ∧ (if w14 = (nI 0) then WP d 82 [.ref 1, .int x1, .int x2, .float 11] m13 (fun v m16 => ∃ w17, v = some (.int w17) ∧ (if w17 = (nI 0) then K (some (.int (-1))) m16 else K (some (.int (nI 9))) m16)) else K (some (.int (nI 8))) m13)) else K (some (.int (nI 7))) m10)) else K (some (.int (nI 6))) m7)) else K (some (.int (nI 5))) m4)) else K (some (.int (nI 4))) m1))) : WP (d + 1) 80 [.ref 1, .int x1, .int x2] m K := by
  have e_0 : sm_lk (lv_args 0 [.ref 1, .int x1, .int x2]) 0 = some (.ref 1) := rfl
  have e_1 : sm_lk (lv_args 0 [.ref 1, .int x1, .int x2]) 1 = some (.int x1) := rfl
  have e_2 : sm_lk (lv_args 0 [.ref 1, .int x1, .int x2]) 2 = some (.int x2) := rfl
  show sm_wp (d + 1) 80 0 (lv_args 0 [.ref 1, .int x1, .int x2]) [] (hp m) (WQ K)
  generalize lv_args 0 [.ref 1, .int x1, .int x2] = lv0 at *
  refine wl_ald_n (pc' := 1) rfl e_0 rfl ?_
  refine wl_ild_n (pc' := 2) rfl e_1 rfl ?_
  refine wl_ild_n (pc' := 3) rfl e_2 rfl ?_
  refine wp_p (pc' := 5) (lv' := lv0) (st' := [.float 1, .int x2, .int x1, .ref 1]) rfl rfl ?_
  refine wl_cs (As := [.ref 1, .int x1, .int x2, .float 1]) (r := []) (pc' := 8) rfl rfl rfl rfl k ?_
  rintro _ m1 ⟨w2, rfl, k⟩
  show sm_wp (d + 1) 80 8 lv0 [.int w2] (hp m1) (WQ K)
  refine wp_if_eq (pc' := 11) rfl rfl (fun c3 => ?_) (fun c3 => ?_)
  · replace k := it_t (c := w2 = (nI 0)) c3 k
    refine wl_ald_n (pc' := 14) rfl e_0 rfl ?_
    refine wl_ild_n (pc' := 15) rfl e_1 rfl ?_
    refine wl_ild_n (pc' := 16) rfl e_2 rfl ?_
    refine wp_p (pc' := 18) (lv' := lv0) (st' := [.float 3, .int x2, .int x1, .ref 1]) rfl rfl ?_
    refine wl_cs (As := [.ref 1, .int x1, .int x2, .float 3]) (r := []) (pc' := 21) rfl rfl rfl rfl k ?_
    rintro _ m4 ⟨w5, rfl, k⟩
    show sm_wp (d + 1) 80 21 lv0 [.int w5] (hp m4) (WQ K)
    refine wp_if_eq (pc' := 24) rfl rfl (fun c6 => ?_) (fun c6 => ?_)
    · replace k := it_t (c := w5 = (nI 0)) c6 k
      refine wl_ald_n (pc' := 27) rfl e_0 rfl ?_
      refine wl_ild_n (pc' := 28) rfl e_1 rfl ?_
      refine wl_ild_n (pc' := 29) rfl e_2 rfl ?_
      refine wp_p (pc' := 31) (lv' := lv0) (st' := [.float 5, .int x2, .int x1, .ref 1]) rfl rfl ?_
      refine wl_cs (As := [.ref 1, .int x1, .int x2, .float 5]) (r := []) (pc' := 34) rfl rfl rfl rfl k ?_
      rintro _ m7 ⟨w8, rfl, k⟩
      show sm_wp (d + 1) 80 34 lv0 [.int w8] (hp m7) (WQ K)
      refine wp_if_eq (pc' := 37) rfl rfl (fun c9 => ?_) (fun c9 => ?_)
      · replace k := it_t (c := w8 = (nI 0)) c9 k
        refine wl_ald_n (pc' := 41) rfl e_0 rfl ?_
        refine wl_ild_n (pc' := 42) rfl e_1 rfl ?_
        refine wl_ild_n (pc' := 43) rfl e_2 rfl ?_
        refine wp_p (pc' := 45) (lv' := lv0) (st' := [.float 7, .int x2, .int x1, .ref 1]) rfl rfl ?_
        refine wl_cs (As := [.ref 1, .int x1, .int x2, .float 7]) (r := []) (pc' := 48) rfl rfl rfl rfl k ?_
        rintro _ m10 ⟨w11, rfl, k⟩
        show sm_wp (d + 1) 80 48 lv0 [.int w11] (hp m10) (WQ K)
        refine wp_if_eq (pc' := 51) rfl rfl (fun c12 => ?_) (fun c12 => ?_)
        · replace k := it_t (c := w11 = (nI 0)) c12 k
          refine wl_ald_n (pc' := 55) rfl e_0 rfl ?_
          refine wl_ild_n (pc' := 56) rfl e_1 rfl ?_
          refine wl_ild_n (pc' := 57) rfl e_2 rfl ?_
          refine wp_p (pc' := 59) (lv' := lv0) (st' := [.float 9, .int x2, .int x1, .ref 1]) rfl rfl ?_
          refine wl_cs (As := [.ref 1, .int x1, .int x2, .float 9]) (r := []) (pc' := 62) rfl rfl rfl rfl k ?_
          rintro _ m13 ⟨w14, rfl, k⟩
          show sm_wp (d + 1) 80 62 lv0 [.int w14] (hp m13) (WQ K)
          refine wp_if_eq (pc' := 65) rfl rfl (fun c15 => ?_) (fun c15 => ?_)
          · replace k := it_t (c := w14 = (nI 0)) c15 k
            refine wl_ald_n (pc' := 69) rfl e_0 rfl ?_
            refine wl_ild_n (pc' := 70) rfl e_1 rfl ?_
            refine wl_ild_n (pc' := 71) rfl e_2 rfl ?_
            refine wp_p (pc' := 73) (lv' := lv0) (st' := [.float 11, .int x2, .int x1, .ref 1]) rfl rfl ?_
            refine wl_cs (As := [.ref 1, .int x1, .int x2, .float 11]) (r := []) (pc' := 76) rfl rfl rfl rfl k ?_
            rintro _ m16 ⟨w17, rfl, k⟩
            show sm_wp (d + 1) 80 76 lv0 [.int w17] (hp m16) (WQ K)
            refine wp_if_eq (pc' := 79) rfl rfl (fun c18 => ?_) (fun c18 => ?_)
            · replace k := it_t (c := w17 = (nI 0)) c18 k
              refine wp_p (pc' := 85) (lv' := lv0) (st' := [.int (-1)]) rfl rfl ?_
              exact wl_ret rfl rfl ⟨_, rfl, k⟩
            · replace k := it_f (c := w17 = (nI 0)) c18 k
              refine wp_p (pc' := 81) (lv' := lv0) (st' := [.int (nI 9)]) rfl rfl ?_
              refine wp_p (pc' := 85) (lv' := lv0) (st' := [.int (nI 9)]) rfl rfl ?_
              exact wl_ret rfl rfl ⟨_, rfl, k⟩
          · replace k := it_f (c := w14 = (nI 0)) c15 k
            refine wp_p (pc' := 67) (lv' := lv0) (st' := [.int (nI 8)]) rfl rfl ?_
            exact wl_ret rfl rfl ⟨_, rfl, k⟩
        · replace k := it_f (c := w11 = (nI 0)) c12 k
          refine wp_p (pc' := 53) (lv' := lv0) (st' := [.int (nI 7)]) rfl rfl ?_
          exact wl_ret rfl rfl ⟨_, rfl, k⟩
      · replace k := it_f (c := w8 = (nI 0)) c9 k
        refine wp_p (pc' := 39) (lv' := lv0) (st' := [.int (nI 6)]) rfl rfl ?_
        exact wl_ret rfl rfl ⟨_, rfl, k⟩
    · replace k := it_f (c := w5 = (nI 0)) c6 k
      refine wp_p (pc' := 25) (lv' := lv0) (st' := [.int (nI 5)]) rfl rfl ?_
      exact wl_ret rfl rfl ⟨_, rfl, k⟩
  · replace k := it_f (c := w2 = (nI 0)) c3 k
    refine wp_p (pc' := 12) (lv' := lv0) (st' := [.int (nI 4)]) rfl rfl ?_
    exact wl_ret rfl rfl ⟨_, rfl, k⟩
/-! 81: QueryTables$Tokens.innerWordKind -/
set_option maxRecDepth 20000 in
theorem sp_81 {d : Nat} {m : Mm} {K : Option Value → Mm → Prop} (x1 : Int32) (x2 : Int32) (k : WP d 82 [.ref 1, .int x1, .int x2, .float 13] m (fun v m1 => ∃ w2, v = some (.int w2) ∧ (if w2 = (nI 0) then WP d 82 [.ref 1, .int x1, .int x2, .float 15] m1 (fun v m4 => ∃ w5, v = some (.int w5) ∧ (if w5 = (nI 0) then WP d 82 [.ref 1, .int x1, .int x2, .float 17] m4 (fun v m7 => ∃ w8, v = some (.int w8) ∧ (if w8 = (nI 0) then WP d 82 [.ref 1, .int x1, .int x2, .float 19] m7 (fun v m10 => ∃ w11, v = some (.int w11) ∧ (if w11 = (nI 0) then WP d 82 [.ref 1, .int x1, .int x2, .float 21] m10 (fun v m13 => ∃ w14, v = some (.int w14) ∧ (if w14 = (nI 0) then WP d 82 [.ref 1, .int x1, .int x2, .float 23] m13 (fun v m16 => ∃ w17, v = some (.int w17) ∧ (if w17 = (nI 0) then WP d 82 [.ref 1, .int x1, .int x2, .float 25] m16 (fun v m19 => ∃ w20, v = some (.int w20) ∧ (if w20 = (nI 0) then WP d 82 [.ref 1, .int x1, .int x2, .float 27] m19 (fun v m22 => ∃ w23, v = some (.int w23) ∧ (if w23 = (nI 0) then WP d 82 [.ref 1, .int x1, .int x2, .float 29] m22 (fun v m25 => ∃ w26, v = some (.int w26) ∧ (if w26 = (nI 0) then K (some (.int (-1))) m25 else K (some (.int (nI 18))) m25)) else K (some (.int (nI 17))) m22)) else K (some (.int (nI 16))) m19)) else K (some (.int (nI 15))) m16)) else K (some (.int (nI 14))) m13)) else K (some (.int (nI 13))) m10)) else K (some (.int (nI 12))) m7)) else K (some (.int (nI 11))) m4)) else K (some (.int (nI 10))) m1))) : WP (d + 1) 81 [.ref 1, .int x1, .int x2] m K := by
  have e_0 : sm_lk (lv_args 0 [.ref 1, .int x1, .int x2]) 0 = some (.ref 1) := rfl
  have e_1 : sm_lk (lv_args 0 [.ref 1, .int x1, .int x2]) 1 = some (.int x1) := rfl
  have e_2 : sm_lk (lv_args 0 [.ref 1, .int x1, .int x2]) 2 = some (.int x2) := rfl
  show sm_wp (d + 1) 81 0 (lv_args 0 [.ref 1, .int x1, .int x2]) [] (hp m) (WQ K)
  generalize lv_args 0 [.ref 1, .int x1, .int x2] = lv0 at *
  refine wl_ald_n (pc' := 1) rfl e_0 rfl ?_
  refine wl_ild_n (pc' := 2) rfl e_1 rfl ?_
  refine wl_ild_n (pc' := 3) rfl e_2 rfl ?_
  refine wp_p (pc' := 5) (lv' := lv0) (st' := [.float 13, .int x2, .int x1, .ref 1]) rfl rfl ?_
  refine wl_cs (As := [.ref 1, .int x1, .int x2, .float 13]) (r := []) (pc' := 8) rfl rfl rfl rfl k ?_
  rintro _ m1 ⟨w2, rfl, k⟩
  show sm_wp (d + 1) 81 8 lv0 [.int w2] (hp m1) (WQ K)
  refine wp_if_eq (pc' := 11) rfl rfl (fun c3 => ?_) (fun c3 => ?_)
  · replace k := it_t (c := w2 = (nI 0)) c3 k
    refine wl_ald_n (pc' := 15) rfl e_0 rfl ?_
    refine wl_ild_n (pc' := 16) rfl e_1 rfl ?_
    refine wl_ild_n (pc' := 17) rfl e_2 rfl ?_
    refine wp_p (pc' := 19) (lv' := lv0) (st' := [.float 15, .int x2, .int x1, .ref 1]) rfl rfl ?_
    refine wl_cs (As := [.ref 1, .int x1, .int x2, .float 15]) (r := []) (pc' := 22) rfl rfl rfl rfl k ?_
    rintro _ m4 ⟨w5, rfl, k⟩
    show sm_wp (d + 1) 81 22 lv0 [.int w5] (hp m4) (WQ K)
    refine wp_if_eq (pc' := 25) rfl rfl (fun c6 => ?_) (fun c6 => ?_)
    · replace k := it_t (c := w5 = (nI 0)) c6 k
      refine wl_ald_n (pc' := 29) rfl e_0 rfl ?_
      refine wl_ild_n (pc' := 30) rfl e_1 rfl ?_
      refine wl_ild_n (pc' := 31) rfl e_2 rfl ?_
      refine wp_p (pc' := 33) (lv' := lv0) (st' := [.float 17, .int x2, .int x1, .ref 1]) rfl rfl ?_
      refine wl_cs (As := [.ref 1, .int x1, .int x2, .float 17]) (r := []) (pc' := 36) rfl rfl rfl rfl k ?_
      rintro _ m7 ⟨w8, rfl, k⟩
      show sm_wp (d + 1) 81 36 lv0 [.int w8] (hp m7) (WQ K)
      refine wp_if_eq (pc' := 39) rfl rfl (fun c9 => ?_) (fun c9 => ?_)
      · replace k := it_t (c := w8 = (nI 0)) c9 k
        refine wl_ald_n (pc' := 43) rfl e_0 rfl ?_
        refine wl_ild_n (pc' := 44) rfl e_1 rfl ?_
        refine wl_ild_n (pc' := 45) rfl e_2 rfl ?_
        refine wp_p (pc' := 47) (lv' := lv0) (st' := [.float 19, .int x2, .int x1, .ref 1]) rfl rfl ?_
        refine wl_cs (As := [.ref 1, .int x1, .int x2, .float 19]) (r := []) (pc' := 50) rfl rfl rfl rfl k ?_
        rintro _ m10 ⟨w11, rfl, k⟩
        show sm_wp (d + 1) 81 50 lv0 [.int w11] (hp m10) (WQ K)
        refine wp_if_eq (pc' := 53) rfl rfl (fun c12 => ?_) (fun c12 => ?_)
        · replace k := it_t (c := w11 = (nI 0)) c12 k
          refine wl_ald_n (pc' := 57) rfl e_0 rfl ?_
          refine wl_ild_n (pc' := 58) rfl e_1 rfl ?_
          refine wl_ild_n (pc' := 59) rfl e_2 rfl ?_
          refine wp_p (pc' := 61) (lv' := lv0) (st' := [.float 21, .int x2, .int x1, .ref 1]) rfl rfl ?_
          refine wl_cs (As := [.ref 1, .int x1, .int x2, .float 21]) (r := []) (pc' := 64) rfl rfl rfl rfl k ?_
          rintro _ m13 ⟨w14, rfl, k⟩
          show sm_wp (d + 1) 81 64 lv0 [.int w14] (hp m13) (WQ K)
          refine wp_if_eq (pc' := 67) rfl rfl (fun c15 => ?_) (fun c15 => ?_)
          · replace k := it_t (c := w14 = (nI 0)) c15 k
            refine wl_ald_n (pc' := 71) rfl e_0 rfl ?_
            refine wl_ild_n (pc' := 72) rfl e_1 rfl ?_
            refine wl_ild_n (pc' := 73) rfl e_2 rfl ?_
            refine wp_p (pc' := 75) (lv' := lv0) (st' := [.float 23, .int x2, .int x1, .ref 1]) rfl rfl ?_
            refine wl_cs (As := [.ref 1, .int x1, .int x2, .float 23]) (r := []) (pc' := 78) rfl rfl rfl rfl k ?_
            rintro _ m16 ⟨w17, rfl, k⟩
            show sm_wp (d + 1) 81 78 lv0 [.int w17] (hp m16) (WQ K)
            refine wp_if_eq (pc' := 81) rfl rfl (fun c18 => ?_) (fun c18 => ?_)
            · replace k := it_t (c := w17 = (nI 0)) c18 k
              refine wl_ald_n (pc' := 85) rfl e_0 rfl ?_
              refine wl_ild_n (pc' := 86) rfl e_1 rfl ?_
              refine wl_ild_n (pc' := 87) rfl e_2 rfl ?_
              refine wp_p (pc' := 89) (lv' := lv0) (st' := [.float 25, .int x2, .int x1, .ref 1]) rfl rfl ?_
              refine wl_cs (As := [.ref 1, .int x1, .int x2, .float 25]) (r := []) (pc' := 92) rfl rfl rfl rfl k ?_
              rintro _ m19 ⟨w20, rfl, k⟩
              show sm_wp (d + 1) 81 92 lv0 [.int w20] (hp m19) (WQ K)
              refine wp_if_eq (pc' := 95) rfl rfl (fun c21 => ?_) (fun c21 => ?_)
              · replace k := it_t (c := w20 = (nI 0)) c21 k
                refine wl_ald_n (pc' := 99) rfl e_0 rfl ?_
                refine wl_ild_n (pc' := 100) rfl e_1 rfl ?_
                refine wl_ild_n (pc' := 101) rfl e_2 rfl ?_
                refine wp_p (pc' := 103) (lv' := lv0) (st' := [.float 27, .int x2, .int x1, .ref 1]) rfl rfl ?_
                refine wl_cs (As := [.ref 1, .int x1, .int x2, .float 27]) (r := []) (pc' := 106) rfl rfl rfl rfl k ?_
                rintro _ m22 ⟨w23, rfl, k⟩
                show sm_wp (d + 1) 81 106 lv0 [.int w23] (hp m22) (WQ K)
                refine wp_if_eq (pc' := 109) rfl rfl (fun c24 => ?_) (fun c24 => ?_)
                · replace k := it_t (c := w23 = (nI 0)) c24 k
                  refine wl_ald_n (pc' := 113) rfl e_0 rfl ?_
                  refine wl_ild_n (pc' := 114) rfl e_1 rfl ?_
                  refine wl_ild_n (pc' := 115) rfl e_2 rfl ?_
                  refine wp_p (pc' := 117) (lv' := lv0) (st' := [.float 29, .int x2, .int x1, .ref 1]) rfl rfl ?_
                  refine wl_cs (As := [.ref 1, .int x1, .int x2, .float 29]) (r := []) (pc' := 120) rfl rfl rfl rfl k ?_
                  rintro _ m25 ⟨w26, rfl, k⟩
                  show sm_wp (d + 1) 81 120 lv0 [.int w26] (hp m25) (WQ K)
                  refine wp_if_eq (pc' := 123) rfl rfl (fun c27 => ?_) (fun c27 => ?_)
                  · replace k := it_t (c := w26 = (nI 0)) c27 k
                    refine wp_p (pc' := 129) (lv' := lv0) (st' := [.int (-1)]) rfl rfl ?_
                    exact wl_ret rfl rfl ⟨_, rfl, k⟩
                  · replace k := it_f (c := w26 = (nI 0)) c27 k
                    refine wp_p (pc' := 125) (lv' := lv0) (st' := [.int (nI 18)]) rfl rfl ?_
                    refine wp_p (pc' := 129) (lv' := lv0) (st' := [.int (nI 18)]) rfl rfl ?_
                    exact wl_ret rfl rfl ⟨_, rfl, k⟩
                · replace k := it_f (c := w23 = (nI 0)) c24 k
                  refine wp_p (pc' := 111) (lv' := lv0) (st' := [.int (nI 17)]) rfl rfl ?_
                  exact wl_ret rfl rfl ⟨_, rfl, k⟩
              · replace k := it_f (c := w20 = (nI 0)) c21 k
                refine wp_p (pc' := 97) (lv' := lv0) (st' := [.int (nI 16)]) rfl rfl ?_
                exact wl_ret rfl rfl ⟨_, rfl, k⟩
            · replace k := it_f (c := w17 = (nI 0)) c18 k
              refine wp_p (pc' := 83) (lv' := lv0) (st' := [.int (nI 15)]) rfl rfl ?_
              exact wl_ret rfl rfl ⟨_, rfl, k⟩
          · replace k := it_f (c := w14 = (nI 0)) c15 k
            refine wp_p (pc' := 69) (lv' := lv0) (st' := [.int (nI 14)]) rfl rfl ?_
            exact wl_ret rfl rfl ⟨_, rfl, k⟩
        · replace k := it_f (c := w11 = (nI 0)) c12 k
          refine wp_p (pc' := 55) (lv' := lv0) (st' := [.int (nI 13)]) rfl rfl ?_
          exact wl_ret rfl rfl ⟨_, rfl, k⟩
      · replace k := it_f (c := w8 = (nI 0)) c9 k
        refine wp_p (pc' := 41) (lv' := lv0) (st' := [.int (nI 12)]) rfl rfl ?_
        exact wl_ret rfl rfl ⟨_, rfl, k⟩
    · replace k := it_f (c := w5 = (nI 0)) c6 k
      refine wp_p (pc' := 27) (lv' := lv0) (st' := [.int (nI 11)]) rfl rfl ?_
      exact wl_ret rfl rfl ⟨_, rfl, k⟩
  · replace k := it_f (c := w2 = (nI 0)) c3 k
    refine wp_p (pc' := 13) (lv' := lv0) (st' := [.int (nI 10)]) rfl rfl ?_
    exact wl_ret rfl rfl ⟨_, rfl, k⟩
/-! 84: QueryTables$Parser.begin -/
set_option maxRecDepth 20000 in
theorem sp_84 {d : Nat} {m : Mm} {K : Option Value → Mm → Prop} (x2 : Int32) (k : WP d 59 [.ref 12] m (fun v m1 => v = none ∧ WP d 45 [.ref 17] m1 (fun v m2 => v = none ∧ WP d 69 [.ref 26, .ref 1, .int x2] m2 (fun v m3 => ∃ w4, v = some (.int w4) ∧ isB w4 ∧ K (some (.int w4)) m3)))) : WP (d + 1) 84 [.ref 25, .ref 1, .int x2] m K := by
  have e_0 : sm_lk (lv_args 0 [.ref 25, .ref 1, .int x2]) 0 = some (.ref 25) := rfl
  have e_1 : sm_lk (lv_args 0 [.ref 25, .ref 1, .int x2]) 1 = some (.ref 1) := rfl
  have e_2 : sm_lk (lv_args 0 [.ref 25, .ref 1, .int x2]) 2 = some (.int x2) := rfl
  show sm_wp (d + 1) 84 0 (lv_args 0 [.ref 25, .ref 1, .int x2]) [] (hp m) (WQ K)
  generalize lv_args 0 [.ref 25, .ref 1, .int x2] = lv0 at *
  refine wl_ald_n (pc' := 1) rfl e_0 rfl ?_
  refine wp_get (v := .ref 12) (pc' := 4) rfl (hq_25 _) rfl rfl ?_
  refine wl_cv (As := [.ref 12]) (r := []) (pc' := 7) rfl rfl rfl k ?_
  rintro _ m1 ⟨rfl, k⟩
  show sm_wp (d + 1) 84 7 lv0 [] (hp m1) (WQ K)
  refine wl_ald_n (pc' := 8) rfl e_0 rfl ?_
  refine wp_get (v := .ref 17) (pc' := 11) rfl (hq_25 _) rfl rfl ?_
  refine wl_cv (As := [.ref 17]) (r := []) (pc' := 14) rfl rfl rfl k ?_
  rintro _ m2 ⟨rfl, k⟩
  show sm_wp (d + 1) 84 14 lv0 [] (hp m2) (WQ K)
  refine wl_ald_n (pc' := 15) rfl e_0 rfl ?_
  refine wp_get (v := .ref 26) (pc' := 18) rfl (hq_25 _) rfl rfl ?_
  refine wl_ald_n (pc' := 19) rfl e_1 rfl ?_
  refine wl_ild_n (pc' := 20) rfl e_2 rfl ?_
  refine wl_cv (As := [.ref 26, .ref 1, .int x2]) (r := []) (pc' := 23) rfl rfl rfl k ?_
  rintro _ m3 ⟨w4, rfl, k⟩
  show sm_wp (d + 1) 84 23 lv0 [.int w4] (hp m3) (WQ K)
  obtain ⟨k5, k⟩ := k
  exact wl_ret rfl k5 ⟨_, rfl, k⟩
/-! 85: QueryTables$Parser.isAtEnd -/
set_option maxRecDepth 20000 in
theorem sp_85 {d : Nat} {m : Mm} {K : Option Value → Mm → Prop} (k : WP d 70 [.ref 26] m (fun v m1 => ∃ w2, v = some (.int w2) ∧ (if w2 = (nI 0) then K (some (.int (nI 1))) m1 else K (some (.int (nI 0))) m1))) : WP (d + 1) 85 [.ref 25] m K := by
  have e_0 : sm_lk (lv_args 0 [.ref 25]) 0 = some (.ref 25) := rfl
  show sm_wp (d + 1) 85 0 (lv_args 0 [.ref 25]) [] (hp m) (WQ K)
  generalize lv_args 0 [.ref 25] = lv0 at *
  refine wl_ald_n (pc' := 1) rfl e_0 rfl ?_
  refine wp_get (v := .ref 26) (pc' := 4) rfl (hq_25 _) rfl rfl ?_
  refine wl_cv (As := [.ref 26]) (r := []) (pc' := 7) rfl rfl rfl k ?_
  rintro _ m1 ⟨w2, rfl, k⟩
  show sm_wp (d + 1) 85 7 lv0 [.int w2] (hp m1) (WQ K)
  refine wp_if_ne (pc' := 10) rfl rfl (fun c3 => ?_) (fun c3 => ?_)
  · replace k := it_f (c := w2 = (nI 0)) c3 k
    refine wp_p (pc' := 15) (lv' := lv0) (st' := [.int (nI 0)]) rfl rfl ?_
    exact wl_ret rfl rfl ⟨_, rfl, k⟩
  · replace k := it_t (c := w2 = (nI 0)) c3 k
    refine wp_p (pc' := 11) (lv' := lv0) (st' := [.int (nI 1)]) rfl rfl ?_
    refine wp_p (pc' := 15) (lv' := lv0) (st' := [.int (nI 1)]) rfl rfl ?_
    exact wl_ret rfl rfl ⟨_, rfl, k⟩
/-! 86: QueryTables$Parser.wholeStatement -/
set_option maxRecDepth 20000 in
theorem sp_86 {d : Nat} {m : Mm} {K : Option Value → Mm → Prop} (k : WP d 70 [.ref 26] m (fun v m1 => ∃ w2, v = some (.int w2) ∧ WP d 71 [.ref 26, .int (nI 4)] (m1.uF 12 4 w2) (fun v m3 => ∃ w4, v = some (.int w4) ∧ (if w4 = (nI 0) then WP d 71 [.ref 26, .int (nI 5)] m3 (fun v m6 => ∃ w7, v = some (.int w7) ∧ (if w7 = (nI 0) then WP d 71 [.ref 26, .int (nI 6)] m6 (fun v m9 => ∃ w10, v = some (.int w10) ∧ (if w10 = (nI 0) then WP d 71 [.ref 26, .int (nI 7)] m9 (fun v m12 => ∃ w13, v = some (.int w13) ∧ (if w13 = (nI 0) then WP d 71 [.ref 26, .int (nI 8)] m12 (fun v m15 => ∃ w16, v = some (.int w16) ∧ (if w16 = (nI 0) then WP d 71 [.ref 26, .int (nI 9)] m15 (fun v m18 => ∃ w19, v = some (.int w19) ∧ (if w19 = (nI 0) then K (some (.int (nI 0))) m18 else WP d 91 [.ref 25] m18 (fun v m21 => ∃ w22, v = some (.int w22) ∧ (if w22 = (nI 0) then K (some (.int (nI 0))) m21 else (if (nI 3) < (m21.F 12 9) then K (some (.int (nI 0))) m21 else WP d 71 [.ref 26, .int (nI 10)] m21 (fun v m25 => ∃ w26, v = some (.int w26) ∧ (if w26 = (nI 0) then K (some (.int (nI 0))) m25 else WP d 87 [.ref 25] m25 (fun v m28 => ∃ w29, v = some (.int w29) ∧ (if w29 = (nI 0) then K (some (.int (nI 0))) m28 else WP d 88 [.ref 25] m28 (fun v m31 => ∃ w32, v = some (.int w32) ∧ (if w32 = (nI 0) then K (some (.int (nI 0))) m31 else WP d 93 [.ref 25] m31 (fun v m34 => ∃ w35, v = some (.int w35) ∧ (if w35 = (nI 0) then K (some (.int (nI 0))) m34 else WP d 94 [.ref 25] m34 (fun v m37 => ∃ w38, v = some (.int w38) ∧ (if w38 = (nI 0) then K (some (.int (nI 0))) m37 else WP d 95 [.ref 25] m37 (fun v m40 => ∃ w41, v = some (.int w41) ∧ (if w41 = (nI 0) then K (some (.int (nI 0))) m40 else K (some (.int (nI 1))) m40))))))))))))))))) else WP d 87 [.ref 25] m15 (fun v m43 => ∃ w44, v = some (.int w44) ∧ (if w44 = (nI 0) then K (some (.int (nI 0))) m43 else WP d 93 [.ref 25] m43 (fun v m46 => ∃ w47, v = some (.int w47) ∧ (if w47 = (nI 0) then K (some (.int (nI 0))) m46 else K (some (.int (nI 1))) m46)))))) else WP d 87 [.ref 25] m12 (fun v m49 => ∃ w50, v = some (.int w50) ∧ (if w50 = (nI 0) then K (some (.int (nI 0))) m49 else WP d 90 [.ref 25] m49 (fun v m52 => ∃ w53, v = some (.int w53) ∧ (if w53 = (nI 0) then K (some (.int (nI 0))) m52 else WP d 71 [.ref 26, .int (nI 61)] m52 (fun v m55 => ∃ w56, v = some (.int w56) ∧ (if w56 = (nI 0) then K (some (.int (nI 0))) m55 else WP d 92 [.ref 25] m55 (fun v m58 => ∃ w59, v = some (.int w59) ∧ (if w59 = (nI 0) then K (some (.int (nI 0))) m58 else WP d 93 [.ref 25] m58 (fun v m61 => ∃ w62, v = some (.int w62) ∧ (if w62 = (nI 0) then K (some (.int (nI 0))) m61 else K (some (.int (nI 1))) m61)))))))))))) else WP d 87 [.ref 25] m9 (fun v m64 => ∃ w65, v = some (.int w65) ∧ (if w65 = (nI 0) then K (some (.int (nI 0))) m64 else WP d 91 [.ref 25] m64 (fun v m67 => ∃ w68, v = some (.int w68) ∧ (if w68 = (nI 0) then K (some (.int (nI 0))) m67 else K (some (.int (nI 1))) m67)))))) else WP d 87 [.ref 25] m6 (fun v m70 => ∃ w71, v = some (.int w71) ∧ (if w71 = (nI 0) then K (some (.int (nI 0))) m70 else WP d 90 [.ref 25] m70 (fun v m73 => ∃ w74, v = some (.int w74) ∧ (if w74 = (nI 0) then K (some (.int (nI 0))) m73 else K (some (.int (nI 1))) m73)))))) else WP d 87 [.ref 25] m3 (fun v m76 => ∃ w77, v = some (.int w77) ∧ (if w77 = (nI 0) then K (some (.int (nI 0))) m76 else WP d 89 [.ref 25] m76 (fun v m79 => ∃ w80, v = some (.int w80) ∧ (if w80 = (nI 0) then K (some (.int (nI 0))) m79 else K (some (.int (nI 1))) m79)))))))) : WP (d + 1) 86 [.ref 25] m K := by
  have e_0 : sm_lk (lv_args 0 [.ref 25]) 0 = some (.ref 25) := rfl
  show sm_wp (d + 1) 86 0 (lv_args 0 [.ref 25]) [] (hp m) (WQ K)
  generalize lv_args 0 [.ref 25] = lv0 at *
  refine wl_ald_n (pc' := 1) rfl e_0 rfl ?_
  refine wp_get (v := .ref 12) (pc' := 4) rfl (hq_25 _) rfl rfl ?_
  refine wl_ald_n (pc' := 5) rfl e_0 rfl ?_
  refine wp_get (v := .ref 26) (pc' := 8) rfl (hq_25 _) rfl rfl ?_
  refine wl_cv (As := [.ref 26]) (r := [.ref 12]) (pc' := 11) rfl rfl rfl k ?_
  rintro _ m1 ⟨w2, rfl, k⟩
  show sm_wp (d + 1) 86 11 lv0 [.int w2, .ref 12] (hp m1) (WQ K)
  refine wl_put (pc' := 14) (h2 := hp (m1.uF 12 4 w2)) rfl (hq_12 _) rfl rfl rfl (pf_12_4 _ _) ?_
  refine wl_ald_n (pc' := 15) rfl e_0 rfl ?_
  refine wp_get (v := .ref 26) (pc' := 18) rfl (hq_25 _) rfl rfl ?_
  refine wp_p (pc' := 19) (lv' := lv0) (st' := [.int (nI 4), .ref 26]) rfl rfl ?_
  refine wl_cv (As := [.ref 26, .int (nI 4)]) (r := []) (pc' := 22) rfl rfl rfl k ?_
  rintro _ m3 ⟨w4, rfl, k⟩
  show sm_wp (d + 1) 86 22 lv0 [.int w4] (hp m3) (WQ K)
  refine wp_if_eq (pc' := 25) rfl rfl (fun c5 => ?_) (fun c5 => ?_)
  · replace k := it_t (c := w4 = (nI 0)) c5 k
    refine wl_ald_n (pc' := 46) rfl e_0 rfl ?_
    refine wp_get (v := .ref 26) (pc' := 49) rfl (hq_25 _) rfl rfl ?_
    refine wp_p (pc' := 50) (lv' := lv0) (st' := [.int (nI 5), .ref 26]) rfl rfl ?_
    refine wl_cv (As := [.ref 26, .int (nI 5)]) (r := []) (pc' := 53) rfl rfl rfl k ?_
    rintro _ m6 ⟨w7, rfl, k⟩
    show sm_wp (d + 1) 86 53 lv0 [.int w7] (hp m6) (WQ K)
    refine wp_if_eq (pc' := 56) rfl rfl (fun c8 => ?_) (fun c8 => ?_)
    · replace k := it_t (c := w7 = (nI 0)) c8 k
      refine wl_ald_n (pc' := 77) rfl e_0 rfl ?_
      refine wp_get (v := .ref 26) (pc' := 80) rfl (hq_25 _) rfl rfl ?_
      refine wp_p (pc' := 82) (lv' := lv0) (st' := [.int (nI 6), .ref 26]) rfl rfl ?_
      refine wl_cv (As := [.ref 26, .int (nI 6)]) (r := []) (pc' := 85) rfl rfl rfl k ?_
      rintro _ m9 ⟨w10, rfl, k⟩
      show sm_wp (d + 1) 86 85 lv0 [.int w10] (hp m9) (WQ K)
      refine wp_if_eq (pc' := 88) rfl rfl (fun c11 => ?_) (fun c11 => ?_)
      · replace k := it_t (c := w10 = (nI 0)) c11 k
        refine wl_ald_n (pc' := 109) rfl e_0 rfl ?_
        refine wp_get (v := .ref 26) (pc' := 112) rfl (hq_25 _) rfl rfl ?_
        refine wp_p (pc' := 114) (lv' := lv0) (st' := [.int (nI 7), .ref 26]) rfl rfl ?_
        refine wl_cv (As := [.ref 26, .int (nI 7)]) (r := []) (pc' := 117) rfl rfl rfl k ?_
        rintro _ m12 ⟨w13, rfl, k⟩
        show sm_wp (d + 1) 86 117 lv0 [.int w13] (hp m12) (WQ K)
        refine wp_if_eq (pc' := 120) rfl rfl (fun c14 => ?_) (fun c14 => ?_)
        · replace k := it_t (c := w13 = (nI 0)) c14 k
          refine wl_ald_n (pc' := 167) rfl e_0 rfl ?_
          refine wp_get (v := .ref 26) (pc' := 170) rfl (hq_25 _) rfl rfl ?_
          refine wp_p (pc' := 172) (lv' := lv0) (st' := [.int (nI 8), .ref 26]) rfl rfl ?_
          refine wl_cv (As := [.ref 26, .int (nI 8)]) (r := []) (pc' := 175) rfl rfl rfl k ?_
          rintro _ m15 ⟨w16, rfl, k⟩
          show sm_wp (d + 1) 86 175 lv0 [.int w16] (hp m15) (WQ K)
          refine wp_if_eq (pc' := 178) rfl rfl (fun c17 => ?_) (fun c17 => ?_)
          · replace k := it_t (c := w16 = (nI 0)) c17 k
            refine wl_ald_n (pc' := 199) rfl e_0 rfl ?_
            refine wp_get (v := .ref 26) (pc' := 202) rfl (hq_25 _) rfl rfl ?_
            refine wp_p (pc' := 204) (lv' := lv0) (st' := [.int (nI 9), .ref 26]) rfl rfl ?_
            refine wl_cv (As := [.ref 26, .int (nI 9)]) (r := []) (pc' := 207) rfl rfl rfl k ?_
            rintro _ m18 ⟨w19, rfl, k⟩
            show sm_wp (d + 1) 86 207 lv0 [.int w19] (hp m18) (WQ K)
            refine wp_if_eq (pc' := 210) rfl rfl (fun c20 => ?_) (fun c20 => ?_)
            · replace k := it_t (c := w19 = (nI 0)) c20 k
              refine wp_p (pc' := 280) (lv' := lv0) (st' := [.int (nI 0)]) rfl rfl ?_
              exact wl_ret rfl rfl ⟨_, rfl, k⟩
            · replace k := it_f (c := w19 = (nI 0)) c20 k
              refine wl_ald_n (pc' := 211) rfl e_0 rfl ?_
              refine wl_cv (As := [.ref 25]) (r := []) (pc' := 214) rfl rfl rfl k ?_
              rintro _ m21 ⟨w22, rfl, k⟩
              show sm_wp (d + 1) 86 214 lv0 [.int w22] (hp m21) (WQ K)
              refine wp_if_eq (pc' := 217) rfl rfl (fun c23 => ?_) (fun c23 => ?_)
              · replace k := it_t (c := w22 = (nI 0)) c23 k
                refine wp_p (pc' := 280) (lv' := lv0) (st' := [.int (nI 0)]) rfl rfl ?_
                exact wl_ret rfl rfl ⟨_, rfl, k⟩
              · replace k := it_f (c := w22 = (nI 0)) c23 k
                refine wl_ald_n (pc' := 218) rfl e_0 rfl ?_
                refine wp_get (v := .ref 12) (pc' := 221) rfl (hq_25 _) rfl rfl ?_
                refine wp_get (v := .int (m21.F 12 9)) (pc' := 224) rfl (hq_12 _) rfl rfl ?_
                refine wp_p (pc' := 225) (lv' := lv0) (st' := [.int (nI 3), .int (m21.F 12 9)]) rfl rfl ?_
                refine wp_ic_gt (pc' := 228) rfl rfl (fun c24 => ?_) (fun c24 => ?_)
                · replace k := it_t (c := (nI 3) < (m21.F 12 9)) c24 k
                  refine wp_p (pc' := 280) (lv' := lv0) (st' := [.int (nI 0)]) rfl rfl ?_
                  exact wl_ret rfl rfl ⟨_, rfl, k⟩
                · replace k := it_f (c := (nI 3) < (m21.F 12 9)) c24 k
                  refine wl_ald_n (pc' := 229) rfl e_0 rfl ?_
                  refine wp_get (v := .ref 26) (pc' := 232) rfl (hq_25 _) rfl rfl ?_
                  refine wp_p (pc' := 234) (lv' := lv0) (st' := [.int (nI 10), .ref 26]) rfl rfl ?_
                  refine wl_cv (As := [.ref 26, .int (nI 10)]) (r := []) (pc' := 237) rfl rfl rfl k ?_
                  rintro _ m25 ⟨w26, rfl, k⟩
                  show sm_wp (d + 1) 86 237 lv0 [.int w26] (hp m25) (WQ K)
                  refine wp_if_eq (pc' := 240) rfl rfl (fun c27 => ?_) (fun c27 => ?_)
                  · replace k := it_t (c := w26 = (nI 0)) c27 k
                    refine wp_p (pc' := 280) (lv' := lv0) (st' := [.int (nI 0)]) rfl rfl ?_
                    exact wl_ret rfl rfl ⟨_, rfl, k⟩
                  · replace k := it_f (c := w26 = (nI 0)) c27 k
                    refine wl_ald_n (pc' := 241) rfl e_0 rfl ?_
                    refine wl_cv (As := [.ref 25]) (r := []) (pc' := 244) rfl rfl rfl k ?_
                    rintro _ m28 ⟨w29, rfl, k⟩
                    show sm_wp (d + 1) 86 244 lv0 [.int w29] (hp m28) (WQ K)
                    refine wp_if_eq (pc' := 247) rfl rfl (fun c30 => ?_) (fun c30 => ?_)
                    · replace k := it_t (c := w29 = (nI 0)) c30 k
                      refine wp_p (pc' := 280) (lv' := lv0) (st' := [.int (nI 0)]) rfl rfl ?_
                      exact wl_ret rfl rfl ⟨_, rfl, k⟩
                    · replace k := it_f (c := w29 = (nI 0)) c30 k
                      refine wl_ald_n (pc' := 248) rfl e_0 rfl ?_
                      refine wl_cv (As := [.ref 25]) (r := []) (pc' := 251) rfl rfl rfl k ?_
                      rintro _ m31 ⟨w32, rfl, k⟩
                      show sm_wp (d + 1) 86 251 lv0 [.int w32] (hp m31) (WQ K)
                      refine wp_if_eq (pc' := 254) rfl rfl (fun c33 => ?_) (fun c33 => ?_)
                      · replace k := it_t (c := w32 = (nI 0)) c33 k
                        refine wp_p (pc' := 280) (lv' := lv0) (st' := [.int (nI 0)]) rfl rfl ?_
                        exact wl_ret rfl rfl ⟨_, rfl, k⟩
                      · replace k := it_f (c := w32 = (nI 0)) c33 k
                        refine wl_ald_n (pc' := 255) rfl e_0 rfl ?_
                        refine wl_cv (As := [.ref 25]) (r := []) (pc' := 258) rfl rfl rfl k ?_
                        rintro _ m34 ⟨w35, rfl, k⟩
                        show sm_wp (d + 1) 86 258 lv0 [.int w35] (hp m34) (WQ K)
                        refine wp_if_eq (pc' := 261) rfl rfl (fun c36 => ?_) (fun c36 => ?_)
                        · replace k := it_t (c := w35 = (nI 0)) c36 k
                          refine wp_p (pc' := 280) (lv' := lv0) (st' := [.int (nI 0)]) rfl rfl ?_
                          exact wl_ret rfl rfl ⟨_, rfl, k⟩
                        · replace k := it_f (c := w35 = (nI 0)) c36 k
                          refine wl_ald_n (pc' := 262) rfl e_0 rfl ?_
                          refine wl_cv (As := [.ref 25]) (r := []) (pc' := 265) rfl rfl rfl k ?_
                          rintro _ m37 ⟨w38, rfl, k⟩
                          show sm_wp (d + 1) 86 265 lv0 [.int w38] (hp m37) (WQ K)
                          refine wp_if_eq (pc' := 268) rfl rfl (fun c39 => ?_) (fun c39 => ?_)
                          · replace k := it_t (c := w38 = (nI 0)) c39 k
                            refine wp_p (pc' := 280) (lv' := lv0) (st' := [.int (nI 0)]) rfl rfl ?_
                            exact wl_ret rfl rfl ⟨_, rfl, k⟩
                          · replace k := it_f (c := w38 = (nI 0)) c39 k
                            refine wl_ald_n (pc' := 269) rfl e_0 rfl ?_
                            refine wl_cv (As := [.ref 25]) (r := []) (pc' := 272) rfl rfl rfl k ?_
                            rintro _ m40 ⟨w41, rfl, k⟩
                            show sm_wp (d + 1) 86 272 lv0 [.int w41] (hp m40) (WQ K)
                            refine wp_if_eq (pc' := 275) rfl rfl (fun c42 => ?_) (fun c42 => ?_)
                            · replace k := it_t (c := w41 = (nI 0)) c42 k
                              refine wp_p (pc' := 280) (lv' := lv0) (st' := [.int (nI 0)]) rfl rfl ?_
                              exact wl_ret rfl rfl ⟨_, rfl, k⟩
                            · replace k := it_f (c := w41 = (nI 0)) c42 k
                              refine wp_p (pc' := 276) (lv' := lv0) (st' := [.int (nI 1)]) rfl rfl ?_
                              refine wp_p (pc' := 280) (lv' := lv0) (st' := [.int (nI 1)]) rfl rfl ?_
                              exact wl_ret rfl rfl ⟨_, rfl, k⟩
          · replace k := it_f (c := w16 = (nI 0)) c17 k
            refine wl_ald_n (pc' := 179) rfl e_0 rfl ?_
            refine wl_cv (As := [.ref 25]) (r := []) (pc' := 182) rfl rfl rfl k ?_
            rintro _ m43 ⟨w44, rfl, k⟩
            show sm_wp (d + 1) 86 182 lv0 [.int w44] (hp m43) (WQ K)
            refine wp_if_eq (pc' := 185) rfl rfl (fun c45 => ?_) (fun c45 => ?_)
            · replace k := it_t (c := w44 = (nI 0)) c45 k
              refine wp_p (pc' := 197) (lv' := lv0) (st' := [.int (nI 0)]) rfl rfl ?_
              exact wl_ret rfl rfl ⟨_, rfl, k⟩
            · replace k := it_f (c := w44 = (nI 0)) c45 k
              refine wl_ald_n (pc' := 186) rfl e_0 rfl ?_
              refine wl_cv (As := [.ref 25]) (r := []) (pc' := 189) rfl rfl rfl k ?_
              rintro _ m46 ⟨w47, rfl, k⟩
              show sm_wp (d + 1) 86 189 lv0 [.int w47] (hp m46) (WQ K)
              refine wp_if_eq (pc' := 192) rfl rfl (fun c48 => ?_) (fun c48 => ?_)
              · replace k := it_t (c := w47 = (nI 0)) c48 k
                refine wp_p (pc' := 197) (lv' := lv0) (st' := [.int (nI 0)]) rfl rfl ?_
                exact wl_ret rfl rfl ⟨_, rfl, k⟩
              · replace k := it_f (c := w47 = (nI 0)) c48 k
                refine wp_p (pc' := 193) (lv' := lv0) (st' := [.int (nI 1)]) rfl rfl ?_
                refine wp_p (pc' := 197) (lv' := lv0) (st' := [.int (nI 1)]) rfl rfl ?_
                exact wl_ret rfl rfl ⟨_, rfl, k⟩
        · replace k := it_f (c := w13 = (nI 0)) c14 k
          refine wl_ald_n (pc' := 121) rfl e_0 rfl ?_
          refine wl_cv (As := [.ref 25]) (r := []) (pc' := 124) rfl rfl rfl k ?_
          rintro _ m49 ⟨w50, rfl, k⟩
          show sm_wp (d + 1) 86 124 lv0 [.int w50] (hp m49) (WQ K)
          refine wp_if_eq (pc' := 127) rfl rfl (fun c51 => ?_) (fun c51 => ?_)
          · replace k := it_t (c := w50 = (nI 0)) c51 k
            refine wp_p (pc' := 165) (lv' := lv0) (st' := [.int (nI 0)]) rfl rfl ?_
            exact wl_ret rfl rfl ⟨_, rfl, k⟩
          · replace k := it_f (c := w50 = (nI 0)) c51 k
            refine wl_ald_n (pc' := 128) rfl e_0 rfl ?_
            refine wl_cv (As := [.ref 25]) (r := []) (pc' := 131) rfl rfl rfl k ?_
            rintro _ m52 ⟨w53, rfl, k⟩
            show sm_wp (d + 1) 86 131 lv0 [.int w53] (hp m52) (WQ K)
            refine wp_if_eq (pc' := 134) rfl rfl (fun c54 => ?_) (fun c54 => ?_)
            · replace k := it_t (c := w53 = (nI 0)) c54 k
              refine wp_p (pc' := 165) (lv' := lv0) (st' := [.int (nI 0)]) rfl rfl ?_
              exact wl_ret rfl rfl ⟨_, rfl, k⟩
            · replace k := it_f (c := w53 = (nI 0)) c54 k
              refine wl_ald_n (pc' := 135) rfl e_0 rfl ?_
              refine wp_get (v := .ref 26) (pc' := 138) rfl (hq_25 _) rfl rfl ?_
              refine wp_p (pc' := 140) (lv' := lv0) (st' := [.int (nI 61), .ref 26]) rfl rfl ?_
              refine wl_cv (As := [.ref 26, .int (nI 61)]) (r := []) (pc' := 143) rfl rfl rfl k ?_
              rintro _ m55 ⟨w56, rfl, k⟩
              show sm_wp (d + 1) 86 143 lv0 [.int w56] (hp m55) (WQ K)
              refine wp_if_eq (pc' := 146) rfl rfl (fun c57 => ?_) (fun c57 => ?_)
              · replace k := it_t (c := w56 = (nI 0)) c57 k
                refine wp_p (pc' := 165) (lv' := lv0) (st' := [.int (nI 0)]) rfl rfl ?_
                exact wl_ret rfl rfl ⟨_, rfl, k⟩
              · replace k := it_f (c := w56 = (nI 0)) c57 k
                refine wl_ald_n (pc' := 147) rfl e_0 rfl ?_
                refine wl_cv (As := [.ref 25]) (r := []) (pc' := 150) rfl rfl rfl k ?_
                rintro _ m58 ⟨w59, rfl, k⟩
                show sm_wp (d + 1) 86 150 lv0 [.int w59] (hp m58) (WQ K)
                refine wp_if_eq (pc' := 153) rfl rfl (fun c60 => ?_) (fun c60 => ?_)
                · replace k := it_t (c := w59 = (nI 0)) c60 k
                  refine wp_p (pc' := 165) (lv' := lv0) (st' := [.int (nI 0)]) rfl rfl ?_
                  exact wl_ret rfl rfl ⟨_, rfl, k⟩
                · replace k := it_f (c := w59 = (nI 0)) c60 k
                  refine wl_ald_n (pc' := 154) rfl e_0 rfl ?_
                  refine wl_cv (As := [.ref 25]) (r := []) (pc' := 157) rfl rfl rfl k ?_
                  rintro _ m61 ⟨w62, rfl, k⟩
                  show sm_wp (d + 1) 86 157 lv0 [.int w62] (hp m61) (WQ K)
                  refine wp_if_eq (pc' := 160) rfl rfl (fun c63 => ?_) (fun c63 => ?_)
                  · replace k := it_t (c := w62 = (nI 0)) c63 k
                    refine wp_p (pc' := 165) (lv' := lv0) (st' := [.int (nI 0)]) rfl rfl ?_
                    exact wl_ret rfl rfl ⟨_, rfl, k⟩
                  · replace k := it_f (c := w62 = (nI 0)) c63 k
                    refine wp_p (pc' := 161) (lv' := lv0) (st' := [.int (nI 1)]) rfl rfl ?_
                    refine wp_p (pc' := 165) (lv' := lv0) (st' := [.int (nI 1)]) rfl rfl ?_
                    exact wl_ret rfl rfl ⟨_, rfl, k⟩
      · replace k := it_f (c := w10 = (nI 0)) c11 k
        refine wl_ald_n (pc' := 89) rfl e_0 rfl ?_
        refine wl_cv (As := [.ref 25]) (r := []) (pc' := 92) rfl rfl rfl k ?_
        rintro _ m64 ⟨w65, rfl, k⟩
        show sm_wp (d + 1) 86 92 lv0 [.int w65] (hp m64) (WQ K)
        refine wp_if_eq (pc' := 95) rfl rfl (fun c66 => ?_) (fun c66 => ?_)
        · replace k := it_t (c := w65 = (nI 0)) c66 k
          refine wp_p (pc' := 107) (lv' := lv0) (st' := [.int (nI 0)]) rfl rfl ?_
          exact wl_ret rfl rfl ⟨_, rfl, k⟩
        · replace k := it_f (c := w65 = (nI 0)) c66 k
          refine wl_ald_n (pc' := 96) rfl e_0 rfl ?_
          refine wl_cv (As := [.ref 25]) (r := []) (pc' := 99) rfl rfl rfl k ?_
          rintro _ m67 ⟨w68, rfl, k⟩
          show sm_wp (d + 1) 86 99 lv0 [.int w68] (hp m67) (WQ K)
          refine wp_if_eq (pc' := 102) rfl rfl (fun c69 => ?_) (fun c69 => ?_)
          · replace k := it_t (c := w68 = (nI 0)) c69 k
            refine wp_p (pc' := 107) (lv' := lv0) (st' := [.int (nI 0)]) rfl rfl ?_
            exact wl_ret rfl rfl ⟨_, rfl, k⟩
          · replace k := it_f (c := w68 = (nI 0)) c69 k
            refine wp_p (pc' := 103) (lv' := lv0) (st' := [.int (nI 1)]) rfl rfl ?_
            refine wp_p (pc' := 107) (lv' := lv0) (st' := [.int (nI 1)]) rfl rfl ?_
            exact wl_ret rfl rfl ⟨_, rfl, k⟩
    · replace k := it_f (c := w7 = (nI 0)) c8 k
      refine wl_ald_n (pc' := 57) rfl e_0 rfl ?_
      refine wl_cv (As := [.ref 25]) (r := []) (pc' := 60) rfl rfl rfl k ?_
      rintro _ m70 ⟨w71, rfl, k⟩
      show sm_wp (d + 1) 86 60 lv0 [.int w71] (hp m70) (WQ K)
      refine wp_if_eq (pc' := 63) rfl rfl (fun c72 => ?_) (fun c72 => ?_)
      · replace k := it_t (c := w71 = (nI 0)) c72 k
        refine wp_p (pc' := 75) (lv' := lv0) (st' := [.int (nI 0)]) rfl rfl ?_
        exact wl_ret rfl rfl ⟨_, rfl, k⟩
      · replace k := it_f (c := w71 = (nI 0)) c72 k
        refine wl_ald_n (pc' := 64) rfl e_0 rfl ?_
        refine wl_cv (As := [.ref 25]) (r := []) (pc' := 67) rfl rfl rfl k ?_
        rintro _ m73 ⟨w74, rfl, k⟩
        show sm_wp (d + 1) 86 67 lv0 [.int w74] (hp m73) (WQ K)
        refine wp_if_eq (pc' := 70) rfl rfl (fun c75 => ?_) (fun c75 => ?_)
        · replace k := it_t (c := w74 = (nI 0)) c75 k
          refine wp_p (pc' := 75) (lv' := lv0) (st' := [.int (nI 0)]) rfl rfl ?_
          exact wl_ret rfl rfl ⟨_, rfl, k⟩
        · replace k := it_f (c := w74 = (nI 0)) c75 k
          refine wp_p (pc' := 71) (lv' := lv0) (st' := [.int (nI 1)]) rfl rfl ?_
          refine wp_p (pc' := 75) (lv' := lv0) (st' := [.int (nI 1)]) rfl rfl ?_
          exact wl_ret rfl rfl ⟨_, rfl, k⟩
  · replace k := it_f (c := w4 = (nI 0)) c5 k
    refine wl_ald_n (pc' := 26) rfl e_0 rfl ?_
    refine wl_cv (As := [.ref 25]) (r := []) (pc' := 29) rfl rfl rfl k ?_
    rintro _ m76 ⟨w77, rfl, k⟩
    show sm_wp (d + 1) 86 29 lv0 [.int w77] (hp m76) (WQ K)
    refine wp_if_eq (pc' := 32) rfl rfl (fun c78 => ?_) (fun c78 => ?_)
    · replace k := it_t (c := w77 = (nI 0)) c78 k
      refine wp_p (pc' := 44) (lv' := lv0) (st' := [.int (nI 0)]) rfl rfl ?_
      exact wl_ret rfl rfl ⟨_, rfl, k⟩
    · replace k := it_f (c := w77 = (nI 0)) c78 k
      refine wl_ald_n (pc' := 33) rfl e_0 rfl ?_
      refine wl_cv (As := [.ref 25]) (r := []) (pc' := 36) rfl rfl rfl k ?_
      rintro _ m79 ⟨w80, rfl, k⟩
      show sm_wp (d + 1) 86 36 lv0 [.int w80] (hp m79) (WQ K)
      refine wp_if_eq (pc' := 39) rfl rfl (fun c81 => ?_) (fun c81 => ?_)
      · replace k := it_t (c := w80 = (nI 0)) c81 k
        refine wp_p (pc' := 44) (lv' := lv0) (st' := [.int (nI 0)]) rfl rfl ?_
        exact wl_ret rfl rfl ⟨_, rfl, k⟩
      · replace k := it_f (c := w80 = (nI 0)) c81 k
        refine wp_p (pc' := 40) (lv' := lv0) (st' := [.int (nI 1)]) rfl rfl ?_
        refine wp_p (pc' := 44) (lv' := lv0) (st' := [.int (nI 1)]) rfl rfl ?_
        exact wl_ret rfl rfl ⟨_, rfl, k⟩
/-! 87: QueryTables$Parser.firstTable -/
set_option maxRecDepth 20000 in
theorem sp_87 {d : Nat} {m : Mm} {K : Option Value → Mm → Prop} (k : WP d 71 [.ref 26, .int (nI 1)] m (fun v m1 => ∃ w2, v = some (.int w2) ∧ (if w2 = (nI 0) then K (some (.int (nI 0))) m1 else WP d 72 [.ref 26] m1 (fun v m4 => ∃ w5, v = some (.int w5) ∧ K (some (.int (nI 1))) (m4.uF 12 5 w5))))) : WP (d + 1) 87 [.ref 25] m K := by
  have e_0 : sm_lk (lv_args 0 [.ref 25]) 0 = some (.ref 25) := rfl
  show sm_wp (d + 1) 87 0 (lv_args 0 [.ref 25]) [] (hp m) (WQ K)
  generalize lv_args 0 [.ref 25] = lv0 at *
  refine wl_ald_n (pc' := 1) rfl e_0 rfl ?_
  refine wp_get (v := .ref 26) (pc' := 4) rfl (hq_25 _) rfl rfl ?_
  refine wp_p (pc' := 5) (lv' := lv0) (st' := [.int (nI 1), .ref 26]) rfl rfl ?_
  refine wl_cv (As := [.ref 26, .int (nI 1)]) (r := []) (pc' := 8) rfl rfl rfl k ?_
  rintro _ m1 ⟨w2, rfl, k⟩
  show sm_wp (d + 1) 87 8 lv0 [.int w2] (hp m1) (WQ K)
  refine wp_if_ne (pc' := 11) rfl rfl (fun c3 => ?_) (fun c3 => ?_)
  · replace k := it_f (c := w2 = (nI 0)) c3 k
    refine wl_ald_n (pc' := 14) rfl e_0 rfl ?_
    refine wp_get (v := .ref 12) (pc' := 17) rfl (hq_25 _) rfl rfl ?_
    refine wl_ald_n (pc' := 18) rfl e_0 rfl ?_
    refine wp_get (v := .ref 26) (pc' := 21) rfl (hq_25 _) rfl rfl ?_
    refine wl_cv (As := [.ref 26]) (r := [.ref 12]) (pc' := 24) rfl rfl rfl k ?_
    rintro _ m4 ⟨w5, rfl, k⟩
    show sm_wp (d + 1) 87 24 lv0 [.int w5, .ref 12] (hp m4) (WQ K)
    refine wl_put (pc' := 27) (h2 := hp (m4.uF 12 5 w5)) rfl (hq_12 _) rfl rfl rfl (pf_12_5 _ _) ?_
    refine wp_p (pc' := 28) (lv' := lv0) (st' := [.int (nI 1)]) rfl rfl ?_
    exact wl_ret rfl rfl ⟨_, rfl, k⟩
  · replace k := it_t (c := w2 = (nI 0)) c3 k
    refine wp_p (pc' := 12) (lv' := lv0) (st' := [.int (nI 0)]) rfl rfl ?_
    exact wl_ret rfl rfl ⟨_, rfl, k⟩
/-! 88: QueryTables$Parser.secondTable -/
set_option maxRecDepth 20000 in
theorem sp_88 {d : Nat} {m : Mm} {K : Option Value → Mm → Prop} (k : WP d 71 [.ref 26, .int (nI 44)] m (fun v m1 => ∃ w2, v = some (.int w2) ∧ (if w2 = (nI 0) then K (some (.int (nI 1))) m1 else WP d 71 [.ref 26, .int (nI 1)] m1 (fun v m4 => ∃ w5, v = some (.int w5) ∧ (if w5 = (nI 0) then K (some (.int (nI 0))) m4 else WP d 72 [.ref 26] m4 (fun v m7 => ∃ w8, v = some (.int w8) ∧ K (some (.int (nI 1))) (m7.uF 12 6 w8))))))) : WP (d + 1) 88 [.ref 25] m K := by
  have e_0 : sm_lk (lv_args 0 [.ref 25]) 0 = some (.ref 25) := rfl
  show sm_wp (d + 1) 88 0 (lv_args 0 [.ref 25]) [] (hp m) (WQ K)
  generalize lv_args 0 [.ref 25] = lv0 at *
  refine wl_ald_n (pc' := 1) rfl e_0 rfl ?_
  refine wp_get (v := .ref 26) (pc' := 4) rfl (hq_25 _) rfl rfl ?_
  refine wp_p (pc' := 6) (lv' := lv0) (st' := [.int (nI 44), .ref 26]) rfl rfl ?_
  refine wl_cv (As := [.ref 26, .int (nI 44)]) (r := []) (pc' := 9) rfl rfl rfl k ?_
  rintro _ m1 ⟨w2, rfl, k⟩
  show sm_wp (d + 1) 88 9 lv0 [.int w2] (hp m1) (WQ K)
  refine wp_if_ne (pc' := 12) rfl rfl (fun c3 => ?_) (fun c3 => ?_)
  · replace k := it_f (c := w2 = (nI 0)) c3 k
    refine wl_ald_n (pc' := 15) rfl e_0 rfl ?_
    refine wp_get (v := .ref 26) (pc' := 18) rfl (hq_25 _) rfl rfl ?_
    refine wp_p (pc' := 19) (lv' := lv0) (st' := [.int (nI 1), .ref 26]) rfl rfl ?_
    refine wl_cv (As := [.ref 26, .int (nI 1)]) (r := []) (pc' := 22) rfl rfl rfl k ?_
    rintro _ m4 ⟨w5, rfl, k⟩
    show sm_wp (d + 1) 88 22 lv0 [.int w5] (hp m4) (WQ K)
    refine wp_if_ne (pc' := 25) rfl rfl (fun c6 => ?_) (fun c6 => ?_)
    · replace k := it_f (c := w5 = (nI 0)) c6 k
      refine wl_ald_n (pc' := 28) rfl e_0 rfl ?_
      refine wp_get (v := .ref 12) (pc' := 31) rfl (hq_25 _) rfl rfl ?_
      refine wl_ald_n (pc' := 32) rfl e_0 rfl ?_
      refine wp_get (v := .ref 26) (pc' := 35) rfl (hq_25 _) rfl rfl ?_
      refine wl_cv (As := [.ref 26]) (r := [.ref 12]) (pc' := 38) rfl rfl rfl k ?_
      rintro _ m7 ⟨w8, rfl, k⟩
      show sm_wp (d + 1) 88 38 lv0 [.int w8, .ref 12] (hp m7) (WQ K)
      refine wl_put (pc' := 41) (h2 := hp (m7.uF 12 6 w8)) rfl (hq_12 _) rfl rfl rfl (pf_12_6 _ _) ?_
      refine wp_p (pc' := 42) (lv' := lv0) (st' := [.int (nI 1)]) rfl rfl ?_
      exact wl_ret rfl rfl ⟨_, rfl, k⟩
    · replace k := it_t (c := w5 = (nI 0)) c6 k
      refine wp_p (pc' := 26) (lv' := lv0) (st' := [.int (nI 0)]) rfl rfl ?_
      exact wl_ret rfl rfl ⟨_, rfl, k⟩
  · replace k := it_t (c := w2 = (nI 0)) c3 k
    refine wp_p (pc' := 13) (lv' := lv0) (st' := [.int (nI 1)]) rfl rfl ?_
    exact wl_ret rfl rfl ⟨_, rfl, k⟩
/-! 89: QueryTables$Parser.number -/
set_option maxRecDepth 20000 in
theorem sp_89 {d : Nat} {m : Mm} {K : Option Value → Mm → Prop} (k : WP d 71 [.ref 26, .int (nI 2)] m (fun v m1 => ∃ w2, v = some (.int w2) ∧ (if w2 = (nI 0) then K (some (.int (nI 0))) m1 else WP d 72 [.ref 26] m1 (fun v m4 => ∃ w5, v = some (.int w5) ∧ K (some (.int (nI 1))) (m4.uF 12 8 w5))))) : WP (d + 1) 89 [.ref 25] m K := by
  have e_0 : sm_lk (lv_args 0 [.ref 25]) 0 = some (.ref 25) := rfl
  show sm_wp (d + 1) 89 0 (lv_args 0 [.ref 25]) [] (hp m) (WQ K)
  generalize lv_args 0 [.ref 25] = lv0 at *
  refine wl_ald_n (pc' := 1) rfl e_0 rfl ?_
  refine wp_get (v := .ref 26) (pc' := 4) rfl (hq_25 _) rfl rfl ?_
  refine wp_p (pc' := 5) (lv' := lv0) (st' := [.int (nI 2), .ref 26]) rfl rfl ?_
  refine wl_cv (As := [.ref 26, .int (nI 2)]) (r := []) (pc' := 8) rfl rfl rfl k ?_
  rintro _ m1 ⟨w2, rfl, k⟩
  show sm_wp (d + 1) 89 8 lv0 [.int w2] (hp m1) (WQ K)
  refine wp_if_ne (pc' := 11) rfl rfl (fun c3 => ?_) (fun c3 => ?_)
  · replace k := it_f (c := w2 = (nI 0)) c3 k
    refine wl_ald_n (pc' := 14) rfl e_0 rfl ?_
    refine wp_get (v := .ref 12) (pc' := 17) rfl (hq_25 _) rfl rfl ?_
    refine wl_ald_n (pc' := 18) rfl e_0 rfl ?_
    refine wp_get (v := .ref 26) (pc' := 21) rfl (hq_25 _) rfl rfl ?_
    refine wl_cv (As := [.ref 26]) (r := [.ref 12]) (pc' := 24) rfl rfl rfl k ?_
    rintro _ m4 ⟨w5, rfl, k⟩
    show sm_wp (d + 1) 89 24 lv0 [.int w5, .ref 12] (hp m4) (WQ K)
    refine wl_put (pc' := 27) (h2 := hp (m4.uF 12 8 w5)) rfl (hq_12 _) rfl rfl rfl (pf_12_8 _ _) ?_
    refine wp_p (pc' := 28) (lv' := lv0) (st' := [.int (nI 1)]) rfl rfl ?_
    exact wl_ret rfl rfl ⟨_, rfl, k⟩
  · replace k := it_t (c := w2 = (nI 0)) c3 k
    refine wp_p (pc' := 12) (lv' := lv0) (st' := [.int (nI 0)]) rfl rfl ?_
    exact wl_ret rfl rfl ⟨_, rfl, k⟩
/-! 90: QueryTables$Parser.column -/
set_option maxRecDepth 20000 in
theorem sp_90 {d : Nat} {m : Mm} {K : Option Value → Mm → Prop} (k : WP d 71 [.ref 26, .int (nI 3)] m (fun v m1 => ∃ w2, v = some (.int w2) ∧ (if w2 = (nI 0) then K (some (.int (nI 0))) m1 else WP d 72 [.ref 26] m1 (fun v m4 => ∃ w5, v = some (.int w5) ∧ K (some (.int (nI 1))) (m4.uF 12 7 w5))))) : WP (d + 1) 90 [.ref 25] m K := by
  have e_0 : sm_lk (lv_args 0 [.ref 25]) 0 = some (.ref 25) := rfl
  show sm_wp (d + 1) 90 0 (lv_args 0 [.ref 25]) [] (hp m) (WQ K)
  generalize lv_args 0 [.ref 25] = lv0 at *
  refine wl_ald_n (pc' := 1) rfl e_0 rfl ?_
  refine wp_get (v := .ref 26) (pc' := 4) rfl (hq_25 _) rfl rfl ?_
  refine wp_p (pc' := 5) (lv' := lv0) (st' := [.int (nI 3), .ref 26]) rfl rfl ?_
  refine wl_cv (As := [.ref 26, .int (nI 3)]) (r := []) (pc' := 8) rfl rfl rfl k ?_
  rintro _ m1 ⟨w2, rfl, k⟩
  show sm_wp (d + 1) 90 8 lv0 [.int w2] (hp m1) (WQ K)
  refine wp_if_ne (pc' := 11) rfl rfl (fun c3 => ?_) (fun c3 => ?_)
  · replace k := it_f (c := w2 = (nI 0)) c3 k
    refine wl_ald_n (pc' := 14) rfl e_0 rfl ?_
    refine wp_get (v := .ref 12) (pc' := 17) rfl (hq_25 _) rfl rfl ?_
    refine wl_ald_n (pc' := 18) rfl e_0 rfl ?_
    refine wp_get (v := .ref 26) (pc' := 21) rfl (hq_25 _) rfl rfl ?_
    refine wl_cv (As := [.ref 26]) (r := [.ref 12]) (pc' := 24) rfl rfl rfl k ?_
    rintro _ m4 ⟨w5, rfl, k⟩
    show sm_wp (d + 1) 90 24 lv0 [.int w5, .ref 12] (hp m4) (WQ K)
    refine wl_put (pc' := 27) (h2 := hp (m4.uF 12 7 w5)) rfl (hq_12 _) rfl rfl rfl (pf_12_7 _ _) ?_
    refine wp_p (pc' := 28) (lv' := lv0) (st' := [.int (nI 1)]) rfl rfl ?_
    exact wl_ret rfl rfl ⟨_, rfl, k⟩
  · replace k := it_t (c := w2 = (nI 0)) c3 k
    refine wp_p (pc' := 12) (lv' := lv0) (st' := [.int (nI 0)]) rfl rfl ?_
    exact wl_ret rfl rfl ⟨_, rfl, k⟩
/-! 91: QueryTables$Parser.list -/
set_option maxRecDepth 20000 in
theorem sp_91 {d : Nat} {m : Mm} {K : Option Value → Mm → Prop} (k : WH d 91 2 [(0, .ref 25), (1, .int (nI 0))] [] m K) : WP d 91 [.ref 25] m K := by
  have e_0 : sm_lk (lv_args 0 [.ref 25]) 0 = some (.ref 25) := rfl
  show sm_wp d 91 0 (lv_args 0 [.ref 25]) [] (hp m) (WQ K)
  generalize lv_args 0 [.ref 25] = lv0 at *
  refine wp_p (pc' := 1) (lv' := lv0) (st' := [.int (nI 0)]) rfl rfl ?_
  refine wl_st1 (pc' := 2) (k0 := 1) (v := .int (nI 0)) (r := []) rfl rfl (fun lv1 e2 f3 => ?_)
  have e4 := f3 0 _ e_0 (by decide) rfl
  exact k _ ⟨e4, e2, trivial⟩
set_option maxRecDepth 20000 in
theorem sg_91_2 {d : Nat} {m : Mm} {K : Option Value → Mm → Prop} (x1 : Int32) (k : (if (nI 80) ≤ x1 then K (some (.int (nI 0))) m else WP d 92 [.ref 25] m (fun v m2 => ∃ w3, v = some (.int w3) ∧ (if w3 = (nI 0) then K (some (.int (nI 0))) m2 else WP d 71 [.ref 26, .int (nI 44)] m2 (fun v m5 => ∃ w6, v = some (.int w6) ∧ (if w6 = (nI 0) then K (some (.int (nI 1))) m5 else WH (d + 1) 91 2 [(0, .ref 25), (1, .int (x1 + nI 1))] [] m5 K)))))) : WH (d + 1) 91 2 [(0, .ref 25), (1, .int x1)] [] m K := by
  intro lv0 el
  obtain ⟨e_0, e_1, _⟩ := el
  refine wl_ild_n (pc' := 3) rfl e_1 rfl ?_
  refine wp_p (pc' := 5) (lv' := lv0) (st' := [.int (nI 80), .int x1]) rfl rfl ?_
  refine wp_ic_ge (pc' := 8) rfl rfl (fun c1 => ?_) (fun c1 => ?_)
  · replace k := it_t (c := (nI 80) ≤ x1) c1 k
    refine wp_p (pc' := 38) (lv' := lv0) (st' := [.int (nI 0)]) rfl rfl ?_
    exact wl_ret rfl rfl ⟨_, rfl, k⟩
  · replace k := it_f (c := (nI 80) ≤ x1) c1 k
    refine wl_ald_n (pc' := 9) rfl e_0 rfl ?_
    refine wl_cv (As := [.ref 25]) (r := []) (pc' := 12) rfl rfl rfl k ?_
    rintro _ m2 ⟨w3, rfl, k⟩
    show sm_wp (d + 1) 91 12 lv0 [.int w3] (hp m2) (WQ K)
    refine wp_if_ne (pc' := 15) rfl rfl (fun c4 => ?_) (fun c4 => ?_)
    · replace k := it_f (c := w3 = (nI 0)) c4 k
      refine wl_ald_n (pc' := 18) rfl e_0 rfl ?_
      refine wp_get (v := .ref 26) (pc' := 21) rfl (hq_25 _) rfl rfl ?_
      refine wp_p (pc' := 23) (lv' := lv0) (st' := [.int (nI 44), .ref 26]) rfl rfl ?_
      refine wl_cv (As := [.ref 26, .int (nI 44)]) (r := []) (pc' := 26) rfl rfl rfl k ?_
      rintro _ m5 ⟨w6, rfl, k⟩
      show sm_wp (d + 1) 91 26 lv0 [.int w6] (hp m5) (WQ K)
      refine wp_if_ne (pc' := 29) rfl rfl (fun c7 => ?_) (fun c7 => ?_)
      · replace k := it_f (c := w6 = (nI 0)) c7 k
        refine wl_iinc (pc' := 34) (v := x1 + nI 1) rfl e_1 rfl rfl rfl (fun lv8 e9 f10 => ?_)
        have e11 := f10 0 _ e_0 (by decide) rfl
        refine wp_p (pc' := 2) (lv' := lv8) (st' := []) rfl rfl ?_
        exact k _ ⟨e11, e9, trivial⟩
      · replace k := it_t (c := w6 = (nI 0)) c7 k
        refine wp_p (pc' := 30) (lv' := lv0) (st' := [.int (nI 1)]) rfl rfl ?_
        exact wl_ret rfl rfl ⟨_, rfl, k⟩
    · replace k := it_t (c := w3 = (nI 0)) c4 k
      refine wp_p (pc' := 16) (lv' := lv0) (st' := [.int (nI 0)]) rfl rfl ?_
      exact wl_ret rfl rfl ⟨_, rfl, k⟩
/-! 92: QueryTables$Parser.listed -/
set_option maxRecDepth 20000 in
theorem sp_92 {d : Nat} {m : Mm} {K : Option Value → Mm → Prop} (k : WP d 96 [.ref 25, .int (nI 0)] m (fun v m1 => ∃ w2, v = some (.int w2) ∧ (if w2 = (nI 0) then K (some (.int (nI 0))) m1 else WP d 60 [.ref 12, .int (m1.F 17 5)] m1 (fun v m4 => v = none ∧ K (some (.int (nI 1))) m4)))) : WP (d + 1) 92 [.ref 25] m K := by
  have e_0 : sm_lk (lv_args 0 [.ref 25]) 0 = some (.ref 25) := rfl
  show sm_wp (d + 1) 92 0 (lv_args 0 [.ref 25]) [] (hp m) (WQ K)
  generalize lv_args 0 [.ref 25] = lv0 at *
  refine wl_ald_n (pc' := 1) rfl e_0 rfl ?_
  refine wp_p (pc' := 2) (lv' := lv0) (st' := [.int (nI 0), .ref 25]) rfl rfl ?_
  refine wl_cv (As := [.ref 25, .int (nI 0)]) (r := []) (pc' := 5) rfl rfl rfl k ?_
  rintro _ m1 ⟨w2, rfl, k⟩
  show sm_wp (d + 1) 92 5 lv0 [.int w2] (hp m1) (WQ K)
  refine wp_if_ne (pc' := 8) rfl rfl (fun c3 => ?_) (fun c3 => ?_)
  · replace k := it_f (c := w2 = (nI 0)) c3 k
    refine wl_ald_n (pc' := 11) rfl e_0 rfl ?_
    refine wp_get (v := .ref 12) (pc' := 14) rfl (hq_25 _) rfl rfl ?_
    refine wl_ald_n (pc' := 15) rfl e_0 rfl ?_
    refine wp_get (v := .ref 17) (pc' := 18) rfl (hq_25 _) rfl rfl ?_
    refine wp_get (v := .int (m1.F 17 5)) (pc' := 21) rfl (hq_17 _) rfl rfl ?_
    refine wl_cv (As := [.ref 12, .int (m1.F 17 5)]) (r := []) (pc' := 24) rfl rfl rfl k ?_
    rintro _ m4 ⟨rfl, k⟩
    show sm_wp (d + 1) 92 24 lv0 [] (hp m4) (WQ K)
    refine wp_p (pc' := 25) (lv' := lv0) (st' := [.int (nI 1)]) rfl rfl ?_
    exact wl_ret rfl rfl ⟨_, rfl, k⟩
  · replace k := it_t (c := w2 = (nI 0)) c3 k
    refine wp_p (pc' := 9) (lv' := lv0) (st' := [.int (nI 0)]) rfl rfl ?_
    exact wl_ret rfl rfl ⟨_, rfl, k⟩
/-! 93: QueryTables$Parser.where -/
set_option maxRecDepth 20000 in
theorem sp_93 {d : Nat} {m : Mm} {K : Option Value → Mm → Prop} (k : WP d 71 [.ref 26, .int (nI 11)] m (fun v m1 => ∃ w2, v = some (.int w2) ∧ (if w2 = (nI 0) then K (some (.int (nI 1))) m1 else WP d 100 [.ref 25, .int (nI 0)] (m1.uF 12 10 (m1.F 17 5)) (fun v m4 => ∃ w5, v = some (.int w5) ∧ (if w5 = (nI 0) then K (some (.int (nI 0))) m4 else K (some (.int (nI 1))) (m4.uF 12 11 (m4.F 17 5))))))) : WP (d + 1) 93 [.ref 25] m K := by
  have e_0 : sm_lk (lv_args 0 [.ref 25]) 0 = some (.ref 25) := rfl
  show sm_wp (d + 1) 93 0 (lv_args 0 [.ref 25]) [] (hp m) (WQ K)
  generalize lv_args 0 [.ref 25] = lv0 at *
  refine wl_ald_n (pc' := 1) rfl e_0 rfl ?_
  refine wp_get (v := .ref 26) (pc' := 4) rfl (hq_25 _) rfl rfl ?_
  refine wp_p (pc' := 6) (lv' := lv0) (st' := [.int (nI 11), .ref 26]) rfl rfl ?_
  refine wl_cv (As := [.ref 26, .int (nI 11)]) (r := []) (pc' := 9) rfl rfl rfl k ?_
  rintro _ m1 ⟨w2, rfl, k⟩
  show sm_wp (d + 1) 93 9 lv0 [.int w2] (hp m1) (WQ K)
  refine wp_if_ne (pc' := 12) rfl rfl (fun c3 => ?_) (fun c3 => ?_)
  · replace k := it_f (c := w2 = (nI 0)) c3 k
    refine wl_ald_n (pc' := 15) rfl e_0 rfl ?_
    refine wp_get (v := .ref 12) (pc' := 18) rfl (hq_25 _) rfl rfl ?_
    refine wl_ald_n (pc' := 19) rfl e_0 rfl ?_
    refine wp_get (v := .ref 17) (pc' := 22) rfl (hq_25 _) rfl rfl ?_
    refine wp_get (v := .int (m1.F 17 5)) (pc' := 25) rfl (hq_17 _) rfl rfl ?_
    refine wl_put (pc' := 28) (h2 := hp (m1.uF 12 10 (m1.F 17 5))) rfl (hq_12 _) rfl rfl rfl (pf_12_10 _ _) ?_
    refine wl_ald_n (pc' := 29) rfl e_0 rfl ?_
    refine wp_p (pc' := 30) (lv' := lv0) (st' := [.int (nI 0), .ref 25]) rfl rfl ?_
    refine wl_cv (As := [.ref 25, .int (nI 0)]) (r := []) (pc' := 33) rfl rfl rfl k ?_
    rintro _ m4 ⟨w5, rfl, k⟩
    show sm_wp (d + 1) 93 33 lv0 [.int w5] (hp m4) (WQ K)
    refine wp_if_ne (pc' := 36) rfl rfl (fun c6 => ?_) (fun c6 => ?_)
    · replace k := it_f (c := w5 = (nI 0)) c6 k
      refine wl_ald_n (pc' := 39) rfl e_0 rfl ?_
      refine wp_get (v := .ref 12) (pc' := 42) rfl (hq_25 _) rfl rfl ?_
      refine wl_ald_n (pc' := 43) rfl e_0 rfl ?_
      refine wp_get (v := .ref 17) (pc' := 46) rfl (hq_25 _) rfl rfl ?_
      refine wp_get (v := .int (m4.F 17 5)) (pc' := 49) rfl (hq_17 _) rfl rfl ?_
      refine wl_put (pc' := 52) (h2 := hp (m4.uF 12 11 (m4.F 17 5))) rfl (hq_12 _) rfl rfl rfl (pf_12_11 _ _) ?_
      refine wp_p (pc' := 53) (lv' := lv0) (st' := [.int (nI 1)]) rfl rfl ?_
      exact wl_ret rfl rfl ⟨_, rfl, k⟩
    · replace k := it_t (c := w5 = (nI 0)) c6 k
      refine wp_p (pc' := 37) (lv' := lv0) (st' := [.int (nI 0)]) rfl rfl ?_
      exact wl_ret rfl rfl ⟨_, rfl, k⟩
  · replace k := it_t (c := w2 = (nI 0)) c3 k
    refine wp_p (pc' := 13) (lv' := lv0) (st' := [.int (nI 1)]) rfl rfl ?_
    exact wl_ret rfl rfl ⟨_, rfl, k⟩
/-! 94: QueryTables$Parser.order -/
set_option maxRecDepth 20000 in
theorem sp_94 {d : Nat} {m : Mm} {K : Option Value → Mm → Prop} (k : WP d 71 [.ref 26, .int (nI 12)] m (fun v m1 => ∃ w2, v = some (.int w2) ∧ (if w2 = (nI 0) then K (some (.int (nI 1))) m1 else WP d 96 [.ref 25, .int (nI 0)] (m1.uF 12 12 (m1.F 17 5)) (fun v m4 => ∃ w5, v = some (.int w5) ∧ (if w5 = (nI 0) then K (some (.int (nI 0))) m4 else WP d 71 [.ref 26, .int (nI 13)] (m4.uF 12 13 (m4.F 17 5)) (fun v m7 => ∃ w8, v = some (.int w8) ∧ isB w8 ∧ K (some (.int (nI 1))) (m7.uF 12 14 w8))))))) : WP (d + 1) 94 [.ref 25] m K := by
  have e_0 : sm_lk (lv_args 0 [.ref 25]) 0 = some (.ref 25) := rfl
  show sm_wp (d + 1) 94 0 (lv_args 0 [.ref 25]) [] (hp m) (WQ K)
  generalize lv_args 0 [.ref 25] = lv0 at *
  refine wl_ald_n (pc' := 1) rfl e_0 rfl ?_
  refine wp_get (v := .ref 26) (pc' := 4) rfl (hq_25 _) rfl rfl ?_
  refine wp_p (pc' := 6) (lv' := lv0) (st' := [.int (nI 12), .ref 26]) rfl rfl ?_
  refine wl_cv (As := [.ref 26, .int (nI 12)]) (r := []) (pc' := 9) rfl rfl rfl k ?_
  rintro _ m1 ⟨w2, rfl, k⟩
  show sm_wp (d + 1) 94 9 lv0 [.int w2] (hp m1) (WQ K)
  refine wp_if_ne (pc' := 12) rfl rfl (fun c3 => ?_) (fun c3 => ?_)
  · replace k := it_f (c := w2 = (nI 0)) c3 k
    refine wl_ald_n (pc' := 15) rfl e_0 rfl ?_
    refine wp_get (v := .ref 12) (pc' := 18) rfl (hq_25 _) rfl rfl ?_
    refine wl_ald_n (pc' := 19) rfl e_0 rfl ?_
    refine wp_get (v := .ref 17) (pc' := 22) rfl (hq_25 _) rfl rfl ?_
    refine wp_get (v := .int (m1.F 17 5)) (pc' := 25) rfl (hq_17 _) rfl rfl ?_
    refine wl_put (pc' := 28) (h2 := hp (m1.uF 12 12 (m1.F 17 5))) rfl (hq_12 _) rfl rfl rfl (pf_12_12 _ _) ?_
    refine wl_ald_n (pc' := 29) rfl e_0 rfl ?_
    refine wp_p (pc' := 30) (lv' := lv0) (st' := [.int (nI 0), .ref 25]) rfl rfl ?_
    refine wl_cv (As := [.ref 25, .int (nI 0)]) (r := []) (pc' := 33) rfl rfl rfl k ?_
    rintro _ m4 ⟨w5, rfl, k⟩
    show sm_wp (d + 1) 94 33 lv0 [.int w5] (hp m4) (WQ K)
    refine wp_if_ne (pc' := 36) rfl rfl (fun c6 => ?_) (fun c6 => ?_)
    · replace k := it_f (c := w5 = (nI 0)) c6 k
      refine wl_ald_n (pc' := 39) rfl e_0 rfl ?_
      refine wp_get (v := .ref 12) (pc' := 42) rfl (hq_25 _) rfl rfl ?_
      refine wl_ald_n (pc' := 43) rfl e_0 rfl ?_
      refine wp_get (v := .ref 17) (pc' := 46) rfl (hq_25 _) rfl rfl ?_
      refine wp_get (v := .int (m4.F 17 5)) (pc' := 49) rfl (hq_17 _) rfl rfl ?_
      refine wl_put (pc' := 52) (h2 := hp (m4.uF 12 13 (m4.F 17 5))) rfl (hq_12 _) rfl rfl rfl (pf_12_13 _ _) ?_
      refine wl_ald_n (pc' := 53) rfl e_0 rfl ?_
      refine wp_get (v := .ref 12) (pc' := 56) rfl (hq_25 _) rfl rfl ?_
      refine wl_ald_n (pc' := 57) rfl e_0 rfl ?_
      refine wp_get (v := .ref 26) (pc' := 60) rfl (hq_25 _) rfl rfl ?_
      refine wp_p (pc' := 62) (lv' := lv0) (st' := [.int (nI 13), .ref 26, .ref 12]) rfl rfl ?_
      refine wl_cv (As := [.ref 26, .int (nI 13)]) (r := [.ref 12]) (pc' := 65) rfl rfl rfl k ?_
      rintro _ m7 ⟨w8, rfl, k⟩
      show sm_wp (d + 1) 94 65 lv0 [.int w8, .ref 12] (hp m7) (WQ K)
      obtain ⟨k9, k⟩ := k
      refine wl_put (pc' := 68) (h2 := hp (m7.uF 12 14 w8)) rfl (hq_12 _) rfl k9 rfl (pf_12_14 _ _) ?_
      refine wp_p (pc' := 69) (lv' := lv0) (st' := [.int (nI 1)]) rfl rfl ?_
      exact wl_ret rfl rfl ⟨_, rfl, k⟩
    · replace k := it_t (c := w5 = (nI 0)) c6 k
      refine wp_p (pc' := 37) (lv' := lv0) (st' := [.int (nI 0)]) rfl rfl ?_
      exact wl_ret rfl rfl ⟨_, rfl, k⟩
  · replace k := it_t (c := w2 = (nI 0)) c3 k
    refine wp_p (pc' := 13) (lv' := lv0) (st' := [.int (nI 1)]) rfl rfl ?_
    exact wl_ret rfl rfl ⟨_, rfl, k⟩
/-! 95: QueryTables$Parser.limit -/
set_option maxRecDepth 20000 in
theorem sp_95 {d : Nat} {m : Mm} {K : Option Value → Mm → Prop} (k : WP d 71 [.ref 26, .int (nI 14)] m (fun v m1 => ∃ w2, v = some (.int w2) ∧ (if w2 = (nI 0) then K (some (.int (nI 1))) m1 else WP d 71 [.ref 26, .int (nI 2)] m1 (fun v m4 => ∃ w5, v = some (.int w5) ∧ (if w5 = (nI 0) then K (some (.int (nI 0))) m4 else WP d 72 [.ref 26] m4 (fun v m7 => ∃ w8, v = some (.int w8) ∧ K (some (.int (nI 1))) (m7.uF 12 15 w8))))))) : WP (d + 1) 95 [.ref 25] m K := by
  have e_0 : sm_lk (lv_args 0 [.ref 25]) 0 = some (.ref 25) := rfl
  show sm_wp (d + 1) 95 0 (lv_args 0 [.ref 25]) [] (hp m) (WQ K)
  generalize lv_args 0 [.ref 25] = lv0 at *
  refine wl_ald_n (pc' := 1) rfl e_0 rfl ?_
  refine wp_get (v := .ref 26) (pc' := 4) rfl (hq_25 _) rfl rfl ?_
  refine wp_p (pc' := 6) (lv' := lv0) (st' := [.int (nI 14), .ref 26]) rfl rfl ?_
  refine wl_cv (As := [.ref 26, .int (nI 14)]) (r := []) (pc' := 9) rfl rfl rfl k ?_
  rintro _ m1 ⟨w2, rfl, k⟩
  show sm_wp (d + 1) 95 9 lv0 [.int w2] (hp m1) (WQ K)
  refine wp_if_ne (pc' := 12) rfl rfl (fun c3 => ?_) (fun c3 => ?_)
  · replace k := it_f (c := w2 = (nI 0)) c3 k
    refine wl_ald_n (pc' := 15) rfl e_0 rfl ?_
    refine wp_get (v := .ref 26) (pc' := 18) rfl (hq_25 _) rfl rfl ?_
    refine wp_p (pc' := 19) (lv' := lv0) (st' := [.int (nI 2), .ref 26]) rfl rfl ?_
    refine wl_cv (As := [.ref 26, .int (nI 2)]) (r := []) (pc' := 22) rfl rfl rfl k ?_
    rintro _ m4 ⟨w5, rfl, k⟩
    show sm_wp (d + 1) 95 22 lv0 [.int w5] (hp m4) (WQ K)
    refine wp_if_ne (pc' := 25) rfl rfl (fun c6 => ?_) (fun c6 => ?_)
    · replace k := it_f (c := w5 = (nI 0)) c6 k
      refine wl_ald_n (pc' := 28) rfl e_0 rfl ?_
      refine wp_get (v := .ref 12) (pc' := 31) rfl (hq_25 _) rfl rfl ?_
      refine wl_ald_n (pc' := 32) rfl e_0 rfl ?_
      refine wp_get (v := .ref 26) (pc' := 35) rfl (hq_25 _) rfl rfl ?_
      refine wl_cv (As := [.ref 26]) (r := [.ref 12]) (pc' := 38) rfl rfl rfl k ?_
      rintro _ m7 ⟨w8, rfl, k⟩
      show sm_wp (d + 1) 95 38 lv0 [.int w8, .ref 12] (hp m7) (WQ K)
      refine wl_put (pc' := 41) (h2 := hp (m7.uF 12 15 w8)) rfl (hq_12 _) rfl rfl rfl (pf_12_15 _ _) ?_
      refine wp_p (pc' := 42) (lv' := lv0) (st' := [.int (nI 1)]) rfl rfl ?_
      exact wl_ret rfl rfl ⟨_, rfl, k⟩
    · replace k := it_t (c := w5 = (nI 0)) c6 k
      refine wp_p (pc' := 26) (lv' := lv0) (st' := [.int (nI 0)]) rfl rfl ?_
      exact wl_ret rfl rfl ⟨_, rfl, k⟩
  · replace k := it_t (c := w2 = (nI 0)) c3 k
    refine wp_p (pc' := 13) (lv' := lv0) (st' := [.int (nI 1)]) rfl rfl ?_
    exact wl_ret rfl rfl ⟨_, rfl, k⟩
/-! 96: QueryTables$Parser.expression -/
set_option maxRecDepth 20000 in
theorem sp_96 {d : Nat} {m : Mm} {K : Option Value → Mm → Prop} (x1 : Int32) (k : WP d 97 [.ref 25, .int x1] m (fun v m1 => ∃ w2, v = some (.int w2) ∧ (if w2 = (nI 0) then K (some (.int (nI 0))) m1 else WP d 70 [.ref 26] m1 (fun v m4 => ∃ w5, v = some (.int w5) ∧ WH (d + 1) 96 20 [(0, .ref 25), (1, .int x1), (2, .int w5), (3, .int (nI 0))] [] m4 K)))) : WP (d + 1) 96 [.ref 25, .int x1] m K := by
  have e_0 : sm_lk (lv_args 0 [.ref 25, .int x1]) 0 = some (.ref 25) := rfl
  have e_1 : sm_lk (lv_args 0 [.ref 25, .int x1]) 1 = some (.int x1) := rfl
  show sm_wp (d + 1) 96 0 (lv_args 0 [.ref 25, .int x1]) [] (hp m) (WQ K)
  generalize lv_args 0 [.ref 25, .int x1] = lv0 at *
  refine wl_ald_n (pc' := 1) rfl e_0 rfl ?_
  refine wl_ild_n (pc' := 2) rfl e_1 rfl ?_
  refine wl_cv (As := [.ref 25, .int x1]) (r := []) (pc' := 5) rfl rfl rfl k ?_
  rintro _ m1 ⟨w2, rfl, k⟩
  show sm_wp (d + 1) 96 5 lv0 [.int w2] (hp m1) (WQ K)
  refine wp_if_ne (pc' := 8) rfl rfl (fun c3 => ?_) (fun c3 => ?_)
  · replace k := it_f (c := w2 = (nI 0)) c3 k
    refine wl_ald_n (pc' := 11) rfl e_0 rfl ?_
    refine wp_get (v := .ref 26) (pc' := 14) rfl (hq_25 _) rfl rfl ?_
    refine wl_cv (As := [.ref 26]) (r := []) (pc' := 17) rfl rfl rfl k ?_
    rintro _ m4 ⟨w5, rfl, k⟩
    show sm_wp (d + 1) 96 17 lv0 [.int w5] (hp m4) (WQ K)
    refine wl_st1 (pc' := 18) (k0 := 2) (v := .int w5) (r := []) rfl rfl (fun lv6 e7 f8 => ?_)
    have e9 := f8 0 _ e_0 (by decide) rfl
    have e10 := f8 1 _ e_1 (by decide) rfl
    refine wp_p (pc' := 19) (lv' := lv6) (st' := [.int (nI 0)]) rfl rfl ?_
    refine wl_st1 (pc' := 20) (k0 := 3) (v := .int (nI 0)) (r := []) rfl rfl (fun lv11 e12 f13 => ?_)
    have e14 := f13 0 _ e9 (by decide) rfl
    have e15 := f13 1 _ e10 (by decide) rfl
    have e16 := f13 2 _ e7 (by decide) rfl
    exact k _ ⟨e14, e15, e16, e12, trivial⟩
  · replace k := it_t (c := w2 = (nI 0)) c3 k
    refine wp_p (pc' := 9) (lv' := lv0) (st' := [.int (nI 0)]) rfl rfl ?_
    exact wl_ret rfl rfl ⟨_, rfl, k⟩
set_option maxRecDepth 20000 in
theorem sg_96_20 {d : Nat} {m : Mm} {K : Option Value → Mm → Prop} (x1 : Int32) (x2 : Int32) (x3 : Int32) (k : (if (nI 80) ≤ x3 then K (some (.int (nI 1))) m else (if x2 = (nI 43) then WP d 71 [.ref 26, .int x2] m (fun v m3 => ∃ w4, v = some (.int w4) ∧ WP d 97 [.ref 25, .int x1] m3 (fun v m5 => ∃ w6, v = some (.int w6) ∧ (if w6 = (nI 0) then K (some (.int (nI 0))) m5 else WP d 46 [.ref 17, .int x2] m5 (fun v m8 => v = none ∧ WP d 70 [.ref 26] m8 (fun v m9 => ∃ w10, v = some (.int w10) ∧ WH (d + 1) 96 20 [(0, .ref 25), (1, .int x1), (2, .int w10), (3, .int (x3 + nI 1))] [] m9 K))))) else (if x2 = (nI 45) then WP d 71 [.ref 26, .int x2] m (fun v m24 => ∃ w25, v = some (.int w25) ∧ WP d 97 [.ref 25, .int x1] m24 (fun v m26 => ∃ w27, v = some (.int w27) ∧ (if w27 = (nI 0) then K (some (.int (nI 0))) m26 else WP d 46 [.ref 17, .int x2] m26 (fun v m29 => v = none ∧ WP d 70 [.ref 26] m29 (fun v m30 => ∃ w31, v = some (.int w31) ∧ WH (d + 1) 96 20 [(0, .ref 25), (1, .int x1), (2, .int w31), (3, .int (x3 + nI 1))] [] m30 K))))) else K (some (.int (nI 1))) m)))) : WH (d + 1) 96 20 [(0, .ref 25), (1, .int x1), (2, .int x2), (3, .int x3)] [] m K := by
  intro lv0 el
  obtain ⟨e_0, e_1, e_2, e_3, _⟩ := el
  refine wl_ild_n (pc' := 21) rfl e_3 rfl ?_
  refine wp_p (pc' := 23) (lv' := lv0) (st' := [.int (nI 80), .int x3]) rfl rfl ?_
  refine wp_ic_ge (pc' := 26) rfl rfl (fun c1 => ?_) (fun c1 => ?_)
  · replace k := it_t (c := (nI 80) ≤ x3) c1 k
    refine wp_p (pc' := 80) (lv' := lv0) (st' := [.int (nI 1)]) rfl rfl ?_
    exact wl_ret rfl rfl ⟨_, rfl, k⟩
  · replace k := it_f (c := (nI 80) ≤ x3) c1 k
    refine wl_ild_n (pc' := 27) rfl e_2 rfl ?_
    refine wp_p (pc' := 29) (lv' := lv0) (st' := [.int (nI 43), .int x2]) rfl rfl ?_
    refine wp_ic_eq (pc' := 32) rfl rfl (fun c2 => ?_) (fun c2 => ?_)
    · replace k := it_t (c := x2 = (nI 43)) c2 k
      refine wl_ald_n (pc' := 39) rfl e_0 rfl ?_
      refine wp_get (v := .ref 26) (pc' := 42) rfl (hq_25 _) rfl rfl ?_
      refine wl_ild_n (pc' := 43) rfl e_2 rfl ?_
      refine wl_cv (As := [.ref 26, .int x2]) (r := []) (pc' := 46) rfl rfl rfl k ?_
      rintro _ m3 ⟨w4, rfl, k⟩
      show sm_wp (d + 1) 96 46 lv0 [.int w4] (hp m3) (WQ K)
      refine wp_p (pc' := 47) (lv' := lv0) (st' := []) rfl rfl ?_
      refine wl_ald_n (pc' := 48) rfl e_0 rfl ?_
      refine wl_ild_n (pc' := 49) rfl e_1 rfl ?_
      refine wl_cv (As := [.ref 25, .int x1]) (r := []) (pc' := 52) rfl rfl rfl k ?_
      rintro _ m5 ⟨w6, rfl, k⟩
      show sm_wp (d + 1) 96 52 lv0 [.int w6] (hp m5) (WQ K)
      refine wp_if_ne (pc' := 55) rfl rfl (fun c7 => ?_) (fun c7 => ?_)
      · replace k := it_f (c := w6 = (nI 0)) c7 k
        refine wl_ald_n (pc' := 58) rfl e_0 rfl ?_
        refine wp_get (v := .ref 17) (pc' := 61) rfl (hq_25 _) rfl rfl ?_
        refine wl_ild_n (pc' := 62) rfl e_2 rfl ?_
        refine wl_cv (As := [.ref 17, .int x2]) (r := []) (pc' := 65) rfl rfl rfl k ?_
        rintro _ m8 ⟨rfl, k⟩
        show sm_wp (d + 1) 96 65 lv0 [] (hp m8) (WQ K)
        refine wl_ald_n (pc' := 66) rfl e_0 rfl ?_
        refine wp_get (v := .ref 26) (pc' := 69) rfl (hq_25 _) rfl rfl ?_
        refine wl_cv (As := [.ref 26]) (r := []) (pc' := 72) rfl rfl rfl k ?_
        rintro _ m9 ⟨w10, rfl, k⟩
        show sm_wp (d + 1) 96 72 lv0 [.int w10] (hp m9) (WQ K)
        refine wl_st1 (pc' := 73) (k0 := 2) (v := .int w10) (r := []) rfl rfl (fun lv11 e12 f13 => ?_)
        have e14 := f13 0 _ e_0 (by decide) rfl
        have e15 := f13 1 _ e_1 (by decide) rfl
        have e16 := f13 3 _ e_3 (by decide) rfl
        refine wl_iinc (pc' := 76) (v := x3 + nI 1) rfl e16 rfl rfl rfl (fun lv17 e18 f19 => ?_)
        have e20 := f19 0 _ e14 (by decide) rfl
        have e21 := f19 1 _ e15 (by decide) rfl
        have e22 := f19 2 _ e12 (by decide) rfl
        refine wp_p (pc' := 20) (lv' := lv17) (st' := []) rfl rfl ?_
        exact k _ ⟨e20, e21, e22, e18, trivial⟩
      · replace k := it_t (c := w6 = (nI 0)) c7 k
        refine wp_p (pc' := 56) (lv' := lv0) (st' := [.int (nI 0)]) rfl rfl ?_
        exact wl_ret rfl rfl ⟨_, rfl, k⟩
    · replace k := it_f (c := x2 = (nI 43)) c2 k
      refine wl_ild_n (pc' := 33) rfl e_2 rfl ?_
      refine wp_p (pc' := 35) (lv' := lv0) (st' := [.int (nI 45), .int x2]) rfl rfl ?_
      refine wp_ic_ne (pc' := 38) rfl rfl (fun c23 => ?_) (fun c23 => ?_)
      · replace k := it_f (c := x2 = (nI 45)) c23 k
        refine wp_p (pc' := 80) (lv' := lv0) (st' := [.int (nI 1)]) rfl rfl ?_
        exact wl_ret rfl rfl ⟨_, rfl, k⟩
      · replace k := it_t (c := x2 = (nI 45)) c23 k
        refine wl_ald_n (pc' := 39) rfl e_0 rfl ?_
        refine wp_get (v := .ref 26) (pc' := 42) rfl (hq_25 _) rfl rfl ?_
        refine wl_ild_n (pc' := 43) rfl e_2 rfl ?_
        refine wl_cv (As := [.ref 26, .int x2]) (r := []) (pc' := 46) rfl rfl rfl k ?_
        rintro _ m24 ⟨w25, rfl, k⟩
        show sm_wp (d + 1) 96 46 lv0 [.int w25] (hp m24) (WQ K)
        refine wp_p (pc' := 47) (lv' := lv0) (st' := []) rfl rfl ?_
        refine wl_ald_n (pc' := 48) rfl e_0 rfl ?_
        refine wl_ild_n (pc' := 49) rfl e_1 rfl ?_
        refine wl_cv (As := [.ref 25, .int x1]) (r := []) (pc' := 52) rfl rfl rfl k ?_
        rintro _ m26 ⟨w27, rfl, k⟩
        show sm_wp (d + 1) 96 52 lv0 [.int w27] (hp m26) (WQ K)
        refine wp_if_ne (pc' := 55) rfl rfl (fun c28 => ?_) (fun c28 => ?_)
        · replace k := it_f (c := w27 = (nI 0)) c28 k
          refine wl_ald_n (pc' := 58) rfl e_0 rfl ?_
          refine wp_get (v := .ref 17) (pc' := 61) rfl (hq_25 _) rfl rfl ?_
          refine wl_ild_n (pc' := 62) rfl e_2 rfl ?_
          refine wl_cv (As := [.ref 17, .int x2]) (r := []) (pc' := 65) rfl rfl rfl k ?_
          rintro _ m29 ⟨rfl, k⟩
          show sm_wp (d + 1) 96 65 lv0 [] (hp m29) (WQ K)
          refine wl_ald_n (pc' := 66) rfl e_0 rfl ?_
          refine wp_get (v := .ref 26) (pc' := 69) rfl (hq_25 _) rfl rfl ?_
          refine wl_cv (As := [.ref 26]) (r := []) (pc' := 72) rfl rfl rfl k ?_
          rintro _ m30 ⟨w31, rfl, k⟩
          show sm_wp (d + 1) 96 72 lv0 [.int w31] (hp m30) (WQ K)
          refine wl_st1 (pc' := 73) (k0 := 2) (v := .int w31) (r := []) rfl rfl (fun lv32 e33 f34 => ?_)
          have e35 := f34 0 _ e_0 (by decide) rfl
          have e36 := f34 1 _ e_1 (by decide) rfl
          have e37 := f34 3 _ e_3 (by decide) rfl
          refine wl_iinc (pc' := 76) (v := x3 + nI 1) rfl e37 rfl rfl rfl (fun lv38 e39 f40 => ?_)
          have e41 := f40 0 _ e35 (by decide) rfl
          have e42 := f40 1 _ e36 (by decide) rfl
          have e43 := f40 2 _ e33 (by decide) rfl
          refine wp_p (pc' := 20) (lv' := lv38) (st' := []) rfl rfl ?_
          exact k _ ⟨e41, e42, e43, e39, trivial⟩
        · replace k := it_t (c := w27 = (nI 0)) c28 k
          refine wp_p (pc' := 56) (lv' := lv0) (st' := [.int (nI 0)]) rfl rfl ?_
          exact wl_ret rfl rfl ⟨_, rfl, k⟩
/-! 97: QueryTables$Parser.product -/
set_option maxRecDepth 20000 in
theorem sp_97 {d : Nat} {m : Mm} {K : Option Value → Mm → Prop} (x1 : Int32) (k : WP d 98 [.ref 25, .int x1] m (fun v m1 => ∃ w2, v = some (.int w2) ∧ (if w2 = (nI 0) then K (some (.int (nI 0))) m1 else WP d 70 [.ref 26] m1 (fun v m4 => ∃ w5, v = some (.int w5) ∧ WH (d + 1) 97 20 [(0, .ref 25), (1, .int x1), (2, .int w5), (3, .int (nI 0))] [] m4 K)))) : WP (d + 1) 97 [.ref 25, .int x1] m K := by
  have e_0 : sm_lk (lv_args 0 [.ref 25, .int x1]) 0 = some (.ref 25) := rfl
  have e_1 : sm_lk (lv_args 0 [.ref 25, .int x1]) 1 = some (.int x1) := rfl
  show sm_wp (d + 1) 97 0 (lv_args 0 [.ref 25, .int x1]) [] (hp m) (WQ K)
  generalize lv_args 0 [.ref 25, .int x1] = lv0 at *
  refine wl_ald_n (pc' := 1) rfl e_0 rfl ?_
  refine wl_ild_n (pc' := 2) rfl e_1 rfl ?_
  refine wl_cv (As := [.ref 25, .int x1]) (r := []) (pc' := 5) rfl rfl rfl k ?_
  rintro _ m1 ⟨w2, rfl, k⟩
  show sm_wp (d + 1) 97 5 lv0 [.int w2] (hp m1) (WQ K)
  refine wp_if_ne (pc' := 8) rfl rfl (fun c3 => ?_) (fun c3 => ?_)
  · replace k := it_f (c := w2 = (nI 0)) c3 k
    refine wl_ald_n (pc' := 11) rfl e_0 rfl ?_
    refine wp_get (v := .ref 26) (pc' := 14) rfl (hq_25 _) rfl rfl ?_
    refine wl_cv (As := [.ref 26]) (r := []) (pc' := 17) rfl rfl rfl k ?_
    rintro _ m4 ⟨w5, rfl, k⟩
    show sm_wp (d + 1) 97 17 lv0 [.int w5] (hp m4) (WQ K)
    refine wl_st1 (pc' := 18) (k0 := 2) (v := .int w5) (r := []) rfl rfl (fun lv6 e7 f8 => ?_)
    have e9 := f8 0 _ e_0 (by decide) rfl
    have e10 := f8 1 _ e_1 (by decide) rfl
    refine wp_p (pc' := 19) (lv' := lv6) (st' := [.int (nI 0)]) rfl rfl ?_
    refine wl_st1 (pc' := 20) (k0 := 3) (v := .int (nI 0)) (r := []) rfl rfl (fun lv11 e12 f13 => ?_)
    have e14 := f13 0 _ e9 (by decide) rfl
    have e15 := f13 1 _ e10 (by decide) rfl
    have e16 := f13 2 _ e7 (by decide) rfl
    exact k _ ⟨e14, e15, e16, e12, trivial⟩
  · replace k := it_t (c := w2 = (nI 0)) c3 k
    refine wp_p (pc' := 9) (lv' := lv0) (st' := [.int (nI 0)]) rfl rfl ?_
    exact wl_ret rfl rfl ⟨_, rfl, k⟩
set_option maxRecDepth 20000 in
theorem sg_97_20 {d : Nat} {m : Mm} {K : Option Value → Mm → Prop} (x1 : Int32) (x2 : Int32) (x3 : Int32) (k : (if (nI 80) ≤ x3 then K (some (.int (nI 1))) m else (if x2 = (nI 42) then WP d 71 [.ref 26, .int x2] m (fun v m3 => ∃ w4, v = some (.int w4) ∧ WP d 98 [.ref 25, .int x1] m3 (fun v m5 => ∃ w6, v = some (.int w6) ∧ (if w6 = (nI 0) then K (some (.int (nI 0))) m5 else WP d 46 [.ref 17, .int x2] m5 (fun v m8 => v = none ∧ WP d 70 [.ref 26] m8 (fun v m9 => ∃ w10, v = some (.int w10) ∧ WH (d + 1) 97 20 [(0, .ref 25), (1, .int x1), (2, .int w10), (3, .int (x3 + nI 1))] [] m9 K))))) else (if x2 = (nI 47) then WP d 71 [.ref 26, .int x2] m (fun v m24 => ∃ w25, v = some (.int w25) ∧ WP d 98 [.ref 25, .int x1] m24 (fun v m26 => ∃ w27, v = some (.int w27) ∧ (if w27 = (nI 0) then K (some (.int (nI 0))) m26 else WP d 46 [.ref 17, .int x2] m26 (fun v m29 => v = none ∧ WP d 70 [.ref 26] m29 (fun v m30 => ∃ w31, v = some (.int w31) ∧ WH (d + 1) 97 20 [(0, .ref 25), (1, .int x1), (2, .int w31), (3, .int (x3 + nI 1))] [] m30 K))))) else K (some (.int (nI 1))) m)))) : WH (d + 1) 97 20 [(0, .ref 25), (1, .int x1), (2, .int x2), (3, .int x3)] [] m K := by
  intro lv0 el
  obtain ⟨e_0, e_1, e_2, e_3, _⟩ := el
  refine wl_ild_n (pc' := 21) rfl e_3 rfl ?_
  refine wp_p (pc' := 23) (lv' := lv0) (st' := [.int (nI 80), .int x3]) rfl rfl ?_
  refine wp_ic_ge (pc' := 26) rfl rfl (fun c1 => ?_) (fun c1 => ?_)
  · replace k := it_t (c := (nI 80) ≤ x3) c1 k
    refine wp_p (pc' := 80) (lv' := lv0) (st' := [.int (nI 1)]) rfl rfl ?_
    exact wl_ret rfl rfl ⟨_, rfl, k⟩
  · replace k := it_f (c := (nI 80) ≤ x3) c1 k
    refine wl_ild_n (pc' := 27) rfl e_2 rfl ?_
    refine wp_p (pc' := 29) (lv' := lv0) (st' := [.int (nI 42), .int x2]) rfl rfl ?_
    refine wp_ic_eq (pc' := 32) rfl rfl (fun c2 => ?_) (fun c2 => ?_)
    · replace k := it_t (c := x2 = (nI 42)) c2 k
      refine wl_ald_n (pc' := 39) rfl e_0 rfl ?_
      refine wp_get (v := .ref 26) (pc' := 42) rfl (hq_25 _) rfl rfl ?_
      refine wl_ild_n (pc' := 43) rfl e_2 rfl ?_
      refine wl_cv (As := [.ref 26, .int x2]) (r := []) (pc' := 46) rfl rfl rfl k ?_
      rintro _ m3 ⟨w4, rfl, k⟩
      show sm_wp (d + 1) 97 46 lv0 [.int w4] (hp m3) (WQ K)
      refine wp_p (pc' := 47) (lv' := lv0) (st' := []) rfl rfl ?_
      refine wl_ald_n (pc' := 48) rfl e_0 rfl ?_
      refine wl_ild_n (pc' := 49) rfl e_1 rfl ?_
      refine wl_cv (As := [.ref 25, .int x1]) (r := []) (pc' := 52) rfl rfl rfl k ?_
      rintro _ m5 ⟨w6, rfl, k⟩
      show sm_wp (d + 1) 97 52 lv0 [.int w6] (hp m5) (WQ K)
      refine wp_if_ne (pc' := 55) rfl rfl (fun c7 => ?_) (fun c7 => ?_)
      · replace k := it_f (c := w6 = (nI 0)) c7 k
        refine wl_ald_n (pc' := 58) rfl e_0 rfl ?_
        refine wp_get (v := .ref 17) (pc' := 61) rfl (hq_25 _) rfl rfl ?_
        refine wl_ild_n (pc' := 62) rfl e_2 rfl ?_
        refine wl_cv (As := [.ref 17, .int x2]) (r := []) (pc' := 65) rfl rfl rfl k ?_
        rintro _ m8 ⟨rfl, k⟩
        show sm_wp (d + 1) 97 65 lv0 [] (hp m8) (WQ K)
        refine wl_ald_n (pc' := 66) rfl e_0 rfl ?_
        refine wp_get (v := .ref 26) (pc' := 69) rfl (hq_25 _) rfl rfl ?_
        refine wl_cv (As := [.ref 26]) (r := []) (pc' := 72) rfl rfl rfl k ?_
        rintro _ m9 ⟨w10, rfl, k⟩
        show sm_wp (d + 1) 97 72 lv0 [.int w10] (hp m9) (WQ K)
        refine wl_st1 (pc' := 73) (k0 := 2) (v := .int w10) (r := []) rfl rfl (fun lv11 e12 f13 => ?_)
        have e14 := f13 0 _ e_0 (by decide) rfl
        have e15 := f13 1 _ e_1 (by decide) rfl
        have e16 := f13 3 _ e_3 (by decide) rfl
        refine wl_iinc (pc' := 76) (v := x3 + nI 1) rfl e16 rfl rfl rfl (fun lv17 e18 f19 => ?_)
        have e20 := f19 0 _ e14 (by decide) rfl
        have e21 := f19 1 _ e15 (by decide) rfl
        have e22 := f19 2 _ e12 (by decide) rfl
        refine wp_p (pc' := 20) (lv' := lv17) (st' := []) rfl rfl ?_
        exact k _ ⟨e20, e21, e22, e18, trivial⟩
      · replace k := it_t (c := w6 = (nI 0)) c7 k
        refine wp_p (pc' := 56) (lv' := lv0) (st' := [.int (nI 0)]) rfl rfl ?_
        exact wl_ret rfl rfl ⟨_, rfl, k⟩
    · replace k := it_f (c := x2 = (nI 42)) c2 k
      refine wl_ild_n (pc' := 33) rfl e_2 rfl ?_
      refine wp_p (pc' := 35) (lv' := lv0) (st' := [.int (nI 47), .int x2]) rfl rfl ?_
      refine wp_ic_ne (pc' := 38) rfl rfl (fun c23 => ?_) (fun c23 => ?_)
      · replace k := it_f (c := x2 = (nI 47)) c23 k
        refine wp_p (pc' := 80) (lv' := lv0) (st' := [.int (nI 1)]) rfl rfl ?_
        exact wl_ret rfl rfl ⟨_, rfl, k⟩
      · replace k := it_t (c := x2 = (nI 47)) c23 k
        refine wl_ald_n (pc' := 39) rfl e_0 rfl ?_
        refine wp_get (v := .ref 26) (pc' := 42) rfl (hq_25 _) rfl rfl ?_
        refine wl_ild_n (pc' := 43) rfl e_2 rfl ?_
        refine wl_cv (As := [.ref 26, .int x2]) (r := []) (pc' := 46) rfl rfl rfl k ?_
        rintro _ m24 ⟨w25, rfl, k⟩
        show sm_wp (d + 1) 97 46 lv0 [.int w25] (hp m24) (WQ K)
        refine wp_p (pc' := 47) (lv' := lv0) (st' := []) rfl rfl ?_
        refine wl_ald_n (pc' := 48) rfl e_0 rfl ?_
        refine wl_ild_n (pc' := 49) rfl e_1 rfl ?_
        refine wl_cv (As := [.ref 25, .int x1]) (r := []) (pc' := 52) rfl rfl rfl k ?_
        rintro _ m26 ⟨w27, rfl, k⟩
        show sm_wp (d + 1) 97 52 lv0 [.int w27] (hp m26) (WQ K)
        refine wp_if_ne (pc' := 55) rfl rfl (fun c28 => ?_) (fun c28 => ?_)
        · replace k := it_f (c := w27 = (nI 0)) c28 k
          refine wl_ald_n (pc' := 58) rfl e_0 rfl ?_
          refine wp_get (v := .ref 17) (pc' := 61) rfl (hq_25 _) rfl rfl ?_
          refine wl_ild_n (pc' := 62) rfl e_2 rfl ?_
          refine wl_cv (As := [.ref 17, .int x2]) (r := []) (pc' := 65) rfl rfl rfl k ?_
          rintro _ m29 ⟨rfl, k⟩
          show sm_wp (d + 1) 97 65 lv0 [] (hp m29) (WQ K)
          refine wl_ald_n (pc' := 66) rfl e_0 rfl ?_
          refine wp_get (v := .ref 26) (pc' := 69) rfl (hq_25 _) rfl rfl ?_
          refine wl_cv (As := [.ref 26]) (r := []) (pc' := 72) rfl rfl rfl k ?_
          rintro _ m30 ⟨w31, rfl, k⟩
          show sm_wp (d + 1) 97 72 lv0 [.int w31] (hp m30) (WQ K)
          refine wl_st1 (pc' := 73) (k0 := 2) (v := .int w31) (r := []) rfl rfl (fun lv32 e33 f34 => ?_)
          have e35 := f34 0 _ e_0 (by decide) rfl
          have e36 := f34 1 _ e_1 (by decide) rfl
          have e37 := f34 3 _ e_3 (by decide) rfl
          refine wl_iinc (pc' := 76) (v := x3 + nI 1) rfl e37 rfl rfl rfl (fun lv38 e39 f40 => ?_)
          have e41 := f40 0 _ e35 (by decide) rfl
          have e42 := f40 1 _ e36 (by decide) rfl
          have e43 := f40 2 _ e33 (by decide) rfl
          refine wp_p (pc' := 20) (lv' := lv38) (st' := []) rfl rfl ?_
          exact k _ ⟨e41, e42, e43, e39, trivial⟩
        · replace k := it_t (c := w27 = (nI 0)) c28 k
          refine wp_p (pc' := 56) (lv' := lv0) (st' := [.int (nI 0)]) rfl rfl ?_
          exact wl_ret rfl rfl ⟨_, rfl, k⟩
/-! 98: QueryTables$Parser.factor -/
set_option maxRecDepth 20000 in
theorem sp_98 {d : Nat} {m : Mm} {K : Option Value → Mm → Prop} (x1 : Int32) (k : WP d 71 [.ref 26, .int (nI 40)] m (fun v m1 => ∃ w2, v = some (.int w2) ∧ (if w2 = (nI 0) then WP d 71 [.ref 26, .int (nI 45)] m1 (fun v m4 => ∃ w5, v = some (.int w5) ∧ (if w5 = (nI 0) then WP d 71 [.ref 26, .int (nI 2)] m4 (fun v m7 => ∃ w8, v = some (.int w8) ∧ (if w8 = (nI 0) then WP d 71 [.ref 26, .int (nI 15)] m7 (fun v m10 => ∃ w11, v = some (.int w11) ∧ (if w11 = (nI 0) then WP d 99 [.ref 25] m10 (fun v m13 => ∃ w14, v = some (.int w14) ∧ isB w14 ∧ K (some (.int w14)) m13) else WP d 47 [.ref 17, .int (nI 15), .int (nI 0), .int (-1)] m10 (fun v m16 => v = none ∧ K (some (.int (nI 1))) m16))) else WP d 72 [.ref 26] m7 (fun v m17 => ∃ w18, v = some (.int w18) ∧ WP d 47 [.ref 17, .int (nI 2), .int w18, .int (-1)] m17 (fun v m19 => v = none ∧ K (some (.int (nI 1))) m19)))) else (if (nI 7) < x1 then K (some (.int (nI 0))) m4 else WP d 98 [.ref 25, .int (x1 + (nI 1))] m4 (fun v m21 => ∃ w22, v = some (.int w22) ∧ (if w22 = (nI 0) then K (some (.int (nI 0))) m21 else WP d 46 [.ref 17, .int (nI 30)] m21 (fun v m24 => v = none ∧ K (some (.int (nI 1))) m24)))))) else (if (nI 7) < x1 then K (some (.int (nI 0))) m1 else WP d 96 [.ref 25, .int (x1 + (nI 1))] m1 (fun v m26 => ∃ w27, v = some (.int w27) ∧ (if w27 = (nI 0) then K (some (.int (nI 0))) m26 else WP d 71 [.ref 26, .int (nI 41)] m26 (fun v m29 => ∃ w30, v = some (.int w30) ∧ (if w30 = (nI 0) then K (some (.int (nI 0))) m29 else K (some (.int (nI 1))) m29)))))))) : WP (d + 1) 98 [.ref 25, .int x1] m K := by
  have e_0 : sm_lk (lv_args 0 [.ref 25, .int x1]) 0 = some (.ref 25) := rfl
  have e_1 : sm_lk (lv_args 0 [.ref 25, .int x1]) 1 = some (.int x1) := rfl
  show sm_wp (d + 1) 98 0 (lv_args 0 [.ref 25, .int x1]) [] (hp m) (WQ K)
  generalize lv_args 0 [.ref 25, .int x1] = lv0 at *
  refine wl_ald_n (pc' := 1) rfl e_0 rfl ?_
  refine wp_get (v := .ref 26) (pc' := 4) rfl (hq_25 _) rfl rfl ?_
  refine wp_p (pc' := 6) (lv' := lv0) (st' := [.int (nI 40), .ref 26]) rfl rfl ?_
  refine wl_cv (As := [.ref 26, .int (nI 40)]) (r := []) (pc' := 9) rfl rfl rfl k ?_
  rintro _ m1 ⟨w2, rfl, k⟩
  show sm_wp (d + 1) 98 9 lv0 [.int w2] (hp m1) (WQ K)
  refine wp_if_eq (pc' := 12) rfl rfl (fun c3 => ?_) (fun c3 => ?_)
  · replace k := it_t (c := w2 = (nI 0)) c3 k
    refine wl_ald_n (pc' := 47) rfl e_0 rfl ?_
    refine wp_get (v := .ref 26) (pc' := 50) rfl (hq_25 _) rfl rfl ?_
    refine wp_p (pc' := 52) (lv' := lv0) (st' := [.int (nI 45), .ref 26]) rfl rfl ?_
    refine wl_cv (As := [.ref 26, .int (nI 45)]) (r := []) (pc' := 55) rfl rfl rfl k ?_
    rintro _ m4 ⟨w5, rfl, k⟩
    show sm_wp (d + 1) 98 55 lv0 [.int w5] (hp m4) (WQ K)
    refine wp_if_eq (pc' := 58) rfl rfl (fun c6 => ?_) (fun c6 => ?_)
    · replace k := it_t (c := w5 = (nI 0)) c6 k
      refine wl_ald_n (pc' := 88) rfl e_0 rfl ?_
      refine wp_get (v := .ref 26) (pc' := 91) rfl (hq_25 _) rfl rfl ?_
      refine wp_p (pc' := 92) (lv' := lv0) (st' := [.int (nI 2), .ref 26]) rfl rfl ?_
      refine wl_cv (As := [.ref 26, .int (nI 2)]) (r := []) (pc' := 95) rfl rfl rfl k ?_
      rintro _ m7 ⟨w8, rfl, k⟩
      show sm_wp (d + 1) 98 95 lv0 [.int w8] (hp m7) (WQ K)
      refine wp_if_eq (pc' := 98) rfl rfl (fun c9 => ?_) (fun c9 => ?_)
      · replace k := it_t (c := w8 = (nI 0)) c9 k
        refine wl_ald_n (pc' := 117) rfl e_0 rfl ?_
        refine wp_get (v := .ref 26) (pc' := 120) rfl (hq_25 _) rfl rfl ?_
        refine wp_p (pc' := 122) (lv' := lv0) (st' := [.int (nI 15), .ref 26]) rfl rfl ?_
        refine wl_cv (As := [.ref 26, .int (nI 15)]) (r := []) (pc' := 125) rfl rfl rfl k ?_
        rintro _ m10 ⟨w11, rfl, k⟩
        show sm_wp (d + 1) 98 125 lv0 [.int w11] (hp m10) (WQ K)
        refine wp_if_eq (pc' := 128) rfl rfl (fun c12 => ?_) (fun c12 => ?_)
        · replace k := it_t (c := w11 = (nI 0)) c12 k
          refine wl_ald_n (pc' := 142) rfl e_0 rfl ?_
          refine wl_cv (As := [.ref 25]) (r := []) (pc' := 145) rfl rfl rfl k ?_
          rintro _ m13 ⟨w14, rfl, k⟩
          show sm_wp (d + 1) 98 145 lv0 [.int w14] (hp m13) (WQ K)
          obtain ⟨k15, k⟩ := k
          exact wl_ret rfl k15 ⟨_, rfl, k⟩
        · replace k := it_f (c := w11 = (nI 0)) c12 k
          refine wl_ald_n (pc' := 129) rfl e_0 rfl ?_
          refine wp_get (v := .ref 17) (pc' := 132) rfl (hq_25 _) rfl rfl ?_
          refine wp_p (pc' := 134) (lv' := lv0) (st' := [.int (nI 15), .ref 17]) rfl rfl ?_
          refine wp_p (pc' := 135) (lv' := lv0) (st' := [.int (nI 0), .int (nI 15), .ref 17]) rfl rfl ?_
          refine wp_p (pc' := 136) (lv' := lv0) (st' := [.int (-1), .int (nI 0), .int (nI 15), .ref 17]) rfl rfl ?_
          refine wl_cv (As := [.ref 17, .int (nI 15), .int (nI 0), .int (-1)]) (r := []) (pc' := 139) rfl rfl rfl k ?_
          rintro _ m16 ⟨rfl, k⟩
          show sm_wp (d + 1) 98 139 lv0 [] (hp m16) (WQ K)
          refine wp_p (pc' := 140) (lv' := lv0) (st' := [.int (nI 1)]) rfl rfl ?_
          exact wl_ret rfl rfl ⟨_, rfl, k⟩
      · replace k := it_f (c := w8 = (nI 0)) c9 k
        refine wl_ald_n (pc' := 99) rfl e_0 rfl ?_
        refine wp_get (v := .ref 17) (pc' := 102) rfl (hq_25 _) rfl rfl ?_
        refine wp_p (pc' := 103) (lv' := lv0) (st' := [.int (nI 2), .ref 17]) rfl rfl ?_
        refine wl_ald_n (pc' := 104) rfl e_0 rfl ?_
        refine wp_get (v := .ref 26) (pc' := 107) rfl (hq_25 _) rfl rfl ?_
        refine wl_cv (As := [.ref 26]) (r := [.int (nI 2), .ref 17]) (pc' := 110) rfl rfl rfl k ?_
        rintro _ m17 ⟨w18, rfl, k⟩
        show sm_wp (d + 1) 98 110 lv0 [.int w18, .int (nI 2), .ref 17] (hp m17) (WQ K)
        refine wp_p (pc' := 111) (lv' := lv0) (st' := [.int (-1), .int w18, .int (nI 2), .ref 17]) rfl rfl ?_
        refine wl_cv (As := [.ref 17, .int (nI 2), .int w18, .int (-1)]) (r := []) (pc' := 114) rfl rfl rfl k ?_
        rintro _ m19 ⟨rfl, k⟩
        show sm_wp (d + 1) 98 114 lv0 [] (hp m19) (WQ K)
        refine wp_p (pc' := 115) (lv' := lv0) (st' := [.int (nI 1)]) rfl rfl ?_
        exact wl_ret rfl rfl ⟨_, rfl, k⟩
    · replace k := it_f (c := w5 = (nI 0)) c6 k
      refine wl_ild_n (pc' := 59) rfl e_1 rfl ?_
      refine wp_p (pc' := 61) (lv' := lv0) (st' := [.int (nI 7), .int x1]) rfl rfl ?_
      refine wp_ic_gt (pc' := 64) rfl rfl (fun c20 => ?_) (fun c20 => ?_)
      · replace k := it_t (c := (nI 7) < x1) c20 k
        refine wp_p (pc' := 75) (lv' := lv0) (st' := [.int (nI 0)]) rfl rfl ?_
        exact wl_ret rfl rfl ⟨_, rfl, k⟩
      · replace k := it_f (c := (nI 7) < x1) c20 k
        refine wl_ald_n (pc' := 65) rfl e_0 rfl ?_
        refine wl_ild_n (pc' := 66) rfl e_1 rfl ?_
        refine wp_p (pc' := 67) (lv' := lv0) (st' := [.int (nI 1), .int x1, .ref 25]) rfl rfl ?_
        refine wp_iadd (v := x1 + (nI 1)) (pc' := 68) rfl rfl rfl ?_
        refine wl_cv (As := [.ref 25, .int (x1 + (nI 1))]) (r := []) (pc' := 71) rfl rfl rfl k ?_
        rintro _ m21 ⟨w22, rfl, k⟩
        show sm_wp (d + 1) 98 71 lv0 [.int w22] (hp m21) (WQ K)
        refine wp_if_ne (pc' := 74) rfl rfl (fun c23 => ?_) (fun c23 => ?_)
        · replace k := it_f (c := w22 = (nI 0)) c23 k
          refine wl_ald_n (pc' := 77) rfl e_0 rfl ?_
          refine wp_get (v := .ref 17) (pc' := 80) rfl (hq_25 _) rfl rfl ?_
          refine wp_p (pc' := 82) (lv' := lv0) (st' := [.int (nI 30), .ref 17]) rfl rfl ?_
          refine wl_cv (As := [.ref 17, .int (nI 30)]) (r := []) (pc' := 85) rfl rfl rfl k ?_
          rintro _ m24 ⟨rfl, k⟩
          show sm_wp (d + 1) 98 85 lv0 [] (hp m24) (WQ K)
          refine wp_p (pc' := 86) (lv' := lv0) (st' := [.int (nI 1)]) rfl rfl ?_
          exact wl_ret rfl rfl ⟨_, rfl, k⟩
        · replace k := it_t (c := w22 = (nI 0)) c23 k
          refine wp_p (pc' := 75) (lv' := lv0) (st' := [.int (nI 0)]) rfl rfl ?_
          exact wl_ret rfl rfl ⟨_, rfl, k⟩
  · replace k := it_f (c := w2 = (nI 0)) c3 k
    refine wl_ild_n (pc' := 13) rfl e_1 rfl ?_
    refine wp_p (pc' := 15) (lv' := lv0) (st' := [.int (nI 7), .int x1]) rfl rfl ?_
    refine wp_ic_gt (pc' := 18) rfl rfl (fun c25 => ?_) (fun c25 => ?_)
    · replace k := it_t (c := (nI 7) < x1) c25 k
      refine wp_p (pc' := 45) (lv' := lv0) (st' := [.int (nI 0)]) rfl rfl ?_
      exact wl_ret rfl rfl ⟨_, rfl, k⟩
    · replace k := it_f (c := (nI 7) < x1) c25 k
      refine wl_ald_n (pc' := 19) rfl e_0 rfl ?_
      refine wl_ild_n (pc' := 20) rfl e_1 rfl ?_
      refine wp_p (pc' := 21) (lv' := lv0) (st' := [.int (nI 1), .int x1, .ref 25]) rfl rfl ?_
      refine wp_iadd (v := x1 + (nI 1)) (pc' := 22) rfl rfl rfl ?_
      refine wl_cv (As := [.ref 25, .int (x1 + (nI 1))]) (r := []) (pc' := 25) rfl rfl rfl k ?_
      rintro _ m26 ⟨w27, rfl, k⟩
      show sm_wp (d + 1) 98 25 lv0 [.int w27] (hp m26) (WQ K)
      refine wp_if_eq (pc' := 28) rfl rfl (fun c28 => ?_) (fun c28 => ?_)
      · replace k := it_t (c := w27 = (nI 0)) c28 k
        refine wp_p (pc' := 45) (lv' := lv0) (st' := [.int (nI 0)]) rfl rfl ?_
        exact wl_ret rfl rfl ⟨_, rfl, k⟩
      · replace k := it_f (c := w27 = (nI 0)) c28 k
        refine wl_ald_n (pc' := 29) rfl e_0 rfl ?_
        refine wp_get (v := .ref 26) (pc' := 32) rfl (hq_25 _) rfl rfl ?_
        refine wp_p (pc' := 34) (lv' := lv0) (st' := [.int (nI 41), .ref 26]) rfl rfl ?_
        refine wl_cv (As := [.ref 26, .int (nI 41)]) (r := []) (pc' := 37) rfl rfl rfl k ?_
        rintro _ m29 ⟨w30, rfl, k⟩
        show sm_wp (d + 1) 98 37 lv0 [.int w30] (hp m29) (WQ K)
        refine wp_if_eq (pc' := 40) rfl rfl (fun c31 => ?_) (fun c31 => ?_)
        · replace k := it_t (c := w30 = (nI 0)) c31 k
          refine wp_p (pc' := 45) (lv' := lv0) (st' := [.int (nI 0)]) rfl rfl ?_
          exact wl_ret rfl rfl ⟨_, rfl, k⟩
        · replace k := it_f (c := w30 = (nI 0)) c31 k
          refine wp_p (pc' := 41) (lv' := lv0) (st' := [.int (nI 1)]) rfl rfl ?_
          refine wp_p (pc' := 45) (lv' := lv0) (st' := [.int (nI 1)]) rfl rfl ?_
          exact wl_ret rfl rfl ⟨_, rfl, k⟩
