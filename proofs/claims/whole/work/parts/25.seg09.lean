/-! SEGMENTS of the methods 162 to 165 (by program, wip/whole/gen25.py): what must hold of a way from one place to the next -/
/-! 162: QueryTablesModel.statement -/
set_option maxRecDepth 20000 in
theorem sp_162 {d : Nat} {m : Mm} {K : Option Value → Mm → Prop} (k : ok (m.A 44).length (nI 0) ∧ (if ((m.A 44).getD (ix (nI 0)) 0) = (nI 1) then ok (m.A 45).length (nI 0) ∧ WP d 139 [.int (nI 99), .int (nI 114), .int (nI 101), .int (nI 97), .int (nI 116), .int (nI 101)] ((m.uF 42 17 ((m.A 45).getD (ix (nI 0)) 0)).uF 42 5 (nI 1)) (fun v m46 => ∃ w47, v = some (.int w47) ∧ (if ((m.A 45).getD (ix (nI 0)) 0) = w47 then WP d 159 [.ref 42] m46 (fun v m85 => v = none ∧ WP d 143 [.ref 42, .int (nI 3)] m85 (fun v m86 => ∃ w87, v = some (.int w87) ∧ WH (d + 1) 162 300 [(0, .ref 42)] [] (m86.uF 42 21 w87) K)) else WP d 139 [.int (nI 105), .int (nI 110), .int (nI 100), .int (nI 101), .int (nI 120), .int (nI 0)] m46 (fun v m49 => ∃ w50, v = some (.int w50) ∧ (if (m46.F 42 17) = w50 then WP d 159 [.ref 42] m49 (fun v m82 => v = none ∧ WP d 144 [.ref 42] m82 (fun v m83 => ∃ w84, v = some (.int w84) ∧ WH (d + 1) 162 300 [(0, .ref 42)] [] (m83.uF 42 20 w84) K)) else WP d 139 [.int (nI 105), .int (nI 110), .int (nI 115), .int (nI 101), .int (nI 114), .int (nI 116)] m49 (fun v m52 => ∃ w53, v = some (.int w53) ∧ (if (m49.F 42 17) = w53 then WP d 159 [.ref 42] m52 (fun v m80 => v = none ∧ WP d 158 [.ref 42] m80 (fun v m81 => v = none ∧ WH (d + 1) 162 133 [(0, .ref 42)] [] m81 K)) else WP d 139 [.int (nI 117), .int (nI 112), .int (nI 100), .int (nI 97), .int (nI 116), .int (nI 101)] m52 (fun v m55 => ∃ w56, v = some (.int w56) ∧ (if (m52.F 42 17) = w56 then WP d 159 [.ref 42] m55 (fun v m67 => v = none ∧ WP d 144 [.ref 42] m67 (fun v m68 => ∃ w69, v = some (.int w69) ∧ (if (m68.F 42 6) = (nI 0) then WP d 141 [.ref 42, .int (nI 61)] (m68.uF 42 20 w69) (fun v m73 => ∃ w74, v = some (.int w74) ∧ (if w74 = (nI 0) then (if (nI 1) = (nI 0) then WP d 158 [.ref 42] (m73.uF 42 6 (nI 1)) (fun v m79 => v = none ∧ WH (d + 1) 162 226 [(0, .ref 42)] [] m79 K) else WH (d + 1) 162 226 [(0, .ref 42)] [] (m73.uF 42 6 (nI 1)) K) else (if (nI 0) = (nI 0) then WP d 158 [.ref 42] (m73.uF 42 6 (nI 0)) (fun v m77 => v = none ∧ WH (d + 1) 162 226 [(0, .ref 42)] [] m77 K) else WH (d + 1) 162 226 [(0, .ref 42)] [] (m73.uF 42 6 (nI 0)) K))) else (if (nI 1) = (nI 0) then WP d 158 [.ref 42] ((m68.uF 42 20 w69).uF 42 6 (nI 1)) (fun v m72 => v = none ∧ WH (d + 1) 162 226 [(0, .ref 42)] [] m72 K) else WH (d + 1) 162 226 [(0, .ref 42)] [] ((m68.uF 42 20 w69).uF 42 6 (nI 1)) K)))) else WP d 139 [.int (nI 100), .int (nI 101), .int (nI 108), .int (nI 101), .int (nI 116), .int (nI 101)] m55 (fun v m58 => ∃ w59, v = some (.int w59) ∧ (if (m55.F 42 17) = w59 then WP d 159 [.ref 42] m58 (fun v m65 => v = none ∧ WP d 161 [.ref 42] m65 (fun v m66 => v = none ∧ WH (d + 1) 162 300 [(0, .ref 42)] [] m66 K)) else WP d 139 [.int (nI 115), .int (nI 101), .int (nI 108), .int (nI 101), .int (nI 99), .int (nI 116)] m58 (fun v m61 => ∃ w62, v = some (.int w62) ∧ (if (m58.F 42 17) = w62 then WP d 163 [.ref 42] m61 (fun v m64 => v = none ∧ WH (d + 1) 162 300 [(0, .ref 42)] [] m64 K) else WH (d + 1) 162 300 [(0, .ref 42)] [] (m61.uF 42 6 (nI 1)) K)))))))))))) else WP d 139 [.int (nI 99), .int (nI 114), .int (nI 101), .int (nI 97), .int (nI 116), .int (nI 101)] ((m.uF 42 17 (nI 0)).uF 42 5 (nI 1)) (fun v m3 => ∃ w4, v = some (.int w4) ∧ (if (nI 0) = w4 then WP d 159 [.ref 42] m3 (fun v m42 => v = none ∧ WP d 143 [.ref 42, .int (nI 3)] m42 (fun v m43 => ∃ w44, v = some (.int w44) ∧ WH (d + 1) 162 300 [(0, .ref 42)] [] (m43.uF 42 21 w44) K)) else WP d 139 [.int (nI 105), .int (nI 110), .int (nI 100), .int (nI 101), .int (nI 120), .int (nI 0)] m3 (fun v m6 => ∃ w7, v = some (.int w7) ∧ (if (m3.F 42 17) = w7 then WP d 159 [.ref 42] m6 (fun v m39 => v = none ∧ WP d 144 [.ref 42] m39 (fun v m40 => ∃ w41, v = some (.int w41) ∧ WH (d + 1) 162 300 [(0, .ref 42)] [] (m40.uF 42 20 w41) K)) else WP d 139 [.int (nI 105), .int (nI 110), .int (nI 115), .int (nI 101), .int (nI 114), .int (nI 116)] m6 (fun v m9 => ∃ w10, v = some (.int w10) ∧ (if (m6.F 42 17) = w10 then WP d 159 [.ref 42] m9 (fun v m37 => v = none ∧ WP d 158 [.ref 42] m37 (fun v m38 => v = none ∧ WH (d + 1) 162 133 [(0, .ref 42)] [] m38 K)) else WP d 139 [.int (nI 117), .int (nI 112), .int (nI 100), .int (nI 97), .int (nI 116), .int (nI 101)] m9 (fun v m12 => ∃ w13, v = some (.int w13) ∧ (if (m9.F 42 17) = w13 then WP d 159 [.ref 42] m12 (fun v m24 => v = none ∧ WP d 144 [.ref 42] m24 (fun v m25 => ∃ w26, v = some (.int w26) ∧ (if (m25.F 42 6) = (nI 0) then WP d 141 [.ref 42, .int (nI 61)] (m25.uF 42 20 w26) (fun v m30 => ∃ w31, v = some (.int w31) ∧ (if w31 = (nI 0) then (if (nI 1) = (nI 0) then WP d 158 [.ref 42] (m30.uF 42 6 (nI 1)) (fun v m36 => v = none ∧ WH (d + 1) 162 226 [(0, .ref 42)] [] m36 K) else WH (d + 1) 162 226 [(0, .ref 42)] [] (m30.uF 42 6 (nI 1)) K) else (if (nI 0) = (nI 0) then WP d 158 [.ref 42] (m30.uF 42 6 (nI 0)) (fun v m34 => v = none ∧ WH (d + 1) 162 226 [(0, .ref 42)] [] m34 K) else WH (d + 1) 162 226 [(0, .ref 42)] [] (m30.uF 42 6 (nI 0)) K))) else (if (nI 1) = (nI 0) then WP d 158 [.ref 42] ((m25.uF 42 20 w26).uF 42 6 (nI 1)) (fun v m29 => v = none ∧ WH (d + 1) 162 226 [(0, .ref 42)] [] m29 K) else WH (d + 1) 162 226 [(0, .ref 42)] [] ((m25.uF 42 20 w26).uF 42 6 (nI 1)) K)))) else WP d 139 [.int (nI 100), .int (nI 101), .int (nI 108), .int (nI 101), .int (nI 116), .int (nI 101)] m12 (fun v m15 => ∃ w16, v = some (.int w16) ∧ (if (m12.F 42 17) = w16 then WP d 159 [.ref 42] m15 (fun v m22 => v = none ∧ WP d 161 [.ref 42] m22 (fun v m23 => v = none ∧ WH (d + 1) 162 300 [(0, .ref 42)] [] m23 K)) else WP d 139 [.int (nI 115), .int (nI 101), .int (nI 108), .int (nI 101), .int (nI 99), .int (nI 116)] m15 (fun v m18 => ∃ w19, v = some (.int w19) ∧ (if (m15.F 42 17) = w19 then WP d 163 [.ref 42] m18 (fun v m21 => v = none ∧ WH (d + 1) 162 300 [(0, .ref 42)] [] m21 K) else WH (d + 1) 162 300 [(0, .ref 42)] [] (m18.uF 42 6 (nI 1)) K)))))))))))))) : WP (d + 1) 162 [.ref 42] m K := by
  have e_0 : sm_lk (lv_args 0 [.ref 42]) 0 = some (.ref 42) := rfl
  show sm_wp (d + 1) 162 0 (lv_args 0 [.ref 42]) [] (hp m) (WQ K)
  generalize lv_args 0 [.ref 42] = lv0 at *
  refine wl_ald_n (pc' := 1) rfl e_0 rfl ?_
  refine wl_ald_n (pc' := 2) rfl e_0 rfl ?_
  refine wp_get (v := .ref 44) (pc' := 5) rfl (hq_42 _) rfl rfl ?_
  refine wp_p (pc' := 6) (lv' := lv0) (st' := [.int (nI 0), .ref 44, .ref 42]) rfl rfl ?_
  obtain ⟨k1, k⟩ := k
  refine wl_iaload (g := m.A 44) (pc' := 7) rfl (hq_44 _) k1 rfl ?_
  refine wp_p (pc' := 8) (lv' := lv0) (st' := [.int (nI 1), .int ((m.A 44).getD (ix (nI 0)) 0), .ref 42]) rfl rfl ?_
  refine wp_ic_ne (pc' := 11) rfl rfl (fun c2 => ?_) (fun c2 => ?_)
  · replace k := it_f (c := ((m.A 44).getD (ix (nI 0)) 0) = (nI 1)) c2 k
    refine wp_p (pc' := 21) (lv' := lv0) (st' := [.int (nI 0), .ref 42]) rfl rfl ?_
    refine wl_put (pc' := 24) (h2 := hp (m.uF 42 17 (nI 0))) rfl (hq_42 _) rfl rfl rfl (pf_42_17 _ _) ?_
    refine wl_ald_n (pc' := 25) rfl e_0 rfl ?_
    refine wp_p (pc' := 26) (lv' := lv0) (st' := [.int (nI 1), .ref 42]) rfl rfl ?_
    refine wl_put (pc' := 29) (h2 := hp ((m.uF 42 17 (nI 0)).uF 42 5 (nI 1))) rfl (hq_42 _) rfl rfl rfl (pf_42_5 _ _) ?_
    refine wl_ald_n (pc' := 30) rfl e_0 rfl ?_
    refine wp_get (v := .int (nI 0)) (pc' := 33) rfl (hq_42 _) rfl rfl ?_
    refine wp_p (pc' := 35) (lv' := lv0) (st' := [.int (nI 99), .int (nI 0)]) rfl rfl ?_
    refine wp_p (pc' := 37) (lv' := lv0) (st' := [.int (nI 114), .int (nI 99), .int (nI 0)]) rfl rfl ?_
    refine wp_p (pc' := 39) (lv' := lv0) (st' := [.int (nI 101), .int (nI 114), .int (nI 99), .int (nI 0)]) rfl rfl ?_
    refine wp_p (pc' := 41) (lv' := lv0) (st' := [.int (nI 97), .int (nI 101), .int (nI 114), .int (nI 99), .int (nI 0)]) rfl rfl ?_
    refine wp_p (pc' := 43) (lv' := lv0) (st' := [.int (nI 116), .int (nI 97), .int (nI 101), .int (nI 114), .int (nI 99), .int (nI 0)]) rfl rfl ?_
    refine wp_p (pc' := 45) (lv' := lv0) (st' := [.int (nI 101), .int (nI 116), .int (nI 97), .int (nI 101), .int (nI 114), .int (nI 99), .int (nI 0)]) rfl rfl ?_
    refine wl_cs (As := [.int (nI 99), .int (nI 114), .int (nI 101), .int (nI 97), .int (nI 116), .int (nI 101)]) (r := [.int (nI 0)]) (pc' := 48) rfl rfl rfl rfl k ?_
    rintro _ m3 ⟨w4, rfl, k⟩
    show sm_wp (d + 1) 162 48 lv0 [.int w4, .int (nI 0)] (hp m3) (WQ K)
    refine wp_ic_ne (pc' := 51) rfl rfl (fun c5 => ?_) (fun c5 => ?_)
    · replace k := it_f (c := (nI 0) = w4) c5 k
      refine wl_ald_n (pc' := 68) rfl e_0 rfl ?_
      refine wp_get (v := .int (m3.F 42 17)) (pc' := 71) rfl (hq_42 _) rfl rfl ?_
      refine wp_p (pc' := 73) (lv' := lv0) (st' := [.int (nI 105), .int (m3.F 42 17)]) rfl rfl ?_
      refine wp_p (pc' := 75) (lv' := lv0) (st' := [.int (nI 110), .int (nI 105), .int (m3.F 42 17)]) rfl rfl ?_
      refine wp_p (pc' := 77) (lv' := lv0) (st' := [.int (nI 100), .int (nI 110), .int (nI 105), .int (m3.F 42 17)]) rfl rfl ?_
      refine wp_p (pc' := 79) (lv' := lv0) (st' := [.int (nI 101), .int (nI 100), .int (nI 110), .int (nI 105), .int (m3.F 42 17)]) rfl rfl ?_
      refine wp_p (pc' := 81) (lv' := lv0) (st' := [.int (nI 120), .int (nI 101), .int (nI 100), .int (nI 110), .int (nI 105), .int (m3.F 42 17)]) rfl rfl ?_
      refine wp_p (pc' := 82) (lv' := lv0) (st' := [.int (nI 0), .int (nI 120), .int (nI 101), .int (nI 100), .int (nI 110), .int (nI 105), .int (m3.F 42 17)]) rfl rfl ?_
      refine wl_cs (As := [.int (nI 105), .int (nI 110), .int (nI 100), .int (nI 101), .int (nI 120), .int (nI 0)]) (r := [.int (m3.F 42 17)]) (pc' := 85) rfl rfl rfl rfl k ?_
      rintro _ m6 ⟨w7, rfl, k⟩
      show sm_wp (d + 1) 162 85 lv0 [.int w7, .int (m3.F 42 17)] (hp m6) (WQ K)
      refine wp_ic_ne (pc' := 88) rfl rfl (fun c8 => ?_) (fun c8 => ?_)
      · replace k := it_f (c := (m3.F 42 17) = w7) c8 k
        refine wl_ald_n (pc' := 104) rfl e_0 rfl ?_
        refine wp_get (v := .int (m6.F 42 17)) (pc' := 107) rfl (hq_42 _) rfl rfl ?_
        refine wp_p (pc' := 109) (lv' := lv0) (st' := [.int (nI 105), .int (m6.F 42 17)]) rfl rfl ?_
        refine wp_p (pc' := 111) (lv' := lv0) (st' := [.int (nI 110), .int (nI 105), .int (m6.F 42 17)]) rfl rfl ?_
        refine wp_p (pc' := 113) (lv' := lv0) (st' := [.int (nI 115), .int (nI 110), .int (nI 105), .int (m6.F 42 17)]) rfl rfl ?_
        refine wp_p (pc' := 115) (lv' := lv0) (st' := [.int (nI 101), .int (nI 115), .int (nI 110), .int (nI 105), .int (m6.F 42 17)]) rfl rfl ?_
        refine wp_p (pc' := 117) (lv' := lv0) (st' := [.int (nI 114), .int (nI 101), .int (nI 115), .int (nI 110), .int (nI 105), .int (m6.F 42 17)]) rfl rfl ?_
        refine wp_p (pc' := 119) (lv' := lv0) (st' := [.int (nI 116), .int (nI 114), .int (nI 101), .int (nI 115), .int (nI 110), .int (nI 105), .int (m6.F 42 17)]) rfl rfl ?_
        refine wl_cs (As := [.int (nI 105), .int (nI 110), .int (nI 115), .int (nI 101), .int (nI 114), .int (nI 116)]) (r := [.int (m6.F 42 17)]) (pc' := 122) rfl rfl rfl rfl k ?_
        rintro _ m9 ⟨w10, rfl, k⟩
        show sm_wp (d + 1) 162 122 lv0 [.int w10, .int (m6.F 42 17)] (hp m9) (WQ K)
        refine wp_ic_ne (pc' := 125) rfl rfl (fun c11 => ?_) (fun c11 => ?_)
        · replace k := it_f (c := (m6.F 42 17) = w10) c11 k
          refine wl_ald_n (pc' := 157) rfl e_0 rfl ?_
          refine wp_get (v := .int (m9.F 42 17)) (pc' := 160) rfl (hq_42 _) rfl rfl ?_
          refine wp_p (pc' := 162) (lv' := lv0) (st' := [.int (nI 117), .int (m9.F 42 17)]) rfl rfl ?_
          refine wp_p (pc' := 164) (lv' := lv0) (st' := [.int (nI 112), .int (nI 117), .int (m9.F 42 17)]) rfl rfl ?_
          refine wp_p (pc' := 166) (lv' := lv0) (st' := [.int (nI 100), .int (nI 112), .int (nI 117), .int (m9.F 42 17)]) rfl rfl ?_
          refine wp_p (pc' := 168) (lv' := lv0) (st' := [.int (nI 97), .int (nI 100), .int (nI 112), .int (nI 117), .int (m9.F 42 17)]) rfl rfl ?_
          refine wp_p (pc' := 170) (lv' := lv0) (st' := [.int (nI 116), .int (nI 97), .int (nI 100), .int (nI 112), .int (nI 117), .int (m9.F 42 17)]) rfl rfl ?_
          refine wp_p (pc' := 172) (lv' := lv0) (st' := [.int (nI 101), .int (nI 116), .int (nI 97), .int (nI 100), .int (nI 112), .int (nI 117), .int (m9.F 42 17)]) rfl rfl ?_
          refine wl_cs (As := [.int (nI 117), .int (nI 112), .int (nI 100), .int (nI 97), .int (nI 116), .int (nI 101)]) (r := [.int (m9.F 42 17)]) (pc' := 175) rfl rfl rfl rfl k ?_
          rintro _ m12 ⟨w13, rfl, k⟩
          show sm_wp (d + 1) 162 175 lv0 [.int w13, .int (m9.F 42 17)] (hp m12) (WQ K)
          refine wp_ic_ne (pc' := 178) rfl rfl (fun c14 => ?_) (fun c14 => ?_)
          · replace k := it_f (c := (m9.F 42 17) = w13) c14 k
            refine wl_ald_n (pc' := 234) rfl e_0 rfl ?_
            refine wp_get (v := .int (m12.F 42 17)) (pc' := 237) rfl (hq_42 _) rfl rfl ?_
            refine wp_p (pc' := 239) (lv' := lv0) (st' := [.int (nI 100), .int (m12.F 42 17)]) rfl rfl ?_
            refine wp_p (pc' := 241) (lv' := lv0) (st' := [.int (nI 101), .int (nI 100), .int (m12.F 42 17)]) rfl rfl ?_
            refine wp_p (pc' := 243) (lv' := lv0) (st' := [.int (nI 108), .int (nI 101), .int (nI 100), .int (m12.F 42 17)]) rfl rfl ?_
            refine wp_p (pc' := 245) (lv' := lv0) (st' := [.int (nI 101), .int (nI 108), .int (nI 101), .int (nI 100), .int (m12.F 42 17)]) rfl rfl ?_
            refine wp_p (pc' := 247) (lv' := lv0) (st' := [.int (nI 116), .int (nI 101), .int (nI 108), .int (nI 101), .int (nI 100), .int (m12.F 42 17)]) rfl rfl ?_
            refine wp_p (pc' := 249) (lv' := lv0) (st' := [.int (nI 101), .int (nI 116), .int (nI 101), .int (nI 108), .int (nI 101), .int (nI 100), .int (m12.F 42 17)]) rfl rfl ?_
            refine wl_cs (As := [.int (nI 100), .int (nI 101), .int (nI 108), .int (nI 101), .int (nI 116), .int (nI 101)]) (r := [.int (m12.F 42 17)]) (pc' := 252) rfl rfl rfl rfl k ?_
            rintro _ m15 ⟨w16, rfl, k⟩
            show sm_wp (d + 1) 162 252 lv0 [.int w16, .int (m12.F 42 17)] (hp m15) (WQ K)
            refine wp_ic_ne (pc' := 255) rfl rfl (fun c17 => ?_) (fun c17 => ?_)
            · replace k := it_f (c := (m12.F 42 17) = w16) c17 k
              refine wl_ald_n (pc' := 267) rfl e_0 rfl ?_
              refine wp_get (v := .int (m15.F 42 17)) (pc' := 270) rfl (hq_42 _) rfl rfl ?_
              refine wp_p (pc' := 272) (lv' := lv0) (st' := [.int (nI 115), .int (m15.F 42 17)]) rfl rfl ?_
              refine wp_p (pc' := 274) (lv' := lv0) (st' := [.int (nI 101), .int (nI 115), .int (m15.F 42 17)]) rfl rfl ?_
              refine wp_p (pc' := 276) (lv' := lv0) (st' := [.int (nI 108), .int (nI 101), .int (nI 115), .int (m15.F 42 17)]) rfl rfl ?_
              refine wp_p (pc' := 278) (lv' := lv0) (st' := [.int (nI 101), .int (nI 108), .int (nI 101), .int (nI 115), .int (m15.F 42 17)]) rfl rfl ?_
              refine wp_p (pc' := 280) (lv' := lv0) (st' := [.int (nI 99), .int (nI 101), .int (nI 108), .int (nI 101), .int (nI 115), .int (m15.F 42 17)]) rfl rfl ?_
              refine wp_p (pc' := 282) (lv' := lv0) (st' := [.int (nI 116), .int (nI 99), .int (nI 101), .int (nI 108), .int (nI 101), .int (nI 115), .int (m15.F 42 17)]) rfl rfl ?_
              refine wl_cs (As := [.int (nI 115), .int (nI 101), .int (nI 108), .int (nI 101), .int (nI 99), .int (nI 116)]) (r := [.int (m15.F 42 17)]) (pc' := 285) rfl rfl rfl rfl k ?_
              rintro _ m18 ⟨w19, rfl, k⟩
              show sm_wp (d + 1) 162 285 lv0 [.int w19, .int (m15.F 42 17)] (hp m18) (WQ K)
              refine wp_ic_ne (pc' := 288) rfl rfl (fun c20 => ?_) (fun c20 => ?_)
              · replace k := it_f (c := (m15.F 42 17) = w19) c20 k
                refine wl_ald_n (pc' := 296) rfl e_0 rfl ?_
                refine wp_p (pc' := 297) (lv' := lv0) (st' := [.int (nI 1), .ref 42]) rfl rfl ?_
                refine wl_put (pc' := 300) (h2 := hp (m18.uF 42 6 (nI 1))) rfl (hq_42 _) rfl rfl rfl (pf_42_6 _ _) ?_
                exact k _ ⟨e_0, trivial⟩
              · replace k := it_t (c := (m15.F 42 17) = w19) c20 k
                refine wl_ald_n (pc' := 289) rfl e_0 rfl ?_
                refine wl_cv (As := [.ref 42]) (r := []) (pc' := 292) rfl rfl rfl k ?_
                rintro _ m21 ⟨rfl, k⟩
                show sm_wp (d + 1) 162 292 lv0 [] (hp m21) (WQ K)
                refine wp_p (pc' := 300) (lv' := lv0) (st' := []) rfl rfl ?_
                exact k _ ⟨e_0, trivial⟩
            · replace k := it_t (c := (m12.F 42 17) = w16) c17 k
              refine wl_ald_n (pc' := 256) rfl e_0 rfl ?_
              refine wl_cv (As := [.ref 42]) (r := []) (pc' := 259) rfl rfl rfl k ?_
              rintro _ m22 ⟨rfl, k⟩
              show sm_wp (d + 1) 162 259 lv0 [] (hp m22) (WQ K)
              refine wl_ald_n (pc' := 260) rfl e_0 rfl ?_
              refine wl_cv (As := [.ref 42]) (r := []) (pc' := 263) rfl rfl rfl k ?_
              rintro _ m23 ⟨rfl, k⟩
              show sm_wp (d + 1) 162 263 lv0 [] (hp m23) (WQ K)
              refine wp_p (pc' := 300) (lv' := lv0) (st' := []) rfl rfl ?_
              exact k _ ⟨e_0, trivial⟩
          · replace k := it_t (c := (m9.F 42 17) = w13) c14 k
            refine wl_ald_n (pc' := 179) rfl e_0 rfl ?_
            refine wl_cv (As := [.ref 42]) (r := []) (pc' := 182) rfl rfl rfl k ?_
            rintro _ m24 ⟨rfl, k⟩
            show sm_wp (d + 1) 162 182 lv0 [] (hp m24) (WQ K)
            refine wl_ald_n (pc' := 183) rfl e_0 rfl ?_
            refine wl_ald_n (pc' := 184) rfl e_0 rfl ?_
            refine wl_cv (As := [.ref 42]) (r := [.ref 42]) (pc' := 187) rfl rfl rfl k ?_
            rintro _ m25 ⟨w26, rfl, k⟩
            show sm_wp (d + 1) 162 187 lv0 [.int w26, .ref 42] (hp m25) (WQ K)
            refine wl_put (pc' := 190) (h2 := hp (m25.uF 42 20 w26)) rfl (hq_42 _) rfl rfl rfl (pf_42_20 _ _) ?_
            refine wl_ald_n (pc' := 191) rfl e_0 rfl ?_
            refine wl_ald_n (pc' := 192) rfl e_0 rfl ?_
            refine wp_get (v := .int (m25.F 42 6)) (pc' := 195) rfl (hq_42 _) rfl rfl ?_
            refine wp_if_ne (pc' := 198) rfl rfl (fun c27 => ?_) (fun c27 => ?_)
            · replace k := it_f (c := (m25.F 42 6) = (nI 0)) c27 k
              refine wp_p (pc' := 208) (lv' := lv0) (st' := [.int (nI 1), .ref 42]) rfl rfl ?_
              refine wp_p (pc' := 212) (lv' := lv0) (st' := [.int (nI 1), .ref 42]) rfl rfl ?_
              refine wl_put (pc' := 215) (h2 := hp ((m25.uF 42 20 w26).uF 42 6 (nI 1))) rfl (hq_42 _) rfl rfl rfl (pf_42_6 _ _) ?_
              refine wl_ald_n (pc' := 216) rfl e_0 rfl ?_
              refine wp_get (v := .int (nI 1)) (pc' := 219) rfl (hq_42 _) rfl rfl ?_
              refine wp_if_ne (pc' := 222) rfl rfl (fun c28 => ?_) (fun c28 => ?_)
              · replace k := it_f (c := (nI 1) = (nI 0)) c28 k
                exact k _ ⟨e_0, trivial⟩
              · replace k := it_t (c := (nI 1) = (nI 0)) c28 k
                refine wl_ald_n (pc' := 223) rfl e_0 rfl ?_
                refine wl_cv (As := [.ref 42]) (r := []) (pc' := 226) rfl rfl rfl k ?_
                rintro _ m29 ⟨rfl, k⟩
                show sm_wp (d + 1) 162 226 lv0 [] (hp m29) (WQ K)
                exact k _ ⟨e_0, trivial⟩
            · replace k := it_t (c := (m25.F 42 6) = (nI 0)) c27 k
              refine wl_ald_n (pc' := 199) rfl e_0 rfl ?_
              refine wp_p (pc' := 201) (lv' := lv0) (st' := [.int (nI 61), .ref 42, .ref 42]) rfl rfl ?_
              refine wl_cv (As := [.ref 42, .int (nI 61)]) (r := [.ref 42]) (pc' := 204) rfl rfl rfl k ?_
              rintro _ m30 ⟨w31, rfl, k⟩
              show sm_wp (d + 1) 162 204 lv0 [.int w31, .ref 42] (hp m30) (WQ K)
              refine wp_if_ne (pc' := 207) rfl rfl (fun c32 => ?_) (fun c32 => ?_)
              · replace k := it_f (c := w31 = (nI 0)) c32 k
                refine wp_p (pc' := 212) (lv' := lv0) (st' := [.int (nI 0), .ref 42]) rfl rfl ?_
                refine wl_put (pc' := 215) (h2 := hp (m30.uF 42 6 (nI 0))) rfl (hq_42 _) rfl rfl rfl (pf_42_6 _ _) ?_
                refine wl_ald_n (pc' := 216) rfl e_0 rfl ?_
                refine wp_get (v := .int (nI 0)) (pc' := 219) rfl (hq_42 _) rfl rfl ?_
                refine wp_if_ne (pc' := 222) rfl rfl (fun c33 => ?_) (fun c33 => ?_)
                · replace k := it_f (c := (nI 0) = (nI 0)) c33 k
                  exact k _ ⟨e_0, trivial⟩
                · replace k := it_t (c := (nI 0) = (nI 0)) c33 k
                  refine wl_ald_n (pc' := 223) rfl e_0 rfl ?_
                  refine wl_cv (As := [.ref 42]) (r := []) (pc' := 226) rfl rfl rfl k ?_
                  rintro _ m34 ⟨rfl, k⟩
                  show sm_wp (d + 1) 162 226 lv0 [] (hp m34) (WQ K)
                  exact k _ ⟨e_0, trivial⟩
              · replace k := it_t (c := w31 = (nI 0)) c32 k
                refine wp_p (pc' := 208) (lv' := lv0) (st' := [.int (nI 1), .ref 42]) rfl rfl ?_
                refine wp_p (pc' := 212) (lv' := lv0) (st' := [.int (nI 1), .ref 42]) rfl rfl ?_
                refine wl_put (pc' := 215) (h2 := hp (m30.uF 42 6 (nI 1))) rfl (hq_42 _) rfl rfl rfl (pf_42_6 _ _) ?_
                refine wl_ald_n (pc' := 216) rfl e_0 rfl ?_
                refine wp_get (v := .int (nI 1)) (pc' := 219) rfl (hq_42 _) rfl rfl ?_
                refine wp_if_ne (pc' := 222) rfl rfl (fun c35 => ?_) (fun c35 => ?_)
                · replace k := it_f (c := (nI 1) = (nI 0)) c35 k
                  exact k _ ⟨e_0, trivial⟩
                · replace k := it_t (c := (nI 1) = (nI 0)) c35 k
                  refine wl_ald_n (pc' := 223) rfl e_0 rfl ?_
                  refine wl_cv (As := [.ref 42]) (r := []) (pc' := 226) rfl rfl rfl k ?_
                  rintro _ m36 ⟨rfl, k⟩
                  show sm_wp (d + 1) 162 226 lv0 [] (hp m36) (WQ K)
                  exact k _ ⟨e_0, trivial⟩
        · replace k := it_t (c := (m6.F 42 17) = w10) c11 k
          refine wl_ald_n (pc' := 126) rfl e_0 rfl ?_
          refine wl_cv (As := [.ref 42]) (r := []) (pc' := 129) rfl rfl rfl k ?_
          rintro _ m37 ⟨rfl, k⟩
          show sm_wp (d + 1) 162 129 lv0 [] (hp m37) (WQ K)
          refine wl_ald_n (pc' := 130) rfl e_0 rfl ?_
          refine wl_cv (As := [.ref 42]) (r := []) (pc' := 133) rfl rfl rfl k ?_
          rintro _ m38 ⟨rfl, k⟩
          show sm_wp (d + 1) 162 133 lv0 [] (hp m38) (WQ K)
          exact k _ ⟨e_0, trivial⟩
      · replace k := it_t (c := (m3.F 42 17) = w7) c8 k
        refine wl_ald_n (pc' := 89) rfl e_0 rfl ?_
        refine wl_cv (As := [.ref 42]) (r := []) (pc' := 92) rfl rfl rfl k ?_
        rintro _ m39 ⟨rfl, k⟩
        show sm_wp (d + 1) 162 92 lv0 [] (hp m39) (WQ K)
        refine wl_ald_n (pc' := 93) rfl e_0 rfl ?_
        refine wl_ald_n (pc' := 94) rfl e_0 rfl ?_
        refine wl_cv (As := [.ref 42]) (r := [.ref 42]) (pc' := 97) rfl rfl rfl k ?_
        rintro _ m40 ⟨w41, rfl, k⟩
        show sm_wp (d + 1) 162 97 lv0 [.int w41, .ref 42] (hp m40) (WQ K)
        refine wl_put (pc' := 100) (h2 := hp (m40.uF 42 20 w41)) rfl (hq_42 _) rfl rfl rfl (pf_42_20 _ _) ?_
        refine wp_p (pc' := 300) (lv' := lv0) (st' := []) rfl rfl ?_
        exact k _ ⟨e_0, trivial⟩
    · replace k := it_t (c := (nI 0) = w4) c5 k
      refine wl_ald_n (pc' := 52) rfl e_0 rfl ?_
      refine wl_cv (As := [.ref 42]) (r := []) (pc' := 55) rfl rfl rfl k ?_
      rintro _ m42 ⟨rfl, k⟩
      show sm_wp (d + 1) 162 55 lv0 [] (hp m42) (WQ K)
      refine wl_ald_n (pc' := 56) rfl e_0 rfl ?_
      refine wl_ald_n (pc' := 57) rfl e_0 rfl ?_
      refine wp_p (pc' := 58) (lv' := lv0) (st' := [.int (nI 3), .ref 42, .ref 42]) rfl rfl ?_
      refine wl_cv (As := [.ref 42, .int (nI 3)]) (r := [.ref 42]) (pc' := 61) rfl rfl rfl k ?_
      rintro _ m43 ⟨w44, rfl, k⟩
      show sm_wp (d + 1) 162 61 lv0 [.int w44, .ref 42] (hp m43) (WQ K)
      refine wl_put (pc' := 64) (h2 := hp (m43.uF 42 21 w44)) rfl (hq_42 _) rfl rfl rfl (pf_42_21 _ _) ?_
      refine wp_p (pc' := 300) (lv' := lv0) (st' := []) rfl rfl ?_
      exact k _ ⟨e_0, trivial⟩
  · replace k := it_t (c := ((m.A 44).getD (ix (nI 0)) 0) = (nI 1)) c2 k
    refine wl_ald_n (pc' := 12) rfl e_0 rfl ?_
    refine wp_get (v := .ref 45) (pc' := 15) rfl (hq_42 _) rfl rfl ?_
    refine wp_p (pc' := 16) (lv' := lv0) (st' := [.int (nI 0), .ref 45, .ref 42]) rfl rfl ?_
    obtain ⟨k45, k⟩ := k
    refine wl_iaload (g := m.A 45) (pc' := 17) rfl (hq_45 _) k45 rfl ?_
    refine wp_p (pc' := 21) (lv' := lv0) (st' := [.int ((m.A 45).getD (ix (nI 0)) 0), .ref 42]) rfl rfl ?_
    refine wl_put (pc' := 24) (h2 := hp (m.uF 42 17 ((m.A 45).getD (ix (nI 0)) 0))) rfl (hq_42 _) rfl rfl rfl (pf_42_17 _ _) ?_
    refine wl_ald_n (pc' := 25) rfl e_0 rfl ?_
    refine wp_p (pc' := 26) (lv' := lv0) (st' := [.int (nI 1), .ref 42]) rfl rfl ?_
    refine wl_put (pc' := 29) (h2 := hp ((m.uF 42 17 ((m.A 45).getD (ix (nI 0)) 0)).uF 42 5 (nI 1))) rfl (hq_42 _) rfl rfl rfl (pf_42_5 _ _) ?_
    refine wl_ald_n (pc' := 30) rfl e_0 rfl ?_
    refine wp_get (v := .int ((m.A 45).getD (ix (nI 0)) 0)) (pc' := 33) rfl (hq_42 _) rfl rfl ?_
    refine wp_p (pc' := 35) (lv' := lv0) (st' := [.int (nI 99), .int ((m.A 45).getD (ix (nI 0)) 0)]) rfl rfl ?_
    refine wp_p (pc' := 37) (lv' := lv0) (st' := [.int (nI 114), .int (nI 99), .int ((m.A 45).getD (ix (nI 0)) 0)]) rfl rfl ?_
    refine wp_p (pc' := 39) (lv' := lv0) (st' := [.int (nI 101), .int (nI 114), .int (nI 99), .int ((m.A 45).getD (ix (nI 0)) 0)]) rfl rfl ?_
    refine wp_p (pc' := 41) (lv' := lv0) (st' := [.int (nI 97), .int (nI 101), .int (nI 114), .int (nI 99), .int ((m.A 45).getD (ix (nI 0)) 0)]) rfl rfl ?_
    refine wp_p (pc' := 43) (lv' := lv0) (st' := [.int (nI 116), .int (nI 97), .int (nI 101), .int (nI 114), .int (nI 99), .int ((m.A 45).getD (ix (nI 0)) 0)]) rfl rfl ?_
    refine wp_p (pc' := 45) (lv' := lv0) (st' := [.int (nI 101), .int (nI 116), .int (nI 97), .int (nI 101), .int (nI 114), .int (nI 99), .int ((m.A 45).getD (ix (nI 0)) 0)]) rfl rfl ?_
    refine wl_cs (As := [.int (nI 99), .int (nI 114), .int (nI 101), .int (nI 97), .int (nI 116), .int (nI 101)]) (r := [.int ((m.A 45).getD (ix (nI 0)) 0)]) (pc' := 48) rfl rfl rfl rfl k ?_
    rintro _ m46 ⟨w47, rfl, k⟩
    show sm_wp (d + 1) 162 48 lv0 [.int w47, .int ((m.A 45).getD (ix (nI 0)) 0)] (hp m46) (WQ K)
    refine wp_ic_ne (pc' := 51) rfl rfl (fun c48 => ?_) (fun c48 => ?_)
    · replace k := it_f (c := ((m.A 45).getD (ix (nI 0)) 0) = w47) c48 k
      refine wl_ald_n (pc' := 68) rfl e_0 rfl ?_
      refine wp_get (v := .int (m46.F 42 17)) (pc' := 71) rfl (hq_42 _) rfl rfl ?_
      refine wp_p (pc' := 73) (lv' := lv0) (st' := [.int (nI 105), .int (m46.F 42 17)]) rfl rfl ?_
      refine wp_p (pc' := 75) (lv' := lv0) (st' := [.int (nI 110), .int (nI 105), .int (m46.F 42 17)]) rfl rfl ?_
      refine wp_p (pc' := 77) (lv' := lv0) (st' := [.int (nI 100), .int (nI 110), .int (nI 105), .int (m46.F 42 17)]) rfl rfl ?_
      refine wp_p (pc' := 79) (lv' := lv0) (st' := [.int (nI 101), .int (nI 100), .int (nI 110), .int (nI 105), .int (m46.F 42 17)]) rfl rfl ?_
      refine wp_p (pc' := 81) (lv' := lv0) (st' := [.int (nI 120), .int (nI 101), .int (nI 100), .int (nI 110), .int (nI 105), .int (m46.F 42 17)]) rfl rfl ?_
      refine wp_p (pc' := 82) (lv' := lv0) (st' := [.int (nI 0), .int (nI 120), .int (nI 101), .int (nI 100), .int (nI 110), .int (nI 105), .int (m46.F 42 17)]) rfl rfl ?_
      refine wl_cs (As := [.int (nI 105), .int (nI 110), .int (nI 100), .int (nI 101), .int (nI 120), .int (nI 0)]) (r := [.int (m46.F 42 17)]) (pc' := 85) rfl rfl rfl rfl k ?_
      rintro _ m49 ⟨w50, rfl, k⟩
      show sm_wp (d + 1) 162 85 lv0 [.int w50, .int (m46.F 42 17)] (hp m49) (WQ K)
      refine wp_ic_ne (pc' := 88) rfl rfl (fun c51 => ?_) (fun c51 => ?_)
      · replace k := it_f (c := (m46.F 42 17) = w50) c51 k
        refine wl_ald_n (pc' := 104) rfl e_0 rfl ?_
        refine wp_get (v := .int (m49.F 42 17)) (pc' := 107) rfl (hq_42 _) rfl rfl ?_
        refine wp_p (pc' := 109) (lv' := lv0) (st' := [.int (nI 105), .int (m49.F 42 17)]) rfl rfl ?_
        refine wp_p (pc' := 111) (lv' := lv0) (st' := [.int (nI 110), .int (nI 105), .int (m49.F 42 17)]) rfl rfl ?_
        refine wp_p (pc' := 113) (lv' := lv0) (st' := [.int (nI 115), .int (nI 110), .int (nI 105), .int (m49.F 42 17)]) rfl rfl ?_
        refine wp_p (pc' := 115) (lv' := lv0) (st' := [.int (nI 101), .int (nI 115), .int (nI 110), .int (nI 105), .int (m49.F 42 17)]) rfl rfl ?_
        refine wp_p (pc' := 117) (lv' := lv0) (st' := [.int (nI 114), .int (nI 101), .int (nI 115), .int (nI 110), .int (nI 105), .int (m49.F 42 17)]) rfl rfl ?_
        refine wp_p (pc' := 119) (lv' := lv0) (st' := [.int (nI 116), .int (nI 114), .int (nI 101), .int (nI 115), .int (nI 110), .int (nI 105), .int (m49.F 42 17)]) rfl rfl ?_
        refine wl_cs (As := [.int (nI 105), .int (nI 110), .int (nI 115), .int (nI 101), .int (nI 114), .int (nI 116)]) (r := [.int (m49.F 42 17)]) (pc' := 122) rfl rfl rfl rfl k ?_
        rintro _ m52 ⟨w53, rfl, k⟩
        show sm_wp (d + 1) 162 122 lv0 [.int w53, .int (m49.F 42 17)] (hp m52) (WQ K)
        refine wp_ic_ne (pc' := 125) rfl rfl (fun c54 => ?_) (fun c54 => ?_)
        · replace k := it_f (c := (m49.F 42 17) = w53) c54 k
          refine wl_ald_n (pc' := 157) rfl e_0 rfl ?_
          refine wp_get (v := .int (m52.F 42 17)) (pc' := 160) rfl (hq_42 _) rfl rfl ?_
          refine wp_p (pc' := 162) (lv' := lv0) (st' := [.int (nI 117), .int (m52.F 42 17)]) rfl rfl ?_
          refine wp_p (pc' := 164) (lv' := lv0) (st' := [.int (nI 112), .int (nI 117), .int (m52.F 42 17)]) rfl rfl ?_
          refine wp_p (pc' := 166) (lv' := lv0) (st' := [.int (nI 100), .int (nI 112), .int (nI 117), .int (m52.F 42 17)]) rfl rfl ?_
          refine wp_p (pc' := 168) (lv' := lv0) (st' := [.int (nI 97), .int (nI 100), .int (nI 112), .int (nI 117), .int (m52.F 42 17)]) rfl rfl ?_
          refine wp_p (pc' := 170) (lv' := lv0) (st' := [.int (nI 116), .int (nI 97), .int (nI 100), .int (nI 112), .int (nI 117), .int (m52.F 42 17)]) rfl rfl ?_
          refine wp_p (pc' := 172) (lv' := lv0) (st' := [.int (nI 101), .int (nI 116), .int (nI 97), .int (nI 100), .int (nI 112), .int (nI 117), .int (m52.F 42 17)]) rfl rfl ?_
          refine wl_cs (As := [.int (nI 117), .int (nI 112), .int (nI 100), .int (nI 97), .int (nI 116), .int (nI 101)]) (r := [.int (m52.F 42 17)]) (pc' := 175) rfl rfl rfl rfl k ?_
          rintro _ m55 ⟨w56, rfl, k⟩
          show sm_wp (d + 1) 162 175 lv0 [.int w56, .int (m52.F 42 17)] (hp m55) (WQ K)
          refine wp_ic_ne (pc' := 178) rfl rfl (fun c57 => ?_) (fun c57 => ?_)
          · replace k := it_f (c := (m52.F 42 17) = w56) c57 k
            refine wl_ald_n (pc' := 234) rfl e_0 rfl ?_
            refine wp_get (v := .int (m55.F 42 17)) (pc' := 237) rfl (hq_42 _) rfl rfl ?_
            refine wp_p (pc' := 239) (lv' := lv0) (st' := [.int (nI 100), .int (m55.F 42 17)]) rfl rfl ?_
            refine wp_p (pc' := 241) (lv' := lv0) (st' := [.int (nI 101), .int (nI 100), .int (m55.F 42 17)]) rfl rfl ?_
            refine wp_p (pc' := 243) (lv' := lv0) (st' := [.int (nI 108), .int (nI 101), .int (nI 100), .int (m55.F 42 17)]) rfl rfl ?_
            refine wp_p (pc' := 245) (lv' := lv0) (st' := [.int (nI 101), .int (nI 108), .int (nI 101), .int (nI 100), .int (m55.F 42 17)]) rfl rfl ?_
            refine wp_p (pc' := 247) (lv' := lv0) (st' := [.int (nI 116), .int (nI 101), .int (nI 108), .int (nI 101), .int (nI 100), .int (m55.F 42 17)]) rfl rfl ?_
            refine wp_p (pc' := 249) (lv' := lv0) (st' := [.int (nI 101), .int (nI 116), .int (nI 101), .int (nI 108), .int (nI 101), .int (nI 100), .int (m55.F 42 17)]) rfl rfl ?_
            refine wl_cs (As := [.int (nI 100), .int (nI 101), .int (nI 108), .int (nI 101), .int (nI 116), .int (nI 101)]) (r := [.int (m55.F 42 17)]) (pc' := 252) rfl rfl rfl rfl k ?_
            rintro _ m58 ⟨w59, rfl, k⟩
            show sm_wp (d + 1) 162 252 lv0 [.int w59, .int (m55.F 42 17)] (hp m58) (WQ K)
            refine wp_ic_ne (pc' := 255) rfl rfl (fun c60 => ?_) (fun c60 => ?_)
            · replace k := it_f (c := (m55.F 42 17) = w59) c60 k
              refine wl_ald_n (pc' := 267) rfl e_0 rfl ?_
              refine wp_get (v := .int (m58.F 42 17)) (pc' := 270) rfl (hq_42 _) rfl rfl ?_
              refine wp_p (pc' := 272) (lv' := lv0) (st' := [.int (nI 115), .int (m58.F 42 17)]) rfl rfl ?_
              refine wp_p (pc' := 274) (lv' := lv0) (st' := [.int (nI 101), .int (nI 115), .int (m58.F 42 17)]) rfl rfl ?_
              refine wp_p (pc' := 276) (lv' := lv0) (st' := [.int (nI 108), .int (nI 101), .int (nI 115), .int (m58.F 42 17)]) rfl rfl ?_
              refine wp_p (pc' := 278) (lv' := lv0) (st' := [.int (nI 101), .int (nI 108), .int (nI 101), .int (nI 115), .int (m58.F 42 17)]) rfl rfl ?_
              refine wp_p (pc' := 280) (lv' := lv0) (st' := [.int (nI 99), .int (nI 101), .int (nI 108), .int (nI 101), .int (nI 115), .int (m58.F 42 17)]) rfl rfl ?_
              refine wp_p (pc' := 282) (lv' := lv0) (st' := [.int (nI 116), .int (nI 99), .int (nI 101), .int (nI 108), .int (nI 101), .int (nI 115), .int (m58.F 42 17)]) rfl rfl ?_
              refine wl_cs (As := [.int (nI 115), .int (nI 101), .int (nI 108), .int (nI 101), .int (nI 99), .int (nI 116)]) (r := [.int (m58.F 42 17)]) (pc' := 285) rfl rfl rfl rfl k ?_
              rintro _ m61 ⟨w62, rfl, k⟩
              show sm_wp (d + 1) 162 285 lv0 [.int w62, .int (m58.F 42 17)] (hp m61) (WQ K)
              refine wp_ic_ne (pc' := 288) rfl rfl (fun c63 => ?_) (fun c63 => ?_)
              · replace k := it_f (c := (m58.F 42 17) = w62) c63 k
                refine wl_ald_n (pc' := 296) rfl e_0 rfl ?_
                refine wp_p (pc' := 297) (lv' := lv0) (st' := [.int (nI 1), .ref 42]) rfl rfl ?_
                refine wl_put (pc' := 300) (h2 := hp (m61.uF 42 6 (nI 1))) rfl (hq_42 _) rfl rfl rfl (pf_42_6 _ _) ?_
                exact k _ ⟨e_0, trivial⟩
              · replace k := it_t (c := (m58.F 42 17) = w62) c63 k
                refine wl_ald_n (pc' := 289) rfl e_0 rfl ?_
                refine wl_cv (As := [.ref 42]) (r := []) (pc' := 292) rfl rfl rfl k ?_
                rintro _ m64 ⟨rfl, k⟩
                show sm_wp (d + 1) 162 292 lv0 [] (hp m64) (WQ K)
                refine wp_p (pc' := 300) (lv' := lv0) (st' := []) rfl rfl ?_
                exact k _ ⟨e_0, trivial⟩
            · replace k := it_t (c := (m55.F 42 17) = w59) c60 k
              refine wl_ald_n (pc' := 256) rfl e_0 rfl ?_
              refine wl_cv (As := [.ref 42]) (r := []) (pc' := 259) rfl rfl rfl k ?_
              rintro _ m65 ⟨rfl, k⟩
              show sm_wp (d + 1) 162 259 lv0 [] (hp m65) (WQ K)
              refine wl_ald_n (pc' := 260) rfl e_0 rfl ?_
              refine wl_cv (As := [.ref 42]) (r := []) (pc' := 263) rfl rfl rfl k ?_
              rintro _ m66 ⟨rfl, k⟩
              show sm_wp (d + 1) 162 263 lv0 [] (hp m66) (WQ K)
              refine wp_p (pc' := 300) (lv' := lv0) (st' := []) rfl rfl ?_
              exact k _ ⟨e_0, trivial⟩
          · replace k := it_t (c := (m52.F 42 17) = w56) c57 k
            refine wl_ald_n (pc' := 179) rfl e_0 rfl ?_
            refine wl_cv (As := [.ref 42]) (r := []) (pc' := 182) rfl rfl rfl k ?_
            rintro _ m67 ⟨rfl, k⟩
            show sm_wp (d + 1) 162 182 lv0 [] (hp m67) (WQ K)
            refine wl_ald_n (pc' := 183) rfl e_0 rfl ?_
            refine wl_ald_n (pc' := 184) rfl e_0 rfl ?_
            refine wl_cv (As := [.ref 42]) (r := [.ref 42]) (pc' := 187) rfl rfl rfl k ?_
            rintro _ m68 ⟨w69, rfl, k⟩
            show sm_wp (d + 1) 162 187 lv0 [.int w69, .ref 42] (hp m68) (WQ K)
            refine wl_put (pc' := 190) (h2 := hp (m68.uF 42 20 w69)) rfl (hq_42 _) rfl rfl rfl (pf_42_20 _ _) ?_
            refine wl_ald_n (pc' := 191) rfl e_0 rfl ?_
            refine wl_ald_n (pc' := 192) rfl e_0 rfl ?_
            refine wp_get (v := .int (m68.F 42 6)) (pc' := 195) rfl (hq_42 _) rfl rfl ?_
            refine wp_if_ne (pc' := 198) rfl rfl (fun c70 => ?_) (fun c70 => ?_)
            · replace k := it_f (c := (m68.F 42 6) = (nI 0)) c70 k
              refine wp_p (pc' := 208) (lv' := lv0) (st' := [.int (nI 1), .ref 42]) rfl rfl ?_
              refine wp_p (pc' := 212) (lv' := lv0) (st' := [.int (nI 1), .ref 42]) rfl rfl ?_
              refine wl_put (pc' := 215) (h2 := hp ((m68.uF 42 20 w69).uF 42 6 (nI 1))) rfl (hq_42 _) rfl rfl rfl (pf_42_6 _ _) ?_
              refine wl_ald_n (pc' := 216) rfl e_0 rfl ?_
              refine wp_get (v := .int (nI 1)) (pc' := 219) rfl (hq_42 _) rfl rfl ?_
              refine wp_if_ne (pc' := 222) rfl rfl (fun c71 => ?_) (fun c71 => ?_)
              · replace k := it_f (c := (nI 1) = (nI 0)) c71 k
                exact k _ ⟨e_0, trivial⟩
              · replace k := it_t (c := (nI 1) = (nI 0)) c71 k
                refine wl_ald_n (pc' := 223) rfl e_0 rfl ?_
                refine wl_cv (As := [.ref 42]) (r := []) (pc' := 226) rfl rfl rfl k ?_
                rintro _ m72 ⟨rfl, k⟩
                show sm_wp (d + 1) 162 226 lv0 [] (hp m72) (WQ K)
                exact k _ ⟨e_0, trivial⟩
            · replace k := it_t (c := (m68.F 42 6) = (nI 0)) c70 k
              refine wl_ald_n (pc' := 199) rfl e_0 rfl ?_
              refine wp_p (pc' := 201) (lv' := lv0) (st' := [.int (nI 61), .ref 42, .ref 42]) rfl rfl ?_
              refine wl_cv (As := [.ref 42, .int (nI 61)]) (r := [.ref 42]) (pc' := 204) rfl rfl rfl k ?_
              rintro _ m73 ⟨w74, rfl, k⟩
              show sm_wp (d + 1) 162 204 lv0 [.int w74, .ref 42] (hp m73) (WQ K)
              refine wp_if_ne (pc' := 207) rfl rfl (fun c75 => ?_) (fun c75 => ?_)
              · replace k := it_f (c := w74 = (nI 0)) c75 k
                refine wp_p (pc' := 212) (lv' := lv0) (st' := [.int (nI 0), .ref 42]) rfl rfl ?_
                refine wl_put (pc' := 215) (h2 := hp (m73.uF 42 6 (nI 0))) rfl (hq_42 _) rfl rfl rfl (pf_42_6 _ _) ?_
                refine wl_ald_n (pc' := 216) rfl e_0 rfl ?_
                refine wp_get (v := .int (nI 0)) (pc' := 219) rfl (hq_42 _) rfl rfl ?_
                refine wp_if_ne (pc' := 222) rfl rfl (fun c76 => ?_) (fun c76 => ?_)
                · replace k := it_f (c := (nI 0) = (nI 0)) c76 k
                  exact k _ ⟨e_0, trivial⟩
                · replace k := it_t (c := (nI 0) = (nI 0)) c76 k
                  refine wl_ald_n (pc' := 223) rfl e_0 rfl ?_
                  refine wl_cv (As := [.ref 42]) (r := []) (pc' := 226) rfl rfl rfl k ?_
                  rintro _ m77 ⟨rfl, k⟩
                  show sm_wp (d + 1) 162 226 lv0 [] (hp m77) (WQ K)
                  exact k _ ⟨e_0, trivial⟩
              · replace k := it_t (c := w74 = (nI 0)) c75 k
                refine wp_p (pc' := 208) (lv' := lv0) (st' := [.int (nI 1), .ref 42]) rfl rfl ?_
                refine wp_p (pc' := 212) (lv' := lv0) (st' := [.int (nI 1), .ref 42]) rfl rfl ?_
                refine wl_put (pc' := 215) (h2 := hp (m73.uF 42 6 (nI 1))) rfl (hq_42 _) rfl rfl rfl (pf_42_6 _ _) ?_
                refine wl_ald_n (pc' := 216) rfl e_0 rfl ?_
                refine wp_get (v := .int (nI 1)) (pc' := 219) rfl (hq_42 _) rfl rfl ?_
                refine wp_if_ne (pc' := 222) rfl rfl (fun c78 => ?_) (fun c78 => ?_)
                · replace k := it_f (c := (nI 1) = (nI 0)) c78 k
                  exact k _ ⟨e_0, trivial⟩
                · replace k := it_t (c := (nI 1) = (nI 0)) c78 k
                  refine wl_ald_n (pc' := 223) rfl e_0 rfl ?_
                  refine wl_cv (As := [.ref 42]) (r := []) (pc' := 226) rfl rfl rfl k ?_
                  rintro _ m79 ⟨rfl, k⟩
                  show sm_wp (d + 1) 162 226 lv0 [] (hp m79) (WQ K)
                  exact k _ ⟨e_0, trivial⟩
        · replace k := it_t (c := (m49.F 42 17) = w53) c54 k
          refine wl_ald_n (pc' := 126) rfl e_0 rfl ?_
          refine wl_cv (As := [.ref 42]) (r := []) (pc' := 129) rfl rfl rfl k ?_
          rintro _ m80 ⟨rfl, k⟩
          show sm_wp (d + 1) 162 129 lv0 [] (hp m80) (WQ K)
          refine wl_ald_n (pc' := 130) rfl e_0 rfl ?_
          refine wl_cv (As := [.ref 42]) (r := []) (pc' := 133) rfl rfl rfl k ?_
          rintro _ m81 ⟨rfl, k⟩
          show sm_wp (d + 1) 162 133 lv0 [] (hp m81) (WQ K)
          exact k _ ⟨e_0, trivial⟩
      · replace k := it_t (c := (m46.F 42 17) = w50) c51 k
        refine wl_ald_n (pc' := 89) rfl e_0 rfl ?_
        refine wl_cv (As := [.ref 42]) (r := []) (pc' := 92) rfl rfl rfl k ?_
        rintro _ m82 ⟨rfl, k⟩
        show sm_wp (d + 1) 162 92 lv0 [] (hp m82) (WQ K)
        refine wl_ald_n (pc' := 93) rfl e_0 rfl ?_
        refine wl_ald_n (pc' := 94) rfl e_0 rfl ?_
        refine wl_cv (As := [.ref 42]) (r := [.ref 42]) (pc' := 97) rfl rfl rfl k ?_
        rintro _ m83 ⟨w84, rfl, k⟩
        show sm_wp (d + 1) 162 97 lv0 [.int w84, .ref 42] (hp m83) (WQ K)
        refine wl_put (pc' := 100) (h2 := hp (m83.uF 42 20 w84)) rfl (hq_42 _) rfl rfl rfl (pf_42_20 _ _) ?_
        refine wp_p (pc' := 300) (lv' := lv0) (st' := []) rfl rfl ?_
        exact k _ ⟨e_0, trivial⟩
    · replace k := it_t (c := ((m.A 45).getD (ix (nI 0)) 0) = w47) c48 k
      refine wl_ald_n (pc' := 52) rfl e_0 rfl ?_
      refine wl_cv (As := [.ref 42]) (r := []) (pc' := 55) rfl rfl rfl k ?_
      rintro _ m85 ⟨rfl, k⟩
      show sm_wp (d + 1) 162 55 lv0 [] (hp m85) (WQ K)
      refine wl_ald_n (pc' := 56) rfl e_0 rfl ?_
      refine wl_ald_n (pc' := 57) rfl e_0 rfl ?_
      refine wp_p (pc' := 58) (lv' := lv0) (st' := [.int (nI 3), .ref 42, .ref 42]) rfl rfl ?_
      refine wl_cv (As := [.ref 42, .int (nI 3)]) (r := [.ref 42]) (pc' := 61) rfl rfl rfl k ?_
      rintro _ m86 ⟨w87, rfl, k⟩
      show sm_wp (d + 1) 162 61 lv0 [.int w87, .ref 42] (hp m86) (WQ K)
      refine wl_put (pc' := 64) (h2 := hp (m86.uF 42 21 w87)) rfl (hq_42 _) rfl rfl rfl (pf_42_21 _ _) ?_
      refine wp_p (pc' := 300) (lv' := lv0) (st' := []) rfl rfl ?_
      exact k _ ⟨e_0, trivial⟩
set_option maxRecDepth 20000 in
theorem sg_162_300 {d : Nat} {m : Mm} {K : Option Value → Mm → Prop} (k : (if (m.F 42 6) = (nI 0) then (if (m.F 42 5) = (m.F 42 2) then K none (m.uF 42 6 (nI 0)) else K none (m.uF 42 6 (nI 1))) else K none (m.uF 42 6 (nI 1)))) : WH d 162 300 [(0, .ref 42)] [] m K := by
  intro lv0 el
  obtain ⟨e_0, _⟩ := el
  refine wl_ald_n (pc' := 301) rfl e_0 rfl ?_
  refine wl_ald_n (pc' := 302) rfl e_0 rfl ?_
  refine wp_get (v := .int (m.F 42 6)) (pc' := 305) rfl (hq_42 _) rfl rfl ?_
  refine wp_if_ne (pc' := 308) rfl rfl (fun c1 => ?_) (fun c1 => ?_)
  · replace k := it_f (c := (m.F 42 6) = (nI 0)) c1 k
    refine wp_p (pc' := 320) (lv' := lv0) (st' := [.int (nI 1), .ref 42]) rfl rfl ?_
    refine wp_p (pc' := 324) (lv' := lv0) (st' := [.int (nI 1), .ref 42]) rfl rfl ?_
    refine wl_put (pc' := 327) (h2 := hp (m.uF 42 6 (nI 1))) rfl (hq_42 _) rfl rfl rfl (pf_42_6 _ _) ?_
    exact wp_r rfl rfl ⟨_, rfl, k⟩
  · replace k := it_t (c := (m.F 42 6) = (nI 0)) c1 k
    refine wl_ald_n (pc' := 309) rfl e_0 rfl ?_
    refine wp_get (v := .int (m.F 42 5)) (pc' := 312) rfl (hq_42 _) rfl rfl ?_
    refine wl_ald_n (pc' := 313) rfl e_0 rfl ?_
    refine wp_get (v := .int (m.F 42 2)) (pc' := 316) rfl (hq_42 _) rfl rfl ?_
    refine wp_ic_eq (pc' := 319) rfl rfl (fun c2 => ?_) (fun c2 => ?_)
    · replace k := it_t (c := (m.F 42 5) = (m.F 42 2)) c2 k
      refine wp_p (pc' := 324) (lv' := lv0) (st' := [.int (nI 0), .ref 42]) rfl rfl ?_
      refine wl_put (pc' := 327) (h2 := hp (m.uF 42 6 (nI 0))) rfl (hq_42 _) rfl rfl rfl (pf_42_6 _ _) ?_
      exact wp_r rfl rfl ⟨_, rfl, k⟩
    · replace k := it_f (c := (m.F 42 5) = (m.F 42 2)) c2 k
      refine wp_p (pc' := 320) (lv' := lv0) (st' := [.int (nI 1), .ref 42]) rfl rfl ?_
      refine wp_p (pc' := 324) (lv' := lv0) (st' := [.int (nI 1), .ref 42]) rfl rfl ?_
      refine wl_put (pc' := 327) (h2 := hp (m.uF 42 6 (nI 1))) rfl (hq_42 _) rfl rfl rfl (pf_42_6 _ _) ?_
      exact wp_r rfl rfl ⟨_, rfl, k⟩
set_option maxRecDepth 20000 in
theorem sg_162_226 {d : Nat} {m : Mm} {K : Option Value → Mm → Prop} (k : WP d 161 [.ref 42] m (fun v m1 => v = none ∧ WH (d + 1) 162 300 [(0, .ref 42)] [] m1 K)) : WH (d + 1) 162 226 [(0, .ref 42)] [] m K := by
  intro lv0 el
  obtain ⟨e_0, _⟩ := el
  refine wl_ald_n (pc' := 227) rfl e_0 rfl ?_
  refine wl_cv (As := [.ref 42]) (r := []) (pc' := 230) rfl rfl rfl k ?_
  rintro _ m1 ⟨rfl, k⟩
  show sm_wp (d + 1) 162 230 lv0 [] (hp m1) (WQ K)
  refine wp_p (pc' := 300) (lv' := lv0) (st' := []) rfl rfl ?_
  exact k _ ⟨e_0, trivial⟩
set_option maxRecDepth 20000 in
theorem sg_162_133 {d : Nat} {m : Mm} {K : Option Value → Mm → Prop} (k : (if (m.F 42 6) = (nI 0) then WP d 141 [.ref 42, .int (nI 44)] m (fun v m2 => ∃ w3, v = some (.int w3) ∧ (if w3 = (nI 0) then WH (d + 1) 162 300 [(0, .ref 42)] [] m2 K else WP d 158 [.ref 42] m2 (fun v m5 => v = none ∧ WH (d + 1) 162 133 [(0, .ref 42)] [] m5 K))) else WH (d + 1) 162 300 [(0, .ref 42)] [] m K)) : WH (d + 1) 162 133 [(0, .ref 42)] [] m K := by
  intro lv0 el
  obtain ⟨e_0, _⟩ := el
  refine wl_ald_n (pc' := 134) rfl e_0 rfl ?_
  refine wp_get (v := .int (m.F 42 6)) (pc' := 137) rfl (hq_42 _) rfl rfl ?_
  refine wp_if_ne (pc' := 140) rfl rfl (fun c1 => ?_) (fun c1 => ?_)
  · replace k := it_f (c := (m.F 42 6) = (nI 0)) c1 k
    exact k _ ⟨e_0, trivial⟩
  · replace k := it_t (c := (m.F 42 6) = (nI 0)) c1 k
    refine wl_ald_n (pc' := 141) rfl e_0 rfl ?_
    refine wp_p (pc' := 143) (lv' := lv0) (st' := [.int (nI 44), .ref 42]) rfl rfl ?_
    refine wl_cv (As := [.ref 42, .int (nI 44)]) (r := []) (pc' := 146) rfl rfl rfl k ?_
    rintro _ m2 ⟨w3, rfl, k⟩
    show sm_wp (d + 1) 162 146 lv0 [.int w3] (hp m2) (WQ K)
    refine wp_if_eq (pc' := 149) rfl rfl (fun c4 => ?_) (fun c4 => ?_)
    · replace k := it_t (c := w3 = (nI 0)) c4 k
      exact k _ ⟨e_0, trivial⟩
    · replace k := it_f (c := w3 = (nI 0)) c4 k
      refine wl_ald_n (pc' := 150) rfl e_0 rfl ?_
      refine wl_cv (As := [.ref 42]) (r := []) (pc' := 153) rfl rfl rfl k ?_
      rintro _ m5 ⟨rfl, k⟩
      show sm_wp (d + 1) 162 153 lv0 [] (hp m5) (WQ K)
      refine wp_p (pc' := 133) (lv' := lv0) (st' := []) rfl rfl ?_
      exact k _ ⟨e_0, trivial⟩
/-! 163: QueryTablesModel.selection -/
set_option maxRecDepth 20000 in
theorem sp_163 {d : Nat} {m : Mm} {K : Option Value → Mm → Prop} (k : WP d 158 [.ref 42] m (fun v m1 => v = none ∧ WH (d + 1) 163 4 [(0, .ref 42)] [] m1 K)) : WP (d + 1) 163 [.ref 42] m K := by
  have e_0 : sm_lk (lv_args 0 [.ref 42]) 0 = some (.ref 42) := rfl
  show sm_wp (d + 1) 163 0 (lv_args 0 [.ref 42]) [] (hp m) (WQ K)
  generalize lv_args 0 [.ref 42] = lv0 at *
  refine wl_ald_n (pc' := 1) rfl e_0 rfl ?_
  refine wl_cv (As := [.ref 42]) (r := []) (pc' := 4) rfl rfl rfl k ?_
  rintro _ m1 ⟨rfl, k⟩
  show sm_wp (d + 1) 163 4 lv0 [] (hp m1) (WQ K)
  exact k _ ⟨e_0, trivial⟩
set_option maxRecDepth 20000 in
theorem sg_163_4 {d : Nat} {m : Mm} {K : Option Value → Mm → Prop} (k : (if (m.F 42 6) = (nI 0) then WP d 141 [.ref 42, .int (nI 44)] m (fun v m2 => ∃ w3, v = some (.int w3) ∧ (if w3 = (nI 0) then WH (d + 1) 163 27 [(0, .ref 42)] [] m2 K else WP d 158 [.ref 42] m2 (fun v m5 => v = none ∧ WH (d + 1) 163 4 [(0, .ref 42)] [] m5 K))) else WH (d + 1) 163 27 [(0, .ref 42)] [] m K)) : WH (d + 1) 163 4 [(0, .ref 42)] [] m K := by
  intro lv0 el
  obtain ⟨e_0, _⟩ := el
  refine wl_ald_n (pc' := 5) rfl e_0 rfl ?_
  refine wp_get (v := .int (m.F 42 6)) (pc' := 8) rfl (hq_42 _) rfl rfl ?_
  refine wp_if_ne (pc' := 11) rfl rfl (fun c1 => ?_) (fun c1 => ?_)
  · replace k := it_f (c := (m.F 42 6) = (nI 0)) c1 k
    exact k _ ⟨e_0, trivial⟩
  · replace k := it_t (c := (m.F 42 6) = (nI 0)) c1 k
    refine wl_ald_n (pc' := 12) rfl e_0 rfl ?_
    refine wp_p (pc' := 14) (lv' := lv0) (st' := [.int (nI 44), .ref 42]) rfl rfl ?_
    refine wl_cv (As := [.ref 42, .int (nI 44)]) (r := []) (pc' := 17) rfl rfl rfl k ?_
    rintro _ m2 ⟨w3, rfl, k⟩
    show sm_wp (d + 1) 163 17 lv0 [.int w3] (hp m2) (WQ K)
    refine wp_if_eq (pc' := 20) rfl rfl (fun c4 => ?_) (fun c4 => ?_)
    · replace k := it_t (c := w3 = (nI 0)) c4 k
      exact k _ ⟨e_0, trivial⟩
    · replace k := it_f (c := w3 = (nI 0)) c4 k
      refine wl_ald_n (pc' := 21) rfl e_0 rfl ?_
      refine wl_cv (As := [.ref 42]) (r := []) (pc' := 24) rfl rfl rfl k ?_
      rintro _ m5 ⟨rfl, k⟩
      show sm_wp (d + 1) 163 24 lv0 [] (hp m5) (WQ K)
      refine wp_p (pc' := 4) (lv' := lv0) (st' := []) rfl rfl ?_
      exact k _ ⟨e_0, trivial⟩
set_option maxRecDepth 20000 in
theorem sg_163_27 {d : Nat} {m : Mm} {K : Option Value → Mm → Prop} (k : (if (m.F 42 6) = (nI 0) then (if (nI 3) < (m.F 42 22) then (if (nI 1) = (nI 0) then WP d 159 [.ref 42] (m.uF 42 6 (nI 1)) (fun v m10 => v = none ∧ WP d 141 [.ref 42, .int (nI 44)] m10 (fun v m11 => ∃ w12, v = some (.int w12) ∧ (if w12 = (nI 0) then WH (d + 1) 163 96 [(0, .ref 42)] [] m11 K else WP d 159 [.ref 42] m11 (fun v m14 => v = none ∧ WH (d + 1) 163 96 [(0, .ref 42)] [] m14 K)))) else K none (m.uF 42 6 (nI 1))) else WP d 139 [.int (nI 102), .int (nI 114), .int (nI 111), .int (nI 109), .int (nI 0), .int (nI 0)] m (fun v m15 => ∃ w16, v = some (.int w16) ∧ WP d 142 [.ref 42, .int w16] m15 (fun v m17 => ∃ w18, v = some (.int w18) ∧ (if w18 = (nI 0) then (if (nI 1) = (nI 0) then WP d 159 [.ref 42] (m17.uF 42 6 (nI 1)) (fun v m27 => v = none ∧ WP d 141 [.ref 42, .int (nI 44)] m27 (fun v m28 => ∃ w29, v = some (.int w29) ∧ (if w29 = (nI 0) then WH (d + 1) 163 96 [(0, .ref 42)] [] m28 K else WP d 159 [.ref 42] m28 (fun v m31 => v = none ∧ WH (d + 1) 163 96 [(0, .ref 42)] [] m31 K)))) else K none (m17.uF 42 6 (nI 1))) else (if (nI 0) = (nI 0) then WP d 159 [.ref 42] (m17.uF 42 6 (nI 0)) (fun v m21 => v = none ∧ WP d 141 [.ref 42, .int (nI 44)] m21 (fun v m22 => ∃ w23, v = some (.int w23) ∧ (if w23 = (nI 0) then WH (d + 1) 163 96 [(0, .ref 42)] [] m22 K else WP d 159 [.ref 42] m22 (fun v m25 => v = none ∧ WH (d + 1) 163 96 [(0, .ref 42)] [] m25 K)))) else K none (m17.uF 42 6 (nI 0))))))) else (if (nI 1) = (nI 0) then WP d 159 [.ref 42] (m.uF 42 6 (nI 1)) (fun v m3 => v = none ∧ WP d 141 [.ref 42, .int (nI 44)] m3 (fun v m4 => ∃ w5, v = some (.int w5) ∧ (if w5 = (nI 0) then WH (d + 1) 163 96 [(0, .ref 42)] [] m4 K else WP d 159 [.ref 42] m4 (fun v m7 => v = none ∧ WH (d + 1) 163 96 [(0, .ref 42)] [] m7 K)))) else K none (m.uF 42 6 (nI 1))))) : WH (d + 1) 163 27 [(0, .ref 42)] [] m K := by
  intro lv0 el
  obtain ⟨e_0, _⟩ := el
  refine wl_ald_n (pc' := 28) rfl e_0 rfl ?_
  refine wl_ald_n (pc' := 29) rfl e_0 rfl ?_
  refine wp_get (v := .int (m.F 42 6)) (pc' := 32) rfl (hq_42 _) rfl rfl ?_
  refine wp_if_ne (pc' := 35) rfl rfl (fun c1 => ?_) (fun c1 => ?_)
  · replace k := it_f (c := (m.F 42 6) = (nI 0)) c1 k
    refine wp_p (pc' := 64) (lv' := lv0) (st' := [.int (nI 1), .ref 42]) rfl rfl ?_
    refine wp_p (pc' := 68) (lv' := lv0) (st' := [.int (nI 1), .ref 42]) rfl rfl ?_
    refine wl_put (pc' := 71) (h2 := hp (m.uF 42 6 (nI 1))) rfl (hq_42 _) rfl rfl rfl (pf_42_6 _ _) ?_
    refine wl_ald_n (pc' := 72) rfl e_0 rfl ?_
    refine wp_get (v := .int (nI 1)) (pc' := 75) rfl (hq_42 _) rfl rfl ?_
    refine wp_if_eq (pc' := 78) rfl rfl (fun c2 => ?_) (fun c2 => ?_)
    · replace k := it_t (c := (nI 1) = (nI 0)) c2 k
      refine wl_ald_n (pc' := 80) rfl e_0 rfl ?_
      refine wl_cv (As := [.ref 42]) (r := []) (pc' := 83) rfl rfl rfl k ?_
      rintro _ m3 ⟨rfl, k⟩
      show sm_wp (d + 1) 163 83 lv0 [] (hp m3) (WQ K)
      refine wl_ald_n (pc' := 84) rfl e_0 rfl ?_
      refine wp_p (pc' := 86) (lv' := lv0) (st' := [.int (nI 44), .ref 42]) rfl rfl ?_
      refine wl_cv (As := [.ref 42, .int (nI 44)]) (r := []) (pc' := 89) rfl rfl rfl k ?_
      rintro _ m4 ⟨w5, rfl, k⟩
      show sm_wp (d + 1) 163 89 lv0 [.int w5] (hp m4) (WQ K)
      refine wp_if_eq (pc' := 92) rfl rfl (fun c6 => ?_) (fun c6 => ?_)
      · replace k := it_t (c := w5 = (nI 0)) c6 k
        exact k _ ⟨e_0, trivial⟩
      · replace k := it_f (c := w5 = (nI 0)) c6 k
        refine wl_ald_n (pc' := 93) rfl e_0 rfl ?_
        refine wl_cv (As := [.ref 42]) (r := []) (pc' := 96) rfl rfl rfl k ?_
        rintro _ m7 ⟨rfl, k⟩
        show sm_wp (d + 1) 163 96 lv0 [] (hp m7) (WQ K)
        exact k _ ⟨e_0, trivial⟩
    · replace k := it_f (c := (nI 1) = (nI 0)) c2 k
      exact wp_r rfl rfl ⟨_, rfl, k⟩
  · replace k := it_t (c := (m.F 42 6) = (nI 0)) c1 k
    refine wl_ald_n (pc' := 36) rfl e_0 rfl ?_
    refine wp_get (v := .int (m.F 42 22)) (pc' := 39) rfl (hq_42 _) rfl rfl ?_
    refine wp_p (pc' := 40) (lv' := lv0) (st' := [.int (nI 3), .int (m.F 42 22), .ref 42]) rfl rfl ?_
    refine wp_ic_gt (pc' := 43) rfl rfl (fun c8 => ?_) (fun c8 => ?_)
    · replace k := it_t (c := (nI 3) < (m.F 42 22)) c8 k
      refine wp_p (pc' := 64) (lv' := lv0) (st' := [.int (nI 1), .ref 42]) rfl rfl ?_
      refine wp_p (pc' := 68) (lv' := lv0) (st' := [.int (nI 1), .ref 42]) rfl rfl ?_
      refine wl_put (pc' := 71) (h2 := hp (m.uF 42 6 (nI 1))) rfl (hq_42 _) rfl rfl rfl (pf_42_6 _ _) ?_
      refine wl_ald_n (pc' := 72) rfl e_0 rfl ?_
      refine wp_get (v := .int (nI 1)) (pc' := 75) rfl (hq_42 _) rfl rfl ?_
      refine wp_if_eq (pc' := 78) rfl rfl (fun c9 => ?_) (fun c9 => ?_)
      · replace k := it_t (c := (nI 1) = (nI 0)) c9 k
        refine wl_ald_n (pc' := 80) rfl e_0 rfl ?_
        refine wl_cv (As := [.ref 42]) (r := []) (pc' := 83) rfl rfl rfl k ?_
        rintro _ m10 ⟨rfl, k⟩
        show sm_wp (d + 1) 163 83 lv0 [] (hp m10) (WQ K)
        refine wl_ald_n (pc' := 84) rfl e_0 rfl ?_
        refine wp_p (pc' := 86) (lv' := lv0) (st' := [.int (nI 44), .ref 42]) rfl rfl ?_
        refine wl_cv (As := [.ref 42, .int (nI 44)]) (r := []) (pc' := 89) rfl rfl rfl k ?_
        rintro _ m11 ⟨w12, rfl, k⟩
        show sm_wp (d + 1) 163 89 lv0 [.int w12] (hp m11) (WQ K)
        refine wp_if_eq (pc' := 92) rfl rfl (fun c13 => ?_) (fun c13 => ?_)
        · replace k := it_t (c := w12 = (nI 0)) c13 k
          exact k _ ⟨e_0, trivial⟩
        · replace k := it_f (c := w12 = (nI 0)) c13 k
          refine wl_ald_n (pc' := 93) rfl e_0 rfl ?_
          refine wl_cv (As := [.ref 42]) (r := []) (pc' := 96) rfl rfl rfl k ?_
          rintro _ m14 ⟨rfl, k⟩
          show sm_wp (d + 1) 163 96 lv0 [] (hp m14) (WQ K)
          exact k _ ⟨e_0, trivial⟩
      · replace k := it_f (c := (nI 1) = (nI 0)) c9 k
        exact wp_r rfl rfl ⟨_, rfl, k⟩
    · replace k := it_f (c := (nI 3) < (m.F 42 22)) c8 k
      refine wl_ald_n (pc' := 44) rfl e_0 rfl ?_
      refine wp_p (pc' := 46) (lv' := lv0) (st' := [.int (nI 102), .ref 42, .ref 42]) rfl rfl ?_
      refine wp_p (pc' := 48) (lv' := lv0) (st' := [.int (nI 114), .int (nI 102), .ref 42, .ref 42]) rfl rfl ?_
      refine wp_p (pc' := 50) (lv' := lv0) (st' := [.int (nI 111), .int (nI 114), .int (nI 102), .ref 42, .ref 42]) rfl rfl ?_
      refine wp_p (pc' := 52) (lv' := lv0) (st' := [.int (nI 109), .int (nI 111), .int (nI 114), .int (nI 102), .ref 42, .ref 42]) rfl rfl ?_
      refine wp_p (pc' := 53) (lv' := lv0) (st' := [.int (nI 0), .int (nI 109), .int (nI 111), .int (nI 114), .int (nI 102), .ref 42, .ref 42]) rfl rfl ?_
      refine wp_p (pc' := 54) (lv' := lv0) (st' := [.int (nI 0), .int (nI 0), .int (nI 109), .int (nI 111), .int (nI 114), .int (nI 102), .ref 42, .ref 42]) rfl rfl ?_
      refine wl_cs (As := [.int (nI 102), .int (nI 114), .int (nI 111), .int (nI 109), .int (nI 0), .int (nI 0)]) (r := [.ref 42, .ref 42]) (pc' := 57) rfl rfl rfl rfl k ?_
      rintro _ m15 ⟨w16, rfl, k⟩
      show sm_wp (d + 1) 163 57 lv0 [.int w16, .ref 42, .ref 42] (hp m15) (WQ K)
      refine wl_cv (As := [.ref 42, .int w16]) (r := [.ref 42]) (pc' := 60) rfl rfl rfl k ?_
      rintro _ m17 ⟨w18, rfl, k⟩
      show sm_wp (d + 1) 163 60 lv0 [.int w18, .ref 42] (hp m17) (WQ K)
      refine wp_if_ne (pc' := 63) rfl rfl (fun c19 => ?_) (fun c19 => ?_)
      · replace k := it_f (c := w18 = (nI 0)) c19 k
        refine wp_p (pc' := 68) (lv' := lv0) (st' := [.int (nI 0), .ref 42]) rfl rfl ?_
        refine wl_put (pc' := 71) (h2 := hp (m17.uF 42 6 (nI 0))) rfl (hq_42 _) rfl rfl rfl (pf_42_6 _ _) ?_
        refine wl_ald_n (pc' := 72) rfl e_0 rfl ?_
        refine wp_get (v := .int (nI 0)) (pc' := 75) rfl (hq_42 _) rfl rfl ?_
        refine wp_if_eq (pc' := 78) rfl rfl (fun c20 => ?_) (fun c20 => ?_)
        · replace k := it_t (c := (nI 0) = (nI 0)) c20 k
          refine wl_ald_n (pc' := 80) rfl e_0 rfl ?_
          refine wl_cv (As := [.ref 42]) (r := []) (pc' := 83) rfl rfl rfl k ?_
          rintro _ m21 ⟨rfl, k⟩
          show sm_wp (d + 1) 163 83 lv0 [] (hp m21) (WQ K)
          refine wl_ald_n (pc' := 84) rfl e_0 rfl ?_
          refine wp_p (pc' := 86) (lv' := lv0) (st' := [.int (nI 44), .ref 42]) rfl rfl ?_
          refine wl_cv (As := [.ref 42, .int (nI 44)]) (r := []) (pc' := 89) rfl rfl rfl k ?_
          rintro _ m22 ⟨w23, rfl, k⟩
          show sm_wp (d + 1) 163 89 lv0 [.int w23] (hp m22) (WQ K)
          refine wp_if_eq (pc' := 92) rfl rfl (fun c24 => ?_) (fun c24 => ?_)
          · replace k := it_t (c := w23 = (nI 0)) c24 k
            exact k _ ⟨e_0, trivial⟩
          · replace k := it_f (c := w23 = (nI 0)) c24 k
            refine wl_ald_n (pc' := 93) rfl e_0 rfl ?_
            refine wl_cv (As := [.ref 42]) (r := []) (pc' := 96) rfl rfl rfl k ?_
            rintro _ m25 ⟨rfl, k⟩
            show sm_wp (d + 1) 163 96 lv0 [] (hp m25) (WQ K)
            exact k _ ⟨e_0, trivial⟩
        · replace k := it_f (c := (nI 0) = (nI 0)) c20 k
          exact wp_r rfl rfl ⟨_, rfl, k⟩
      · replace k := it_t (c := w18 = (nI 0)) c19 k
        refine wp_p (pc' := 64) (lv' := lv0) (st' := [.int (nI 1), .ref 42]) rfl rfl ?_
        refine wp_p (pc' := 68) (lv' := lv0) (st' := [.int (nI 1), .ref 42]) rfl rfl ?_
        refine wl_put (pc' := 71) (h2 := hp (m17.uF 42 6 (nI 1))) rfl (hq_42 _) rfl rfl rfl (pf_42_6 _ _) ?_
        refine wl_ald_n (pc' := 72) rfl e_0 rfl ?_
        refine wp_get (v := .int (nI 1)) (pc' := 75) rfl (hq_42 _) rfl rfl ?_
        refine wp_if_eq (pc' := 78) rfl rfl (fun c26 => ?_) (fun c26 => ?_)
        · replace k := it_t (c := (nI 1) = (nI 0)) c26 k
          refine wl_ald_n (pc' := 80) rfl e_0 rfl ?_
          refine wl_cv (As := [.ref 42]) (r := []) (pc' := 83) rfl rfl rfl k ?_
          rintro _ m27 ⟨rfl, k⟩
          show sm_wp (d + 1) 163 83 lv0 [] (hp m27) (WQ K)
          refine wl_ald_n (pc' := 84) rfl e_0 rfl ?_
          refine wp_p (pc' := 86) (lv' := lv0) (st' := [.int (nI 44), .ref 42]) rfl rfl ?_
          refine wl_cv (As := [.ref 42, .int (nI 44)]) (r := []) (pc' := 89) rfl rfl rfl k ?_
          rintro _ m28 ⟨w29, rfl, k⟩
          show sm_wp (d + 1) 163 89 lv0 [.int w29] (hp m28) (WQ K)
          refine wp_if_eq (pc' := 92) rfl rfl (fun c30 => ?_) (fun c30 => ?_)
          · replace k := it_t (c := w29 = (nI 0)) c30 k
            exact k _ ⟨e_0, trivial⟩
          · replace k := it_f (c := w29 = (nI 0)) c30 k
            refine wl_ald_n (pc' := 93) rfl e_0 rfl ?_
            refine wl_cv (As := [.ref 42]) (r := []) (pc' := 96) rfl rfl rfl k ?_
            rintro _ m31 ⟨rfl, k⟩
            show sm_wp (d + 1) 163 96 lv0 [] (hp m31) (WQ K)
            exact k _ ⟨e_0, trivial⟩
        · replace k := it_f (c := (nI 1) = (nI 0)) c26 k
          exact wp_r rfl rfl ⟨_, rfl, k⟩
set_option maxRecDepth 20000 in
theorem sg_163_96 {d : Nat} {m : Mm} {K : Option Value → Mm → Prop} (k : WP d 161 [.ref 42] m (fun v m1 => v = none ∧ (if (m1.F 42 6) = (nI 0) then WP d 139 [.int (nI 111), .int (nI 114), .int (nI 100), .int (nI 101), .int (nI 114), .int (nI 0)] m1 (fun v m3 => ∃ w4, v = some (.int w4) ∧ WP d 142 [.ref 42, .int w4] m3 (fun v m5 => ∃ w6, v = some (.int w6) ∧ (if w6 = (nI 0) then WH (d + 1) 163 189 [(0, .ref 42)] [] m5 K else WP d 151 [.ref 42] ((m5.uF 42 28 (nI 1)).uF 42 30 (m5.F 42 7)) (fun v m8 => v = none ∧ (if (m8.F 42 6) = (nI 0) then WP d 139 [.int (nI 100), .int (nI 101), .int (nI 115), .int (nI 99), .int (nI 0), .int (nI 0)] (m8.uF 42 31 (m8.F 42 7)) (fun v m10 => ∃ w11, v = some (.int w11) ∧ WP d 142 [.ref 42, .int w11] m10 (fun v m12 => ∃ w13, v = some (.int w13) ∧ (if w13 = (nI 0) then WH (d + 1) 163 189 [(0, .ref 42)] [] (m12.uF 42 29 (nI 0)) K else WH (d + 1) 163 189 [(0, .ref 42)] [] (m12.uF 42 29 (nI 1)) K))) else WH (d + 1) 163 189 [(0, .ref 42)] [] ((m8.uF 42 31 (m8.F 42 7)).uF 42 29 (nI 0)) K))))) else WH (d + 1) 163 189 [(0, .ref 42)] [] m1 K))) : WH (d + 1) 163 96 [(0, .ref 42)] [] m K := by
  intro lv0 el
  obtain ⟨e_0, _⟩ := el
  refine wl_ald_n (pc' := 97) rfl e_0 rfl ?_
  refine wl_cv (As := [.ref 42]) (r := []) (pc' := 100) rfl rfl rfl k ?_
  rintro _ m1 ⟨rfl, k⟩
  show sm_wp (d + 1) 163 100 lv0 [] (hp m1) (WQ K)
  refine wl_ald_n (pc' := 101) rfl e_0 rfl ?_
  refine wp_get (v := .int (m1.F 42 6)) (pc' := 104) rfl (hq_42 _) rfl rfl ?_
  refine wp_if_ne (pc' := 107) rfl rfl (fun c2 => ?_) (fun c2 => ?_)
  · replace k := it_f (c := (m1.F 42 6) = (nI 0)) c2 k
    exact k _ ⟨e_0, trivial⟩
  · replace k := it_t (c := (m1.F 42 6) = (nI 0)) c2 k
    refine wl_ald_n (pc' := 108) rfl e_0 rfl ?_
    refine wp_p (pc' := 110) (lv' := lv0) (st' := [.int (nI 111), .ref 42]) rfl rfl ?_
    refine wp_p (pc' := 112) (lv' := lv0) (st' := [.int (nI 114), .int (nI 111), .ref 42]) rfl rfl ?_
    refine wp_p (pc' := 114) (lv' := lv0) (st' := [.int (nI 100), .int (nI 114), .int (nI 111), .ref 42]) rfl rfl ?_
    refine wp_p (pc' := 116) (lv' := lv0) (st' := [.int (nI 101), .int (nI 100), .int (nI 114), .int (nI 111), .ref 42]) rfl rfl ?_
    refine wp_p (pc' := 118) (lv' := lv0) (st' := [.int (nI 114), .int (nI 101), .int (nI 100), .int (nI 114), .int (nI 111), .ref 42]) rfl rfl ?_
    refine wp_p (pc' := 119) (lv' := lv0) (st' := [.int (nI 0), .int (nI 114), .int (nI 101), .int (nI 100), .int (nI 114), .int (nI 111), .ref 42]) rfl rfl ?_
    refine wl_cs (As := [.int (nI 111), .int (nI 114), .int (nI 100), .int (nI 101), .int (nI 114), .int (nI 0)]) (r := [.ref 42]) (pc' := 122) rfl rfl rfl rfl k ?_
    rintro _ m3 ⟨w4, rfl, k⟩
    show sm_wp (d + 1) 163 122 lv0 [.int w4, .ref 42] (hp m3) (WQ K)
    refine wl_cv (As := [.ref 42, .int w4]) (r := []) (pc' := 125) rfl rfl rfl k ?_
    rintro _ m5 ⟨w6, rfl, k⟩
    show sm_wp (d + 1) 163 125 lv0 [.int w6] (hp m5) (WQ K)
    refine wp_if_eq (pc' := 128) rfl rfl (fun c7 => ?_) (fun c7 => ?_)
    · replace k := it_t (c := w6 = (nI 0)) c7 k
      exact k _ ⟨e_0, trivial⟩
    · replace k := it_f (c := w6 = (nI 0)) c7 k
      refine wl_ald_n (pc' := 129) rfl e_0 rfl ?_
      refine wp_p (pc' := 130) (lv' := lv0) (st' := [.int (nI 1), .ref 42]) rfl rfl ?_
      refine wl_put (pc' := 133) (h2 := hp (m5.uF 42 28 (nI 1))) rfl (hq_42 _) rfl rfl rfl (pf_42_28 _ _) ?_
      refine wl_ald_n (pc' := 134) rfl e_0 rfl ?_
      refine wl_ald_n (pc' := 135) rfl e_0 rfl ?_
      refine wp_get (v := .int (m5.F 42 7)) (pc' := 138) rfl (hq_42 _) rfl rfl ?_
      refine wl_put (pc' := 141) (h2 := hp ((m5.uF 42 28 (nI 1)).uF 42 30 (m5.F 42 7))) rfl (hq_42 _) rfl rfl rfl (pf_42_30 _ _) ?_
      refine wl_ald_n (pc' := 142) rfl e_0 rfl ?_
      refine wl_cv (As := [.ref 42]) (r := []) (pc' := 145) rfl rfl rfl k ?_
      rintro _ m8 ⟨rfl, k⟩
      show sm_wp (d + 1) 163 145 lv0 [] (hp m8) (WQ K)
      refine wl_ald_n (pc' := 146) rfl e_0 rfl ?_
      refine wl_ald_n (pc' := 147) rfl e_0 rfl ?_
      refine wp_get (v := .int (m8.F 42 7)) (pc' := 150) rfl (hq_42 _) rfl rfl ?_
      refine wl_put (pc' := 153) (h2 := hp (m8.uF 42 31 (m8.F 42 7))) rfl (hq_42 _) rfl rfl rfl (pf_42_31 _ _) ?_
      refine wl_ald_n (pc' := 154) rfl e_0 rfl ?_
      refine wl_ald_n (pc' := 155) rfl e_0 rfl ?_
      refine wp_get (v := .int (m8.F 42 6)) (pc' := 158) rfl (hq_42 _) rfl rfl ?_
      refine wp_if_ne (pc' := 161) rfl rfl (fun c9 => ?_) (fun c9 => ?_)
      · replace k := it_f (c := (m8.F 42 6) = (nI 0)) c9 k
        refine wp_p (pc' := 186) (lv' := lv0) (st' := [.int (nI 0), .ref 42]) rfl rfl ?_
        refine wl_put (pc' := 189) (h2 := hp ((m8.uF 42 31 (m8.F 42 7)).uF 42 29 (nI 0))) rfl (hq_42 _) rfl rfl rfl (pf_42_29 _ _) ?_
        exact k _ ⟨e_0, trivial⟩
      · replace k := it_t (c := (m8.F 42 6) = (nI 0)) c9 k
        refine wl_ald_n (pc' := 162) rfl e_0 rfl ?_
        refine wp_p (pc' := 164) (lv' := lv0) (st' := [.int (nI 100), .ref 42, .ref 42]) rfl rfl ?_
        refine wp_p (pc' := 166) (lv' := lv0) (st' := [.int (nI 101), .int (nI 100), .ref 42, .ref 42]) rfl rfl ?_
        refine wp_p (pc' := 168) (lv' := lv0) (st' := [.int (nI 115), .int (nI 101), .int (nI 100), .ref 42, .ref 42]) rfl rfl ?_
        refine wp_p (pc' := 170) (lv' := lv0) (st' := [.int (nI 99), .int (nI 115), .int (nI 101), .int (nI 100), .ref 42, .ref 42]) rfl rfl ?_
        refine wp_p (pc' := 171) (lv' := lv0) (st' := [.int (nI 0), .int (nI 99), .int (nI 115), .int (nI 101), .int (nI 100), .ref 42, .ref 42]) rfl rfl ?_
        refine wp_p (pc' := 172) (lv' := lv0) (st' := [.int (nI 0), .int (nI 0), .int (nI 99), .int (nI 115), .int (nI 101), .int (nI 100), .ref 42, .ref 42]) rfl rfl ?_
        refine wl_cs (As := [.int (nI 100), .int (nI 101), .int (nI 115), .int (nI 99), .int (nI 0), .int (nI 0)]) (r := [.ref 42, .ref 42]) (pc' := 175) rfl rfl rfl rfl k ?_
        rintro _ m10 ⟨w11, rfl, k⟩
        show sm_wp (d + 1) 163 175 lv0 [.int w11, .ref 42, .ref 42] (hp m10) (WQ K)
        refine wl_cv (As := [.ref 42, .int w11]) (r := [.ref 42]) (pc' := 178) rfl rfl rfl k ?_
        rintro _ m12 ⟨w13, rfl, k⟩
        show sm_wp (d + 1) 163 178 lv0 [.int w13, .ref 42] (hp m12) (WQ K)
        refine wp_if_eq (pc' := 181) rfl rfl (fun c14 => ?_) (fun c14 => ?_)
        · replace k := it_t (c := w13 = (nI 0)) c14 k
          refine wp_p (pc' := 186) (lv' := lv0) (st' := [.int (nI 0), .ref 42]) rfl rfl ?_
          refine wl_put (pc' := 189) (h2 := hp (m12.uF 42 29 (nI 0))) rfl (hq_42 _) rfl rfl rfl (pf_42_29 _ _) ?_
          exact k _ ⟨e_0, trivial⟩
        · replace k := it_f (c := w13 = (nI 0)) c14 k
          refine wp_p (pc' := 182) (lv' := lv0) (st' := [.int (nI 1), .ref 42]) rfl rfl ?_
          refine wp_p (pc' := 186) (lv' := lv0) (st' := [.int (nI 1), .ref 42]) rfl rfl ?_
          refine wl_put (pc' := 189) (h2 := hp (m12.uF 42 29 (nI 1))) rfl (hq_42 _) rfl rfl rfl (pf_42_29 _ _) ?_
          exact k _ ⟨e_0, trivial⟩
set_option maxRecDepth 20000 in
theorem sg_163_189 {d : Nat} {m : Mm} {K : Option Value → Mm → Prop} (k : (if (m.F 42 6) = (nI 0) then WP d 139 [.int (nI 108), .int (nI 105), .int (nI 109), .int (nI 105), .int (nI 116), .int (nI 0)] m (fun v m2 => ∃ w3, v = some (.int w3) ∧ WP d 142 [.ref 42, .int w3] m2 (fun v m4 => ∃ w5, v = some (.int w5) ∧ (if w5 = (nI 0) then WH (d + 1) 163 226 [] [] m4 K else WP d 143 [.ref 42, .int (nI 3)] m4 (fun v m7 => ∃ w8, v = some (.int w8) ∧ WH (d + 1) 163 226 [] [] (m7.uF 42 32 w8) K)))) else WH (d + 1) 163 226 [] [] m K)) : WH (d + 1) 163 189 [(0, .ref 42)] [] m K := by
  intro lv0 el
  obtain ⟨e_0, _⟩ := el
  refine wl_ald_n (pc' := 190) rfl e_0 rfl ?_
  refine wp_get (v := .int (m.F 42 6)) (pc' := 193) rfl (hq_42 _) rfl rfl ?_
  refine wp_if_ne (pc' := 196) rfl rfl (fun c1 => ?_) (fun c1 => ?_)
  · replace k := it_f (c := (m.F 42 6) = (nI 0)) c1 k
    exact k _ trivial
  · replace k := it_t (c := (m.F 42 6) = (nI 0)) c1 k
    refine wl_ald_n (pc' := 197) rfl e_0 rfl ?_
    refine wp_p (pc' := 199) (lv' := lv0) (st' := [.int (nI 108), .ref 42]) rfl rfl ?_
    refine wp_p (pc' := 201) (lv' := lv0) (st' := [.int (nI 105), .int (nI 108), .ref 42]) rfl rfl ?_
    refine wp_p (pc' := 203) (lv' := lv0) (st' := [.int (nI 109), .int (nI 105), .int (nI 108), .ref 42]) rfl rfl ?_
    refine wp_p (pc' := 205) (lv' := lv0) (st' := [.int (nI 105), .int (nI 109), .int (nI 105), .int (nI 108), .ref 42]) rfl rfl ?_
    refine wp_p (pc' := 207) (lv' := lv0) (st' := [.int (nI 116), .int (nI 105), .int (nI 109), .int (nI 105), .int (nI 108), .ref 42]) rfl rfl ?_
    refine wp_p (pc' := 208) (lv' := lv0) (st' := [.int (nI 0), .int (nI 116), .int (nI 105), .int (nI 109), .int (nI 105), .int (nI 108), .ref 42]) rfl rfl ?_
    refine wl_cs (As := [.int (nI 108), .int (nI 105), .int (nI 109), .int (nI 105), .int (nI 116), .int (nI 0)]) (r := [.ref 42]) (pc' := 211) rfl rfl rfl rfl k ?_
    rintro _ m2 ⟨w3, rfl, k⟩
    show sm_wp (d + 1) 163 211 lv0 [.int w3, .ref 42] (hp m2) (WQ K)
    refine wl_cv (As := [.ref 42, .int w3]) (r := []) (pc' := 214) rfl rfl rfl k ?_
    rintro _ m4 ⟨w5, rfl, k⟩
    show sm_wp (d + 1) 163 214 lv0 [.int w5] (hp m4) (WQ K)
    refine wp_if_eq (pc' := 217) rfl rfl (fun c6 => ?_) (fun c6 => ?_)
    · replace k := it_t (c := w5 = (nI 0)) c6 k
      exact k _ trivial
    · replace k := it_f (c := w5 = (nI 0)) c6 k
      refine wl_ald_n (pc' := 218) rfl e_0 rfl ?_
      refine wl_ald_n (pc' := 219) rfl e_0 rfl ?_
      refine wp_p (pc' := 220) (lv' := lv0) (st' := [.int (nI 3), .ref 42, .ref 42]) rfl rfl ?_
      refine wl_cv (As := [.ref 42, .int (nI 3)]) (r := [.ref 42]) (pc' := 223) rfl rfl rfl k ?_
      rintro _ m7 ⟨w8, rfl, k⟩
      show sm_wp (d + 1) 163 223 lv0 [.int w8, .ref 42] (hp m7) (WQ K)
      refine wl_put (pc' := 226) (h2 := hp (m7.uF 42 32 w8)) rfl (hq_42 _) rfl rfl rfl (pf_42_32 _ _) ?_
      exact k _ trivial
set_option maxRecDepth 20000 in
theorem sg_163_226 {d : Nat} {m : Mm} {K : Option Value → Mm → Prop} (k : K none m) : WH d 163 226 [] [] m K := by
  intro lv0 el
  exact wp_r rfl rfl ⟨_, rfl, k⟩
/-! 164: QueryTablesModel.known -/
set_option maxRecDepth 20000 in
theorem sp_164 {d : Nat} {m : Mm} {K : Option Value → Mm → Prop} (k : WP d 139 [.int (nI 99), .int (nI 114), .int (nI 101), .int (nI 97), .int (nI 116), .int (nI 101)] m (fun v m1 => ∃ w2, v = some (.int w2) ∧ (if (m.F 42 17) = w2 then WH (d + 1) 164 30 [(0, .ref 42), (1, .int (nI 1)), (2, .int (nI 0))] [] m1 K else WH (d + 1) 164 30 [(0, .ref 42), (1, .int (nI 0)), (2, .int (nI 0))] [] m1 K))) : WP (d + 1) 164 [.ref 42] m K := by
  have e_0 : sm_lk (lv_args 0 [.ref 42]) 0 = some (.ref 42) := rfl
  show sm_wp (d + 1) 164 0 (lv_args 0 [.ref 42]) [] (hp m) (WQ K)
  generalize lv_args 0 [.ref 42] = lv0 at *
  refine wl_ald_n (pc' := 1) rfl e_0 rfl ?_
  refine wp_get (v := .int (m.F 42 17)) (pc' := 4) rfl (hq_42 _) rfl rfl ?_
  refine wp_p (pc' := 6) (lv' := lv0) (st' := [.int (nI 99), .int (m.F 42 17)]) rfl rfl ?_
  refine wp_p (pc' := 8) (lv' := lv0) (st' := [.int (nI 114), .int (nI 99), .int (m.F 42 17)]) rfl rfl ?_
  refine wp_p (pc' := 10) (lv' := lv0) (st' := [.int (nI 101), .int (nI 114), .int (nI 99), .int (m.F 42 17)]) rfl rfl ?_
  refine wp_p (pc' := 12) (lv' := lv0) (st' := [.int (nI 97), .int (nI 101), .int (nI 114), .int (nI 99), .int (m.F 42 17)]) rfl rfl ?_
  refine wp_p (pc' := 14) (lv' := lv0) (st' := [.int (nI 116), .int (nI 97), .int (nI 101), .int (nI 114), .int (nI 99), .int (m.F 42 17)]) rfl rfl ?_
  refine wp_p (pc' := 16) (lv' := lv0) (st' := [.int (nI 101), .int (nI 116), .int (nI 97), .int (nI 101), .int (nI 114), .int (nI 99), .int (m.F 42 17)]) rfl rfl ?_
  refine wl_cs (As := [.int (nI 99), .int (nI 114), .int (nI 101), .int (nI 97), .int (nI 116), .int (nI 101)]) (r := [.int (m.F 42 17)]) (pc' := 19) rfl rfl rfl rfl k ?_
  rintro _ m1 ⟨w2, rfl, k⟩
  show sm_wp (d + 1) 164 19 lv0 [.int w2, .int (m.F 42 17)] (hp m1) (WQ K)
  refine wp_ic_ne (pc' := 22) rfl rfl (fun c3 => ?_) (fun c3 => ?_)
  · replace k := it_f (c := (m.F 42 17) = w2) c3 k
    refine wp_p (pc' := 27) (lv' := lv0) (st' := [.int (nI 0)]) rfl rfl ?_
    refine wl_st1 (pc' := 28) (k0 := 1) (v := .int (nI 0)) (r := []) rfl rfl (fun lv4 e5 f6 => ?_)
    have e7 := f6 0 _ e_0 (by decide) rfl
    refine wp_p (pc' := 29) (lv' := lv4) (st' := [.int (nI 0)]) rfl rfl ?_
    refine wl_st1 (pc' := 30) (k0 := 2) (v := .int (nI 0)) (r := []) rfl rfl (fun lv8 e9 f10 => ?_)
    have e11 := f10 0 _ e7 (by decide) rfl
    have e12 := f10 1 _ e5 (by decide) rfl
    exact k _ ⟨e11, e12, e9, trivial⟩
  · replace k := it_t (c := (m.F 42 17) = w2) c3 k
    refine wp_p (pc' := 23) (lv' := lv0) (st' := [.int (nI 1)]) rfl rfl ?_
    refine wp_p (pc' := 27) (lv' := lv0) (st' := [.int (nI 1)]) rfl rfl ?_
    refine wl_st1 (pc' := 28) (k0 := 1) (v := .int (nI 1)) (r := []) rfl rfl (fun lv13 e14 f15 => ?_)
    have e16 := f15 0 _ e_0 (by decide) rfl
    refine wp_p (pc' := 29) (lv' := lv13) (st' := [.int (nI 0)]) rfl rfl ?_
    refine wl_st1 (pc' := 30) (k0 := 2) (v := .int (nI 0)) (r := []) rfl rfl (fun lv17 e18 f19 => ?_)
    have e20 := f19 0 _ e16 (by decide) rfl
    have e21 := f19 1 _ e14 (by decide) rfl
    exact k _ ⟨e20, e21, e18, trivial⟩
set_option maxRecDepth 20000 in
theorem sg_164_30 {d : Nat} {m : Mm} {K : Option Value → Mm → Prop} (x1 : Int32) (x2 : Int32) (k : (if (m.F 42 19) ≤ x2 then (if (m.F 42 19) = (nI 2) then ok (m.A 50).length (nI 0) ∧ ok (m.A 50).length (nI 1) ∧ (if ((m.A 50).getD (ix (nI 0)) 0) = ((m.A 50).getD (ix (nI 1)) 0) then K (some (.int (nI 0))) m else WH d 164 94 [(0, .ref 42)] [] m K) else WH d 164 94 [(0, .ref 42)] [] m K) else ok (m.A 50).length x2 ∧ ok (m.A 56).length ((m.A 50).getD (ix x2) 0) ∧ (if ((m.A 56).getD (ix ((m.A 50).getD (ix x2) 0)) 0) ≤ (nI 0) then (if (nI 0) = x1 then K (some (.int (nI 0))) m else WH d 164 30 [(0, .ref 42), (1, .int x1), (2, .int (x2 + nI 1))] [] m K) else (if (nI 1) = x1 then K (some (.int (nI 0))) m else WH d 164 30 [(0, .ref 42), (1, .int x1), (2, .int (x2 + nI 1))] [] m K)))) : WH d 164 30 [(0, .ref 42), (1, .int x1), (2, .int x2)] [] m K := by
  intro lv0 el
  obtain ⟨e_0, e_1, e_2, _⟩ := el
  refine wl_ild_n (pc' := 31) rfl e_2 rfl ?_
  refine wl_ald_n (pc' := 32) rfl e_0 rfl ?_
  refine wp_get (v := .int (m.F 42 19)) (pc' := 35) rfl (hq_42 _) rfl rfl ?_
  refine wp_ic_ge (pc' := 38) rfl rfl (fun c1 => ?_) (fun c1 => ?_)
  · replace k := it_t (c := (m.F 42 19) ≤ x2) c1 k
    refine wl_ald_n (pc' := 70) rfl e_0 rfl ?_
    refine wp_get (v := .int (m.F 42 19)) (pc' := 73) rfl (hq_42 _) rfl rfl ?_
    refine wp_p (pc' := 74) (lv' := lv0) (st' := [.int (nI 2), .int (m.F 42 19)]) rfl rfl ?_
    refine wp_ic_ne (pc' := 77) rfl rfl (fun c2 => ?_) (fun c2 => ?_)
    · replace k := it_f (c := (m.F 42 19) = (nI 2)) c2 k
      exact k _ ⟨e_0, trivial⟩
    · replace k := it_t (c := (m.F 42 19) = (nI 2)) c2 k
      refine wl_ald_n (pc' := 78) rfl e_0 rfl ?_
      refine wp_get (v := .ref 50) (pc' := 81) rfl (hq_42 _) rfl rfl ?_
      refine wp_p (pc' := 82) (lv' := lv0) (st' := [.int (nI 0), .ref 50]) rfl rfl ?_
      obtain ⟨k3, k⟩ := k
      refine wl_iaload (g := m.A 50) (pc' := 83) rfl (hq_50 _) k3 rfl ?_
      refine wl_ald_n (pc' := 84) rfl e_0 rfl ?_
      refine wp_get (v := .ref 50) (pc' := 87) rfl (hq_42 _) rfl rfl ?_
      refine wp_p (pc' := 88) (lv' := lv0) (st' := [.int (nI 1), .ref 50, .int ((m.A 50).getD (ix (nI 0)) 0)]) rfl rfl ?_
      obtain ⟨k4, k⟩ := k
      refine wl_iaload (g := m.A 50) (pc' := 89) rfl (hq_50 _) k4 rfl ?_
      refine wp_ic_ne (pc' := 92) rfl rfl (fun c5 => ?_) (fun c5 => ?_)
      · replace k := it_f (c := ((m.A 50).getD (ix (nI 0)) 0) = ((m.A 50).getD (ix (nI 1)) 0)) c5 k
        exact k _ ⟨e_0, trivial⟩
      · replace k := it_t (c := ((m.A 50).getD (ix (nI 0)) 0) = ((m.A 50).getD (ix (nI 1)) 0)) c5 k
        refine wp_p (pc' := 93) (lv' := lv0) (st' := [.int (nI 0)]) rfl rfl ?_
        exact wl_ret rfl rfl ⟨_, rfl, k⟩
  · replace k := it_f (c := (m.F 42 19) ≤ x2) c1 k
    refine wl_ald_n (pc' := 39) rfl e_0 rfl ?_
    refine wp_get (v := .ref 56) (pc' := 42) rfl (hq_42 _) rfl rfl ?_
    refine wl_ald_n (pc' := 43) rfl e_0 rfl ?_
    refine wp_get (v := .ref 50) (pc' := 46) rfl (hq_42 _) rfl rfl ?_
    refine wl_ild_n (pc' := 47) rfl e_2 rfl ?_
    obtain ⟨k6, k⟩ := k
    refine wl_iaload (g := m.A 50) (pc' := 48) rfl (hq_50 _) k6 rfl ?_
    obtain ⟨k7, k⟩ := k
    refine wl_iaload (g := m.A 56) (pc' := 49) rfl (hq_56 _) k7 rfl ?_
    refine wp_if_le (pc' := 52) rfl rfl (fun c8 => ?_) (fun c8 => ?_)
    · replace k := it_t (c := ((m.A 56).getD (ix ((m.A 50).getD (ix x2) 0)) 0) ≤ (nI 0)) c8 k
      refine wp_p (pc' := 57) (lv' := lv0) (st' := [.int (nI 0)]) rfl rfl ?_
      refine wl_ild_n (pc' := 58) rfl e_1 rfl ?_
      refine wp_ic_ne (pc' := 61) rfl rfl (fun c9 => ?_) (fun c9 => ?_)
      · replace k := it_f (c := (nI 0) = x1) c9 k
        refine wl_iinc (pc' := 66) (v := x2 + nI 1) rfl e_2 rfl rfl rfl (fun lv10 e11 f12 => ?_)
        have e13 := f12 0 _ e_0 (by decide) rfl
        have e14 := f12 1 _ e_1 (by decide) rfl
        refine wp_p (pc' := 30) (lv' := lv10) (st' := []) rfl rfl ?_
        exact k _ ⟨e13, e14, e11, trivial⟩
      · replace k := it_t (c := (nI 0) = x1) c9 k
        refine wp_p (pc' := 62) (lv' := lv0) (st' := [.int (nI 0)]) rfl rfl ?_
        exact wl_ret rfl rfl ⟨_, rfl, k⟩
    · replace k := it_f (c := ((m.A 56).getD (ix ((m.A 50).getD (ix x2) 0)) 0) ≤ (nI 0)) c8 k
      refine wp_p (pc' := 53) (lv' := lv0) (st' := [.int (nI 1)]) rfl rfl ?_
      refine wp_p (pc' := 57) (lv' := lv0) (st' := [.int (nI 1)]) rfl rfl ?_
      refine wl_ild_n (pc' := 58) rfl e_1 rfl ?_
      refine wp_ic_ne (pc' := 61) rfl rfl (fun c15 => ?_) (fun c15 => ?_)
      · replace k := it_f (c := (nI 1) = x1) c15 k
        refine wl_iinc (pc' := 66) (v := x2 + nI 1) rfl e_2 rfl rfl rfl (fun lv16 e17 f18 => ?_)
        have e19 := f18 0 _ e_0 (by decide) rfl
        have e20 := f18 1 _ e_1 (by decide) rfl
        refine wp_p (pc' := 30) (lv' := lv16) (st' := []) rfl rfl ?_
        exact k _ ⟨e19, e20, e17, trivial⟩
      · replace k := it_t (c := (nI 1) = x1) c15 k
        refine wp_p (pc' := 62) (lv' := lv0) (st' := [.int (nI 0)]) rfl rfl ?_
        exact wl_ret rfl rfl ⟨_, rfl, k⟩
set_option maxRecDepth 20000 in
theorem sg_164_94 {d : Nat} {m : Mm} {K : Option Value → Mm → Prop} (k : ok (m.A 50).length (nI 0) ∧ WP d 139 [.int (nI 105), .int (nI 110), .int (nI 100), .int (nI 101), .int (nI 120), .int (nI 0)] m (fun v m6 => ∃ w7, v = some (.int w7) ∧ (if (m.F 42 17) = w7 then (if (m6.F 42 20) = (nI 0) then WH (d + 1) 164 168 [] [] m6 K else ok (m6.A 56).length ((m.A 50).getD (ix (nI 0)) 0) ∧ (if ((m6.A 56).getD (ix ((m.A 50).getD (ix (nI 0)) 0)) 0) ≤ (m6.F 42 20) then WH (d + 1) 164 168 [] [] m6 K else ok (m6.A 59).length (((nI 4) * ((m.A 50).getD (ix (nI 0)) 0)) + (m6.F 42 20)) ∧ (if ((m6.A 59).getD (ix (((nI 4) * ((m.A 50).getD (ix (nI 0)) 0)) + (m6.F 42 20))) 0) = (nI 0) then WH (d + 1) 164 170 [(0, .ref 42), (2, .int ((m.A 50).getD (ix (nI 0)) 0))] [] m6 K else WH (d + 1) 164 168 [] [] m6 K))) else WH (d + 1) 164 170 [(0, .ref 42), (2, .int ((m.A 50).getD (ix (nI 0)) 0))] [] m6 K))) : WH (d + 1) 164 94 [(0, .ref 42)] [] m K := by
  intro lv0 el
  obtain ⟨e_0, _⟩ := el
  refine wl_ald_n (pc' := 95) rfl e_0 rfl ?_
  refine wp_get (v := .ref 50) (pc' := 98) rfl (hq_42 _) rfl rfl ?_
  refine wp_p (pc' := 99) (lv' := lv0) (st' := [.int (nI 0), .ref 50]) rfl rfl ?_
  obtain ⟨k1, k⟩ := k
  refine wl_iaload (g := m.A 50) (pc' := 100) rfl (hq_50 _) k1 rfl ?_
  refine wl_st1 (pc' := 101) (k0 := 2) (v := .int ((m.A 50).getD (ix (nI 0)) 0)) (r := []) rfl rfl (fun lv2 e3 f4 => ?_)
  have e5 := f4 0 _ e_0 (by decide) rfl
  refine wl_ald_n (pc' := 102) rfl e5 rfl ?_
  refine wp_get (v := .int (m.F 42 17)) (pc' := 105) rfl (hq_42 _) rfl rfl ?_
  refine wp_p (pc' := 107) (lv' := lv2) (st' := [.int (nI 105), .int (m.F 42 17)]) rfl rfl ?_
  refine wp_p (pc' := 109) (lv' := lv2) (st' := [.int (nI 110), .int (nI 105), .int (m.F 42 17)]) rfl rfl ?_
  refine wp_p (pc' := 111) (lv' := lv2) (st' := [.int (nI 100), .int (nI 110), .int (nI 105), .int (m.F 42 17)]) rfl rfl ?_
  refine wp_p (pc' := 113) (lv' := lv2) (st' := [.int (nI 101), .int (nI 100), .int (nI 110), .int (nI 105), .int (m.F 42 17)]) rfl rfl ?_
  refine wp_p (pc' := 115) (lv' := lv2) (st' := [.int (nI 120), .int (nI 101), .int (nI 100), .int (nI 110), .int (nI 105), .int (m.F 42 17)]) rfl rfl ?_
  refine wp_p (pc' := 116) (lv' := lv2) (st' := [.int (nI 0), .int (nI 120), .int (nI 101), .int (nI 100), .int (nI 110), .int (nI 105), .int (m.F 42 17)]) rfl rfl ?_
  refine wl_cs (As := [.int (nI 105), .int (nI 110), .int (nI 100), .int (nI 101), .int (nI 120), .int (nI 0)]) (r := [.int (m.F 42 17)]) (pc' := 119) rfl rfl rfl rfl k ?_
  rintro _ m6 ⟨w7, rfl, k⟩
  show sm_wp (d + 1) 164 119 lv2 [.int w7, .int (m.F 42 17)] (hp m6) (WQ K)
  refine wp_ic_ne (pc' := 122) rfl rfl (fun c8 => ?_) (fun c8 => ?_)
  · replace k := it_f (c := (m.F 42 17) = w7) c8 k
    refine wp_p (pc' := 127) (lv' := lv2) (st' := [.int (nI 0)]) rfl rfl ?_
    refine wl_st1 (pc' := 128) (k0 := 3) (v := .int (nI 0)) (r := []) rfl rfl (fun lv9 e10 f11 => ?_)
    have e12 := f11 0 _ e5 (by decide) rfl
    have e13 := f11 2 _ e3 (by decide) rfl
    refine wl_ild_n (pc' := 129) rfl e10 rfl ?_
    refine wp_p (pc' := 170) (lv' := lv9) (st' := []) rfl rfl ?_
    exact k _ ⟨e12, e13, trivial⟩
  · replace k := it_t (c := (m.F 42 17) = w7) c8 k
    refine wp_p (pc' := 123) (lv' := lv2) (st' := [.int (nI 1)]) rfl rfl ?_
    refine wp_p (pc' := 127) (lv' := lv2) (st' := [.int (nI 1)]) rfl rfl ?_
    refine wl_st1 (pc' := 128) (k0 := 3) (v := .int (nI 1)) (r := []) rfl rfl (fun lv14 e15 f16 => ?_)
    have e17 := f16 0 _ e5 (by decide) rfl
    have e18 := f16 2 _ e3 (by decide) rfl
    refine wl_ild_n (pc' := 129) rfl e15 rfl ?_
    refine wp_p (pc' := 132) (lv' := lv14) (st' := []) rfl rfl ?_
    refine wl_ald_n (pc' := 133) rfl e17 rfl ?_
    refine wp_get (v := .int (m6.F 42 20)) (pc' := 136) rfl (hq_42 _) rfl rfl ?_
    refine wp_if_eq (pc' := 139) rfl rfl (fun c19 => ?_) (fun c19 => ?_)
    · replace k := it_t (c := (m6.F 42 20) = (nI 0)) c19 k
      exact k _ trivial
    · replace k := it_f (c := (m6.F 42 20) = (nI 0)) c19 k
      refine wl_ald_n (pc' := 140) rfl e17 rfl ?_
      refine wp_get (v := .int (m6.F 42 20)) (pc' := 143) rfl (hq_42 _) rfl rfl ?_
      refine wl_ald_n (pc' := 144) rfl e17 rfl ?_
      refine wp_get (v := .ref 56) (pc' := 147) rfl (hq_42 _) rfl rfl ?_
      refine wl_ild_n (pc' := 148) rfl e18 rfl ?_
      obtain ⟨k20, k⟩ := k
      refine wl_iaload (g := m6.A 56) (pc' := 149) rfl (hq_56 _) k20 rfl ?_
      refine wp_ic_ge (pc' := 152) rfl rfl (fun c21 => ?_) (fun c21 => ?_)
      · replace k := it_t (c := ((m6.A 56).getD (ix ((m.A 50).getD (ix (nI 0)) 0)) 0) ≤ (m6.F 42 20)) c21 k
        exact k _ trivial
      · replace k := it_f (c := ((m6.A 56).getD (ix ((m.A 50).getD (ix (nI 0)) 0)) 0) ≤ (m6.F 42 20)) c21 k
        refine wl_ald_n (pc' := 153) rfl e17 rfl ?_
        refine wp_get (v := .ref 59) (pc' := 156) rfl (hq_42 _) rfl rfl ?_
        refine wp_p (pc' := 157) (lv' := lv14) (st' := [.int (nI 4), .ref 59]) rfl rfl ?_
        refine wl_ild_n (pc' := 158) rfl e18 rfl ?_
        refine wp_imul (v := (nI 4) * ((m.A 50).getD (ix (nI 0)) 0)) (pc' := 159) rfl rfl rfl ?_
        refine wl_ald_n (pc' := 160) rfl e17 rfl ?_
        refine wp_get (v := .int (m6.F 42 20)) (pc' := 163) rfl (hq_42 _) rfl rfl ?_
        refine wp_iadd (v := ((nI 4) * ((m.A 50).getD (ix (nI 0)) 0)) + (m6.F 42 20)) (pc' := 164) rfl rfl rfl ?_
        obtain ⟨k22, k⟩ := k
        refine wl_baload (g := m6.A 59) (pc' := 165) rfl (hq_59 _) k22 rfl ?_
        refine wp_if_eq (pc' := 168) rfl rfl (fun c23 => ?_) (fun c23 => ?_)
        · replace k := it_t (c := ((m6.A 59).getD (ix (((nI 4) * ((m.A 50).getD (ix (nI 0)) 0)) + (m6.F 42 20))) 0) = (nI 0)) c23 k
          exact k _ ⟨e17, e18, trivial⟩
        · replace k := it_f (c := ((m6.A 59).getD (ix (((nI 4) * ((m.A 50).getD (ix (nI 0)) 0)) + (m6.F 42 20))) 0) = (nI 0)) c23 k
          exact k _ trivial
set_option maxRecDepth 20000 in
theorem sg_164_170 {d : Nat} {m : Mm} {K : Option Value → Mm → Prop} (x2 : Int32) (k : WP d 139 [.int (nI 117), .int (nI 112), .int (nI 100), .int (nI 97), .int (nI 116), .int (nI 101)] m (fun v m1 => ∃ w2, v = some (.int w2) ∧ (if (m.F 42 17) = w2 then ok (m1.A 56).length x2 ∧ (if (m1.F 42 20) < ((m1.A 56).getD (ix x2) 0) then WH (d + 1) 164 207 [(0, .ref 42)] [] m1 K else K (some (.int (nI 0))) m1) else WH (d + 1) 164 207 [(0, .ref 42)] [] m1 K))) : WH (d + 1) 164 170 [(0, .ref 42), (2, .int x2)] [] m K := by
  intro lv0 el
  obtain ⟨e_0, e_2, _⟩ := el
  refine wl_ald_n (pc' := 171) rfl e_0 rfl ?_
  refine wp_get (v := .int (m.F 42 17)) (pc' := 174) rfl (hq_42 _) rfl rfl ?_
  refine wp_p (pc' := 176) (lv' := lv0) (st' := [.int (nI 117), .int (m.F 42 17)]) rfl rfl ?_
  refine wp_p (pc' := 178) (lv' := lv0) (st' := [.int (nI 112), .int (nI 117), .int (m.F 42 17)]) rfl rfl ?_
  refine wp_p (pc' := 180) (lv' := lv0) (st' := [.int (nI 100), .int (nI 112), .int (nI 117), .int (m.F 42 17)]) rfl rfl ?_
  refine wp_p (pc' := 182) (lv' := lv0) (st' := [.int (nI 97), .int (nI 100), .int (nI 112), .int (nI 117), .int (m.F 42 17)]) rfl rfl ?_
  refine wp_p (pc' := 184) (lv' := lv0) (st' := [.int (nI 116), .int (nI 97), .int (nI 100), .int (nI 112), .int (nI 117), .int (m.F 42 17)]) rfl rfl ?_
  refine wp_p (pc' := 186) (lv' := lv0) (st' := [.int (nI 101), .int (nI 116), .int (nI 97), .int (nI 100), .int (nI 112), .int (nI 117), .int (m.F 42 17)]) rfl rfl ?_
  refine wl_cs (As := [.int (nI 117), .int (nI 112), .int (nI 100), .int (nI 97), .int (nI 116), .int (nI 101)]) (r := [.int (m.F 42 17)]) (pc' := 189) rfl rfl rfl rfl k ?_
  rintro _ m1 ⟨w2, rfl, k⟩
  show sm_wp (d + 1) 164 189 lv0 [.int w2, .int (m.F 42 17)] (hp m1) (WQ K)
  refine wp_ic_ne (pc' := 192) rfl rfl (fun c3 => ?_) (fun c3 => ?_)
  · replace k := it_f (c := (m.F 42 17) = w2) c3 k
    exact k _ ⟨e_0, trivial⟩
  · replace k := it_t (c := (m.F 42 17) = w2) c3 k
    refine wl_ald_n (pc' := 193) rfl e_0 rfl ?_
    refine wp_get (v := .int (m1.F 42 20)) (pc' := 196) rfl (hq_42 _) rfl rfl ?_
    refine wl_ald_n (pc' := 197) rfl e_0 rfl ?_
    refine wp_get (v := .ref 56) (pc' := 200) rfl (hq_42 _) rfl rfl ?_
    refine wl_ild_n (pc' := 201) rfl e_2 rfl ?_
    obtain ⟨k4, k⟩ := k
    refine wl_iaload (g := m1.A 56) (pc' := 202) rfl (hq_56 _) k4 rfl ?_
    refine wp_ic_lt (pc' := 205) rfl rfl (fun c5 => ?_) (fun c5 => ?_)
    · replace k := it_t (c := (m1.F 42 20) < ((m1.A 56).getD (ix x2) 0)) c5 k
      exact k _ ⟨e_0, trivial⟩
    · replace k := it_f (c := (m1.F 42 20) < ((m1.A 56).getD (ix x2) 0)) c5 k
      refine wp_p (pc' := 206) (lv' := lv0) (st' := [.int (nI 0)]) rfl rfl ?_
      exact wl_ret rfl rfl ⟨_, rfl, k⟩
set_option maxRecDepth 20000 in
theorem sg_164_168 {d : Nat} {m : Mm} {K : Option Value → Mm → Prop} (k : K (some (.int (nI 0))) m) : WH d 164 168 [] [] m K := by
  intro lv0 el
  refine wp_p (pc' := 169) (lv' := lv0) (st' := [.int (nI 0)]) rfl rfl ?_
  exact wl_ret rfl rfl ⟨_, rfl, k⟩
set_option maxRecDepth 20000 in
theorem sg_164_207 {d : Nat} {m : Mm} {K : Option Value → Mm → Prop} (k : WP d 139 [.int (nI 105), .int (nI 110), .int (nI 115), .int (nI 101), .int (nI 114), .int (nI 116)] m (fun v m1 => ∃ w2, v = some (.int w2) ∧ (if (m.F 42 17) = w2 then WH (d + 1) 164 239 [(0, .ref 42), (4, .int (nI 1)), (5, .int (nI 0))] [] m1 K else WH (d + 1) 164 239 [(0, .ref 42), (4, .int (nI 0)), (5, .int (nI 0))] [] m1 K))) : WH (d + 1) 164 207 [(0, .ref 42)] [] m K := by
  intro lv0 el
  obtain ⟨e_0, _⟩ := el
  refine wl_ald_n (pc' := 208) rfl e_0 rfl ?_
  refine wp_get (v := .int (m.F 42 17)) (pc' := 211) rfl (hq_42 _) rfl rfl ?_
  refine wp_p (pc' := 213) (lv' := lv0) (st' := [.int (nI 105), .int (m.F 42 17)]) rfl rfl ?_
  refine wp_p (pc' := 215) (lv' := lv0) (st' := [.int (nI 110), .int (nI 105), .int (m.F 42 17)]) rfl rfl ?_
  refine wp_p (pc' := 217) (lv' := lv0) (st' := [.int (nI 115), .int (nI 110), .int (nI 105), .int (m.F 42 17)]) rfl rfl ?_
  refine wp_p (pc' := 219) (lv' := lv0) (st' := [.int (nI 101), .int (nI 115), .int (nI 110), .int (nI 105), .int (m.F 42 17)]) rfl rfl ?_
  refine wp_p (pc' := 221) (lv' := lv0) (st' := [.int (nI 114), .int (nI 101), .int (nI 115), .int (nI 110), .int (nI 105), .int (m.F 42 17)]) rfl rfl ?_
  refine wp_p (pc' := 223) (lv' := lv0) (st' := [.int (nI 116), .int (nI 114), .int (nI 101), .int (nI 115), .int (nI 110), .int (nI 105), .int (m.F 42 17)]) rfl rfl ?_
  refine wl_cs (As := [.int (nI 105), .int (nI 110), .int (nI 115), .int (nI 101), .int (nI 114), .int (nI 116)]) (r := [.int (m.F 42 17)]) (pc' := 226) rfl rfl rfl rfl k ?_
  rintro _ m1 ⟨w2, rfl, k⟩
  show sm_wp (d + 1) 164 226 lv0 [.int w2, .int (m.F 42 17)] (hp m1) (WQ K)
  refine wp_ic_ne (pc' := 229) rfl rfl (fun c3 => ?_) (fun c3 => ?_)
  · replace k := it_f (c := (m.F 42 17) = w2) c3 k
    refine wp_p (pc' := 234) (lv' := lv0) (st' := [.int (nI 0)]) rfl rfl ?_
    refine wl_st1 (pc' := 236) (k0 := 4) (v := .int (nI 0)) (r := []) rfl rfl (fun lv4 e5 f6 => ?_)
    have e7 := f6 0 _ e_0 (by decide) rfl
    refine wp_p (pc' := 237) (lv' := lv4) (st' := [.int (nI 0)]) rfl rfl ?_
    refine wl_st1 (pc' := 239) (k0 := 5) (v := .int (nI 0)) (r := []) rfl rfl (fun lv8 e9 f10 => ?_)
    have e11 := f10 0 _ e7 (by decide) rfl
    have e12 := f10 4 _ e5 (by decide) rfl
    exact k _ ⟨e11, e12, e9, trivial⟩
  · replace k := it_t (c := (m.F 42 17) = w2) c3 k
    refine wp_p (pc' := 230) (lv' := lv0) (st' := [.int (nI 1)]) rfl rfl ?_
    refine wp_p (pc' := 234) (lv' := lv0) (st' := [.int (nI 1)]) rfl rfl ?_
    refine wl_st1 (pc' := 236) (k0 := 4) (v := .int (nI 1)) (r := []) rfl rfl (fun lv13 e14 f15 => ?_)
    have e16 := f15 0 _ e_0 (by decide) rfl
    refine wp_p (pc' := 237) (lv' := lv13) (st' := [.int (nI 0)]) rfl rfl ?_
    refine wl_st1 (pc' := 239) (k0 := 5) (v := .int (nI 0)) (r := []) rfl rfl (fun lv17 e18 f19 => ?_)
    have e20 := f19 0 _ e16 (by decide) rfl
    have e21 := f19 4 _ e14 (by decide) rfl
    exact k _ ⟨e20, e21, e18, trivial⟩
set_option maxRecDepth 20000 in
theorem sg_164_239 {d : Nat} {m : Mm} {K : Option Value → Mm → Prop} (x4 : Int32) (x5 : Int32) (k : (if (m.F 42 7) ≤ x5 then K (some (.int (nI 1))) m else ok (m.A 46).length x5 ∧ (if ((m.A 46).getD (ix x5) 0) = (nI 3) then (if x4 = (nI 0) then WP d 165 [.ref 42, .int x5] m (fun v m5 => ∃ w6, v = some (.int w6) ∧ (if w6 = (nI 0) then WH (d + 1) 164 273 [] [] m5 K else WH (d + 1) 164 275 [(0, .ref 42), (4, .int x4), (5, .int x5)] [] m5 K)) else WH (d + 1) 164 273 [] [] m K) else WH (d + 1) 164 275 [(0, .ref 42), (4, .int x4), (5, .int x5)] [] m K))) : WH (d + 1) 164 239 [(0, .ref 42), (4, .int x4), (5, .int x5)] [] m K := by
  intro lv0 el
  obtain ⟨e_0, e_4, e_5, _⟩ := el
  refine wl_ild (pc' := 241) rfl e_5 rfl ?_
  refine wl_ald_n (pc' := 242) rfl e_0 rfl ?_
  refine wp_get (v := .int (m.F 42 7)) (pc' := 245) rfl (hq_42 _) rfl rfl ?_
  refine wp_ic_ge (pc' := 248) rfl rfl (fun c1 => ?_) (fun c1 => ?_)
  · replace k := it_t (c := (m.F 42 7) ≤ x5) c1 k
    refine wp_p (pc' := 282) (lv' := lv0) (st' := [.int (nI 1)]) rfl rfl ?_
    exact wl_ret rfl rfl ⟨_, rfl, k⟩
  · replace k := it_f (c := (m.F 42 7) ≤ x5) c1 k
    refine wl_ald_n (pc' := 249) rfl e_0 rfl ?_
    refine wp_get (v := .ref 46) (pc' := 252) rfl (hq_42 _) rfl rfl ?_
    refine wl_ild (pc' := 254) rfl e_5 rfl ?_
    obtain ⟨k2, k⟩ := k
    refine wl_iaload (g := m.A 46) (pc' := 255) rfl (hq_46 _) k2 rfl ?_
    refine wp_p (pc' := 256) (lv' := lv0) (st' := [.int (nI 3), .int ((m.A 46).getD (ix x5) 0)]) rfl rfl ?_
    refine wp_ic_ne (pc' := 259) rfl rfl (fun c3 => ?_) (fun c3 => ?_)
    · replace k := it_f (c := ((m.A 46).getD (ix x5) 0) = (nI 3)) c3 k
      exact k _ ⟨e_0, e_4, e_5, trivial⟩
    · replace k := it_t (c := ((m.A 46).getD (ix x5) 0) = (nI 3)) c3 k
      refine wl_ild (pc' := 261) rfl e_4 rfl ?_
      refine wp_if_ne (pc' := 264) rfl rfl (fun c4 => ?_) (fun c4 => ?_)
      · replace k := it_f (c := x4 = (nI 0)) c4 k
        exact k _ trivial
      · replace k := it_t (c := x4 = (nI 0)) c4 k
        refine wl_ald_n (pc' := 265) rfl e_0 rfl ?_
        refine wl_ild (pc' := 267) rfl e_5 rfl ?_
        refine wl_cv (As := [.ref 42, .int x5]) (r := []) (pc' := 270) rfl rfl rfl k ?_
        rintro _ m5 ⟨w6, rfl, k⟩
        show sm_wp (d + 1) 164 270 lv0 [.int w6] (hp m5) (WQ K)
        refine wp_if_ne (pc' := 273) rfl rfl (fun c7 => ?_) (fun c7 => ?_)
        · replace k := it_f (c := w6 = (nI 0)) c7 k
          exact k _ ⟨e_0, e_4, e_5, trivial⟩
        · replace k := it_t (c := w6 = (nI 0)) c7 k
          exact k _ trivial
set_option maxRecDepth 20000 in
theorem sg_164_275 {d : Nat} {m : Mm} {K : Option Value → Mm → Prop} (x4 : Int32) (x5 : Int32) (k : WH d 164 239 [(0, .ref 42), (4, .int x4), (5, .int (x5 + nI 1))] [] m K) : WH d 164 275 [(0, .ref 42), (4, .int x4), (5, .int x5)] [] m K := by
  intro lv0 el
  obtain ⟨e_0, e_4, e_5, _⟩ := el
  refine wl_iinc (pc' := 278) (v := x5 + nI 1) rfl e_5 rfl rfl rfl (fun lv1 e2 f3 => ?_)
  have e4 := f3 0 _ e_0 (by decide) rfl
  have e5 := f3 4 _ e_4 (by decide) rfl
  refine wp_p (pc' := 239) (lv' := lv1) (st' := []) rfl rfl ?_
  exact k _ ⟨e4, e5, e2, trivial⟩
set_option maxRecDepth 20000 in
theorem sg_164_273 {d : Nat} {m : Mm} {K : Option Value → Mm → Prop} (k : K (some (.int (nI 0))) m) : WH d 164 273 [] [] m K := by
  intro lv0 el
  refine wp_p (pc' := 274) (lv' := lv0) (st' := [.int (nI 0)]) rfl rfl ?_
  exact wl_ret rfl rfl ⟨_, rfl, k⟩
/-! 165: QueryTablesModel.place -/
set_option maxRecDepth 20000 in
theorem sp_165 {d : Nat} {m : Mm} {K : Option Value → Mm → Prop} (x1 : Int32) (k : ok (m.A 47).length x1 ∧ ok (m.A 47).length x1 ∧ WH d 165 26 [(0, .ref 42), (1, .int x1), (2, .int (((m.A 47).getD (ix x1) 0) - ((m.A 47).getD (ix x1) 0) / (nI 4) * (nI 4))), (3, .int ((((m.A 47).getD (ix x1) 0) / (nI 4)) - (nI 1))), (4, .int (nI 0)), (5, .int (nI 0))] [] m K) : WP d 165 [.ref 42, .int x1] m K := by
  have e_0 : sm_lk (lv_args 0 [.ref 42, .int x1]) 0 = some (.ref 42) := rfl
  have e_1 : sm_lk (lv_args 0 [.ref 42, .int x1]) 1 = some (.int x1) := rfl
  show sm_wp d 165 0 (lv_args 0 [.ref 42, .int x1]) [] (hp m) (WQ K)
  generalize lv_args 0 [.ref 42, .int x1] = lv0 at *
  refine wl_ald_n (pc' := 1) rfl e_0 rfl ?_
  refine wp_get (v := .ref 47) (pc' := 4) rfl (hq_42 _) rfl rfl ?_
  refine wl_ild_n (pc' := 5) rfl e_1 rfl ?_
  obtain ⟨k1, k⟩ := k
  refine wl_iaload (g := m.A 47) (pc' := 6) rfl (hq_47 _) k1 rfl ?_
  refine wp_p (pc' := 7) (lv' := lv0) (st' := [.int (nI 4), .int ((m.A 47).getD (ix x1) 0)]) rfl rfl ?_
  refine wp_irem (v := ((m.A 47).getD (ix x1) 0) - ((m.A 47).getD (ix x1) 0) / (nI 4) * (nI 4)) (pc' := 8) rfl (by decide) rfl rfl ?_
  refine wl_st1 (pc' := 9) (k0 := 2) (v := .int (((m.A 47).getD (ix x1) 0) - ((m.A 47).getD (ix x1) 0) / (nI 4) * (nI 4))) (r := []) rfl rfl (fun lv2 e3 f4 => ?_)
  have e5 := f4 0 _ e_0 (by decide) rfl
  have e6 := f4 1 _ e_1 (by decide) rfl
  refine wl_ald_n (pc' := 10) rfl e5 rfl ?_
  refine wp_get (v := .ref 47) (pc' := 13) rfl (hq_42 _) rfl rfl ?_
  refine wl_ild_n (pc' := 14) rfl e6 rfl ?_
  obtain ⟨k7, k⟩ := k
  refine wl_iaload (g := m.A 47) (pc' := 15) rfl (hq_47 _) k7 rfl ?_
  refine wp_p (pc' := 16) (lv' := lv2) (st' := [.int (nI 4), .int ((m.A 47).getD (ix x1) 0)]) rfl rfl ?_
  refine wp_idiv (v := ((m.A 47).getD (ix x1) 0) / (nI 4)) (pc' := 17) rfl (by decide) rfl rfl ?_
  refine wp_p (pc' := 18) (lv' := lv2) (st' := [.int (nI 1), .int (((m.A 47).getD (ix x1) 0) / (nI 4))]) rfl rfl ?_
  refine wp_isub (v := (((m.A 47).getD (ix x1) 0) / (nI 4)) - (nI 1)) (pc' := 19) rfl rfl rfl ?_
  refine wl_st1 (pc' := 20) (k0 := 3) (v := .int ((((m.A 47).getD (ix x1) 0) / (nI 4)) - (nI 1))) (r := []) rfl rfl (fun lv8 e9 f10 => ?_)
  have e11 := f10 0 _ e5 (by decide) rfl
  have e12 := f10 1 _ e6 (by decide) rfl
  have e13 := f10 2 _ e3 (by decide) rfl
  refine wp_p (pc' := 21) (lv' := lv8) (st' := [.int (nI 0)]) rfl rfl ?_
  refine wl_st1 (pc' := 23) (k0 := 4) (v := .int (nI 0)) (r := []) rfl rfl (fun lv14 e15 f16 => ?_)
  have e17 := f16 0 _ e11 (by decide) rfl
  have e18 := f16 1 _ e12 (by decide) rfl
  have e19 := f16 2 _ e13 (by decide) rfl
  have e20 := f16 3 _ e9 (by decide) rfl
  refine wp_p (pc' := 24) (lv' := lv14) (st' := [.int (nI 0)]) rfl rfl ?_
  refine wl_st1 (pc' := 26) (k0 := 5) (v := .int (nI 0)) (r := []) rfl rfl (fun lv21 e22 f23 => ?_)
  have e24 := f23 0 _ e17 (by decide) rfl
  have e25 := f23 1 _ e18 (by decide) rfl
  have e26 := f23 2 _ e19 (by decide) rfl
  have e27 := f23 3 _ e20 (by decide) rfl
  have e28 := f23 4 _ e15 (by decide) rfl
  exact k _ ⟨e24, e25, e26, e27, e28, e22, trivial⟩
set_option maxRecDepth 20000 in
theorem sg_165_26 {d : Nat} {m : Mm} {K : Option Value → Mm → Prop} (x1 : Int32) (x2 : Int32) (x3 : Int32) (x4 : Int32) (x5 : Int32) (k : (if (m.F 42 19) ≤ x5 then (if x4 = (nI 1) then K (some (.int (nI 1))) m else K (some (.int (nI 0))) m) else (if x3 < (nI 0) then ok (m.A 50).length x5 ∧ ok (m.A 56).length ((m.A 50).getD (ix x5) 0) ∧ (if ((m.A 56).getD (ix ((m.A 50).getD (ix x5) 0)) 0) ≤ x2 then WH d 165 26 [(0, .ref 42), (1, .int x1), (2, .int x2), (3, .int x3), (4, .int x4), (5, .int (x5 + nI 1))] [] m K else ok (m.A 50).length x5 ∧ ok (m.A 47).length x1 ∧ WH d 165 26 [(0, .ref 42), (1, .int x1), (2, .int x2), (3, .int x3), (4, .int (x4 + nI 1)), (5, .int (x5 + nI 1))] [] (m.uA 47 ((m.A 47).set (ix x1) (((nI 4) * ((m.A 50).getD (ix x5) 0)) + x2))) K) else ok (m.A 50).length x5 ∧ (if x3 = ((m.A 50).getD (ix x5) 0) then ok (m.A 50).length x5 ∧ ok (m.A 56).length ((m.A 50).getD (ix x5) 0) ∧ (if ((m.A 56).getD (ix ((m.A 50).getD (ix x5) 0)) 0) ≤ x2 then WH d 165 26 [(0, .ref 42), (1, .int x1), (2, .int x2), (3, .int x3), (4, .int x4), (5, .int (x5 + nI 1))] [] m K else ok (m.A 50).length x5 ∧ ok (m.A 47).length x1 ∧ WH d 165 26 [(0, .ref 42), (1, .int x1), (2, .int x2), (3, .int x3), (4, .int (x4 + nI 1)), (5, .int (x5 + nI 1))] [] (m.uA 47 ((m.A 47).set (ix x1) (((nI 4) * ((m.A 50).getD (ix x5) 0)) + x2))) K) else WH d 165 26 [(0, .ref 42), (1, .int x1), (2, .int x2), (3, .int x3), (4, .int x4), (5, .int (x5 + nI 1))] [] m K)))) : WH d 165 26 [(0, .ref 42), (1, .int x1), (2, .int x2), (3, .int x3), (4, .int x4), (5, .int x5)] [] m K := by
  intro lv0 el
  obtain ⟨e_0, e_1, e_2, e_3, e_4, e_5, _⟩ := el
  refine wl_ild (pc' := 28) rfl e_5 rfl ?_
  refine wl_ald_n (pc' := 29) rfl e_0 rfl ?_
  refine wp_get (v := .int (m.F 42 19)) (pc' := 32) rfl (hq_42 _) rfl rfl ?_
  refine wp_ic_ge (pc' := 35) rfl rfl (fun c1 => ?_) (fun c1 => ?_)
  · replace k := it_t (c := (m.F 42 19) ≤ x5) c1 k
    refine wl_ild (pc' := 94) rfl e_4 rfl ?_
    refine wp_p (pc' := 95) (lv' := lv0) (st' := [.int (nI 1), .int x4]) rfl rfl ?_
    refine wp_ic_ne (pc' := 98) rfl rfl (fun c2 => ?_) (fun c2 => ?_)
    · replace k := it_f (c := x4 = (nI 1)) c2 k
      refine wp_p (pc' := 103) (lv' := lv0) (st' := [.int (nI 0)]) rfl rfl ?_
      exact wl_ret rfl rfl ⟨_, rfl, k⟩
    · replace k := it_t (c := x4 = (nI 1)) c2 k
      refine wp_p (pc' := 99) (lv' := lv0) (st' := [.int (nI 1)]) rfl rfl ?_
      refine wp_p (pc' := 103) (lv' := lv0) (st' := [.int (nI 1)]) rfl rfl ?_
      exact wl_ret rfl rfl ⟨_, rfl, k⟩
  · replace k := it_f (c := (m.F 42 19) ≤ x5) c1 k
    refine wl_ild_n (pc' := 36) rfl e_3 rfl ?_
    refine wp_if_lt (pc' := 39) rfl rfl (fun c3 => ?_) (fun c3 => ?_)
    · replace k := it_t (c := x3 < (nI 0)) c3 k
      refine wl_ild_n (pc' := 51) rfl e_2 rfl ?_
      refine wl_ald_n (pc' := 52) rfl e_0 rfl ?_
      refine wp_get (v := .ref 56) (pc' := 55) rfl (hq_42 _) rfl rfl ?_
      refine wl_ald_n (pc' := 56) rfl e_0 rfl ?_
      refine wp_get (v := .ref 50) (pc' := 59) rfl (hq_42 _) rfl rfl ?_
      refine wl_ild (pc' := 61) rfl e_5 rfl ?_
      obtain ⟨k4, k⟩ := k
      refine wl_iaload (g := m.A 50) (pc' := 62) rfl (hq_50 _) k4 rfl ?_
      obtain ⟨k5, k⟩ := k
      refine wl_iaload (g := m.A 56) (pc' := 63) rfl (hq_56 _) k5 rfl ?_
      refine wp_ic_ge (pc' := 66) rfl rfl (fun c6 => ?_) (fun c6 => ?_)
      · replace k := it_t (c := ((m.A 56).getD (ix ((m.A 50).getD (ix x5) 0)) 0) ≤ x2) c6 k
        refine wl_iinc (pc' := 89) (v := x5 + nI 1) rfl e_5 rfl rfl rfl (fun lv7 e8 f9 => ?_)
        have e10 := f9 0 _ e_0 (by decide) rfl
        have e11 := f9 1 _ e_1 (by decide) rfl
        have e12 := f9 2 _ e_2 (by decide) rfl
        have e13 := f9 3 _ e_3 (by decide) rfl
        have e14 := f9 4 _ e_4 (by decide) rfl
        refine wp_p (pc' := 26) (lv' := lv7) (st' := []) rfl rfl ?_
        exact k _ ⟨e10, e11, e12, e13, e14, e8, trivial⟩
      · replace k := it_f (c := ((m.A 56).getD (ix ((m.A 50).getD (ix x5) 0)) 0) ≤ x2) c6 k
        refine wl_iinc (pc' := 69) (v := x4 + nI 1) rfl e_4 rfl rfl rfl (fun lv15 e16 f17 => ?_)
        have e18 := f17 0 _ e_0 (by decide) rfl
        have e19 := f17 1 _ e_1 (by decide) rfl
        have e20 := f17 2 _ e_2 (by decide) rfl
        have e21 := f17 3 _ e_3 (by decide) rfl
        have e22 := f17 5 _ e_5 (by decide) rfl
        refine wl_ald_n (pc' := 70) rfl e18 rfl ?_
        refine wp_get (v := .ref 47) (pc' := 73) rfl (hq_42 _) rfl rfl ?_
        refine wl_ild_n (pc' := 74) rfl e19 rfl ?_
        refine wp_p (pc' := 75) (lv' := lv15) (st' := [.int (nI 4), .int x1, .ref 47]) rfl rfl ?_
        refine wl_ald_n (pc' := 76) rfl e18 rfl ?_
        refine wp_get (v := .ref 50) (pc' := 79) rfl (hq_42 _) rfl rfl ?_
        refine wl_ild (pc' := 81) rfl e22 rfl ?_
        obtain ⟨k23, k⟩ := k
        refine wl_iaload (g := m.A 50) (pc' := 82) rfl (hq_50 _) k23 rfl ?_
        refine wp_imul (v := (nI 4) * ((m.A 50).getD (ix x5) 0)) (pc' := 83) rfl rfl rfl ?_
        refine wl_ild_n (pc' := 84) rfl e20 rfl ?_
        refine wp_iadd (v := ((nI 4) * ((m.A 50).getD (ix x5) 0)) + x2) (pc' := 85) rfl rfl rfl ?_
        obtain ⟨k24, k⟩ := k
        refine wl_iastore (g := m.A 47) (pc' := 86) (h2 := hp (m.uA 47 ((m.A 47).set (ix x1) (((nI 4) * ((m.A 50).getD (ix x5) 0)) + x2)))) rfl (hq_47 _) k24 rfl (pa_47 _ _) ?_
        refine wl_iinc (pc' := 89) (v := x5 + nI 1) rfl e22 rfl rfl rfl (fun lv25 e26 f27 => ?_)
        have e28 := f27 0 _ e18 (by decide) rfl
        have e29 := f27 1 _ e19 (by decide) rfl
        have e30 := f27 2 _ e20 (by decide) rfl
        have e31 := f27 3 _ e21 (by decide) rfl
        have e32 := f27 4 _ e16 (by decide) rfl
        refine wp_p (pc' := 26) (lv' := lv25) (st' := []) rfl rfl ?_
        exact k _ ⟨e28, e29, e30, e31, e32, e26, trivial⟩
    · replace k := it_f (c := x3 < (nI 0)) c3 k
      refine wl_ild_n (pc' := 40) rfl e_3 rfl ?_
      refine wl_ald_n (pc' := 41) rfl e_0 rfl ?_
      refine wp_get (v := .ref 50) (pc' := 44) rfl (hq_42 _) rfl rfl ?_
      refine wl_ild (pc' := 46) rfl e_5 rfl ?_
      obtain ⟨k33, k⟩ := k
      refine wl_iaload (g := m.A 50) (pc' := 47) rfl (hq_50 _) k33 rfl ?_
      refine wp_ic_ne (pc' := 50) rfl rfl (fun c34 => ?_) (fun c34 => ?_)
      · replace k := it_f (c := x3 = ((m.A 50).getD (ix x5) 0)) c34 k
        refine wl_iinc (pc' := 89) (v := x5 + nI 1) rfl e_5 rfl rfl rfl (fun lv35 e36 f37 => ?_)
        have e38 := f37 0 _ e_0 (by decide) rfl
        have e39 := f37 1 _ e_1 (by decide) rfl
        have e40 := f37 2 _ e_2 (by decide) rfl
        have e41 := f37 3 _ e_3 (by decide) rfl
        have e42 := f37 4 _ e_4 (by decide) rfl
        refine wp_p (pc' := 26) (lv' := lv35) (st' := []) rfl rfl ?_
        exact k _ ⟨e38, e39, e40, e41, e42, e36, trivial⟩
      · replace k := it_t (c := x3 = ((m.A 50).getD (ix x5) 0)) c34 k
        refine wl_ild_n (pc' := 51) rfl e_2 rfl ?_
        refine wl_ald_n (pc' := 52) rfl e_0 rfl ?_
        refine wp_get (v := .ref 56) (pc' := 55) rfl (hq_42 _) rfl rfl ?_
        refine wl_ald_n (pc' := 56) rfl e_0 rfl ?_
        refine wp_get (v := .ref 50) (pc' := 59) rfl (hq_42 _) rfl rfl ?_
        refine wl_ild (pc' := 61) rfl e_5 rfl ?_
        obtain ⟨k43, k⟩ := k
        refine wl_iaload (g := m.A 50) (pc' := 62) rfl (hq_50 _) k43 rfl ?_
        obtain ⟨k44, k⟩ := k
        refine wl_iaload (g := m.A 56) (pc' := 63) rfl (hq_56 _) k44 rfl ?_
        refine wp_ic_ge (pc' := 66) rfl rfl (fun c45 => ?_) (fun c45 => ?_)
        · replace k := it_t (c := ((m.A 56).getD (ix ((m.A 50).getD (ix x5) 0)) 0) ≤ x2) c45 k
          refine wl_iinc (pc' := 89) (v := x5 + nI 1) rfl e_5 rfl rfl rfl (fun lv46 e47 f48 => ?_)
          have e49 := f48 0 _ e_0 (by decide) rfl
          have e50 := f48 1 _ e_1 (by decide) rfl
          have e51 := f48 2 _ e_2 (by decide) rfl
          have e52 := f48 3 _ e_3 (by decide) rfl
          have e53 := f48 4 _ e_4 (by decide) rfl
          refine wp_p (pc' := 26) (lv' := lv46) (st' := []) rfl rfl ?_
          exact k _ ⟨e49, e50, e51, e52, e53, e47, trivial⟩
        · replace k := it_f (c := ((m.A 56).getD (ix ((m.A 50).getD (ix x5) 0)) 0) ≤ x2) c45 k
          refine wl_iinc (pc' := 69) (v := x4 + nI 1) rfl e_4 rfl rfl rfl (fun lv54 e55 f56 => ?_)
          have e57 := f56 0 _ e_0 (by decide) rfl
          have e58 := f56 1 _ e_1 (by decide) rfl
          have e59 := f56 2 _ e_2 (by decide) rfl
          have e60 := f56 3 _ e_3 (by decide) rfl
          have e61 := f56 5 _ e_5 (by decide) rfl
          refine wl_ald_n (pc' := 70) rfl e57 rfl ?_
          refine wp_get (v := .ref 47) (pc' := 73) rfl (hq_42 _) rfl rfl ?_
          refine wl_ild_n (pc' := 74) rfl e58 rfl ?_
          refine wp_p (pc' := 75) (lv' := lv54) (st' := [.int (nI 4), .int x1, .ref 47]) rfl rfl ?_
          refine wl_ald_n (pc' := 76) rfl e57 rfl ?_
          refine wp_get (v := .ref 50) (pc' := 79) rfl (hq_42 _) rfl rfl ?_
          refine wl_ild (pc' := 81) rfl e61 rfl ?_
          obtain ⟨k62, k⟩ := k
          refine wl_iaload (g := m.A 50) (pc' := 82) rfl (hq_50 _) k62 rfl ?_
          refine wp_imul (v := (nI 4) * ((m.A 50).getD (ix x5) 0)) (pc' := 83) rfl rfl rfl ?_
          refine wl_ild_n (pc' := 84) rfl e59 rfl ?_
          refine wp_iadd (v := ((nI 4) * ((m.A 50).getD (ix x5) 0)) + x2) (pc' := 85) rfl rfl rfl ?_
          obtain ⟨k63, k⟩ := k
          refine wl_iastore (g := m.A 47) (pc' := 86) (h2 := hp (m.uA 47 ((m.A 47).set (ix x1) (((nI 4) * ((m.A 50).getD (ix x5) 0)) + x2)))) rfl (hq_47 _) k63 rfl (pa_47 _ _) ?_
          refine wl_iinc (pc' := 89) (v := x5 + nI 1) rfl e61 rfl rfl rfl (fun lv64 e65 f66 => ?_)
          have e67 := f66 0 _ e57 (by decide) rfl
          have e68 := f66 1 _ e58 (by decide) rfl
          have e69 := f66 2 _ e59 (by decide) rfl
          have e70 := f66 3 _ e60 (by decide) rfl
          have e71 := f66 4 _ e55 (by decide) rfl
          refine wp_p (pc' := 26) (lv' := lv64) (st' := []) rfl rfl ?_
          exact k _ ⟨e67, e68, e69, e70, e71, e65, trivial⟩
