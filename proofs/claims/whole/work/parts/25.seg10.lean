/-! SEGMENTS of the methods 166 to 175 (by program, wip/whole/gen25.py): what must hold of a way from one place to the next -/
/-! 166: QueryTablesModel.run -/
set_option maxRecDepth 20000 in
theorem sp_166 {d : Nat} {m : Mm} {K : Option Value → Mm → Prop} (k : WP d 160 [.ref 42] m (fun v m1 => v = none ∧ WP d 138 [.ref 42] m1 (fun v m2 => v = none ∧ (if (m2.F 42 6) = (nI 0) then WP d 162 [.ref 42] m2 (fun v m4 => v = none ∧ WH (d + 1) 166 19 [(0, .ref 42)] [] m4 K) else WH (d + 1) 166 19 [(0, .ref 42)] [] m2 K)))) : WP (d + 1) 166 [.ref 42] m K := by
  have e_0 : sm_lk (lv_args 0 [.ref 42]) 0 = some (.ref 42) := rfl
  show sm_wp (d + 1) 166 0 (lv_args 0 [.ref 42]) [] (hp m) (WQ K)
  generalize lv_args 0 [.ref 42] = lv0 at *
  refine wl_ald_n (pc' := 1) rfl e_0 rfl ?_
  refine wl_cv (As := [.ref 42]) (r := []) (pc' := 4) rfl rfl rfl k ?_
  rintro _ m1 ⟨rfl, k⟩
  show sm_wp (d + 1) 166 4 lv0 [] (hp m1) (WQ K)
  refine wl_ald_n (pc' := 5) rfl e_0 rfl ?_
  refine wl_cv (As := [.ref 42]) (r := []) (pc' := 8) rfl rfl rfl k ?_
  rintro _ m2 ⟨rfl, k⟩
  show sm_wp (d + 1) 166 8 lv0 [] (hp m2) (WQ K)
  refine wl_ald_n (pc' := 9) rfl e_0 rfl ?_
  refine wp_get (v := .int (m2.F 42 6)) (pc' := 12) rfl (hq_42 _) rfl rfl ?_
  refine wp_if_ne (pc' := 15) rfl rfl (fun c3 => ?_) (fun c3 => ?_)
  · replace k := it_f (c := (m2.F 42 6) = (nI 0)) c3 k
    exact k _ ⟨e_0, trivial⟩
  · replace k := it_t (c := (m2.F 42 6) = (nI 0)) c3 k
    refine wl_ald_n (pc' := 16) rfl e_0 rfl ?_
    refine wl_cv (As := [.ref 42]) (r := []) (pc' := 19) rfl rfl rfl k ?_
    rintro _ m4 ⟨rfl, k⟩
    show sm_wp (d + 1) 166 19 lv0 [] (hp m4) (WQ K)
    exact k _ ⟨e_0, trivial⟩
set_option maxRecDepth 20000 in
theorem sg_166_19 {d : Nat} {m : Mm} {K : Option Value → Mm → Prop} (k : (if (m.F 42 6) = (nI 0) then WP d 164 [.ref 42] (m.uF 42 1 (nI 0)) (fun v m2 => ∃ w3, v = some (.int w3) ∧ (if w3 = (nI 0) then K (some (.int (nI 2))) m2 else ok (m2.A 50).length (nI 0) ∧ WP d 139 [.int (nI 99), .int (nI 114), .int (nI 101), .int (nI 97), .int (nI 116), .int (nI 101)] m2 (fun v m10 => ∃ w11, v = some (.int w11) ∧ (if (m2.F 42 17) = w11 then (if (m10.F 42 21) < (nI 1) then WH (d + 1) 166 87 [] [] m10 K else (if (m10.F 42 21) ≤ (nI 4) then ok (m10.A 56).length ((m2.A 50).getD (ix (nI 0)) 0) ∧ K (some (.int (nI 0))) (m10.uA 56 ((m10.A 56).set (ix ((m2.A 50).getD (ix (nI 0)) 0)) (m10.F 42 21))) else WH (d + 1) 166 87 [] [] m10 K)) else WP d 139 [.int (nI 105), .int (nI 110), .int (nI 100), .int (nI 101), .int (nI 120), .int (nI 0)] m10 (fun v m13 => ∃ w14, v = some (.int w14) ∧ (if (m10.F 42 17) = w14 then ok (m13.A 59).length (((nI 4) * ((m2.A 50).getD (ix (nI 0)) 0)) + (m13.F 42 20)) ∧ K (some (.int (nI 0))) (m13.uA 59 ((m13.A 59).set (ix (((nI 4) * ((m2.A 50).getD (ix (nI 0)) 0)) + (m13.F 42 20))) (vp_nar .boolean (nI 1)))) else WP d 139 [.int (nI 105), .int (nI 110), .int (nI 115), .int (nI 101), .int (nI 114), .int (nI 116)] m13 (fun v m16 => ∃ w17, v = some (.int w17) ∧ (if (m13.F 42 17) = w17 then WP d 180 [.ref 42, .int ((m2.A 50).getD (ix (nI 0)) 0)] m16 (fun v m32 => ∃ w33, v = some (.int w33) ∧ K (some (.int w33)) m32) else WP d 139 [.int (nI 115), .int (nI 101), .int (nI 108), .int (nI 101), .int (nI 99), .int (nI 116)] m16 (fun v m19 => ∃ w20, v = some (.int w20) ∧ (if (m16.F 42 17) = w20 then WP d 184 [.ref 42] m19 (fun v m30 => ∃ w31, v = some (.int w31) ∧ K (some (.int w31)) m30) else WP d 181 [.ref 42, .int ((m2.A 50).getD (ix (nI 0)) 0)] m19 (fun v m22 => v = none ∧ WP d 139 [.int (nI 117), .int (nI 112), .int (nI 100), .int (nI 97), .int (nI 116), .int (nI 101)] m22 (fun v m23 => ∃ w24, v = some (.int w24) ∧ (if (m22.F 42 17) = w24 then WP d 182 [.ref 42, .int ((m2.A 50).getD (ix (nI 0)) 0)] m23 (fun v m28 => ∃ w29, v = some (.int w29) ∧ K (some (.int w29)) m28) else WP d 177 [.ref 42, .int ((m2.A 50).getD (ix (nI 0)) 0)] m23 (fun v m26 => v = none ∧ WP d 183 [.ref 42, .int ((m2.A 50).getD (ix (nI 0)) 0)] m26 (fun v m27 => v = none ∧ K (some (.int (nI 0))) m27))))))))))))))) else K (some (.int (nI 1))) (m.uF 42 1 (nI 0)))) : WH (d + 1) 166 19 [(0, .ref 42)] [] m K := by
  intro lv0 el
  obtain ⟨e_0, _⟩ := el
  refine wl_ald_n (pc' := 20) rfl e_0 rfl ?_
  refine wp_p (pc' := 21) (lv' := lv0) (st' := [.int (nI 0), .ref 42]) rfl rfl ?_
  refine wl_put (pc' := 24) (h2 := hp (m.uF 42 1 (nI 0))) rfl (hq_42 _) rfl rfl rfl (pf_42_1 _ _) ?_
  refine wl_ald_n (pc' := 25) rfl e_0 rfl ?_
  refine wp_get (v := .int (m.F 42 6)) (pc' := 28) rfl (hq_42 _) rfl rfl ?_
  refine wp_if_eq (pc' := 31) rfl rfl (fun c1 => ?_) (fun c1 => ?_)
  · replace k := it_t (c := (m.F 42 6) = (nI 0)) c1 k
    refine wl_ald_n (pc' := 34) rfl e_0 rfl ?_
    refine wl_cv (As := [.ref 42]) (r := []) (pc' := 37) rfl rfl rfl k ?_
    rintro _ m2 ⟨w3, rfl, k⟩
    show sm_wp (d + 1) 166 37 lv0 [.int w3] (hp m2) (WQ K)
    refine wp_if_ne (pc' := 40) rfl rfl (fun c4 => ?_) (fun c4 => ?_)
    · replace k := it_f (c := w3 = (nI 0)) c4 k
      refine wl_ald_n (pc' := 43) rfl e_0 rfl ?_
      refine wp_get (v := .ref 50) (pc' := 46) rfl (hq_42 _) rfl rfl ?_
      refine wp_p (pc' := 47) (lv' := lv0) (st' := [.int (nI 0), .ref 50]) rfl rfl ?_
      obtain ⟨k5, k⟩ := k
      refine wl_iaload (g := m2.A 50) (pc' := 48) rfl (hq_50 _) k5 rfl ?_
      refine wl_st1 (pc' := 49) (k0 := 1) (v := .int ((m2.A 50).getD (ix (nI 0)) 0)) (r := []) rfl rfl (fun lv6 e7 f8 => ?_)
      have e9 := f8 0 _ e_0 (by decide) rfl
      refine wl_ald_n (pc' := 50) rfl e9 rfl ?_
      refine wp_get (v := .int (m2.F 42 17)) (pc' := 53) rfl (hq_42 _) rfl rfl ?_
      refine wp_p (pc' := 55) (lv' := lv6) (st' := [.int (nI 99), .int (m2.F 42 17)]) rfl rfl ?_
      refine wp_p (pc' := 57) (lv' := lv6) (st' := [.int (nI 114), .int (nI 99), .int (m2.F 42 17)]) rfl rfl ?_
      refine wp_p (pc' := 59) (lv' := lv6) (st' := [.int (nI 101), .int (nI 114), .int (nI 99), .int (m2.F 42 17)]) rfl rfl ?_
      refine wp_p (pc' := 61) (lv' := lv6) (st' := [.int (nI 97), .int (nI 101), .int (nI 114), .int (nI 99), .int (m2.F 42 17)]) rfl rfl ?_
      refine wp_p (pc' := 63) (lv' := lv6) (st' := [.int (nI 116), .int (nI 97), .int (nI 101), .int (nI 114), .int (nI 99), .int (m2.F 42 17)]) rfl rfl ?_
      refine wp_p (pc' := 65) (lv' := lv6) (st' := [.int (nI 101), .int (nI 116), .int (nI 97), .int (nI 101), .int (nI 114), .int (nI 99), .int (m2.F 42 17)]) rfl rfl ?_
      refine wl_cs (As := [.int (nI 99), .int (nI 114), .int (nI 101), .int (nI 97), .int (nI 116), .int (nI 101)]) (r := [.int (m2.F 42 17)]) (pc' := 68) rfl rfl rfl rfl k ?_
      rintro _ m10 ⟨w11, rfl, k⟩
      show sm_wp (d + 1) 166 68 lv6 [.int w11, .int (m2.F 42 17)] (hp m10) (WQ K)
      refine wp_ic_ne (pc' := 71) rfl rfl (fun c12 => ?_) (fun c12 => ?_)
      · replace k := it_f (c := (m2.F 42 17) = w11) c12 k
        refine wl_ald_n (pc' := 102) rfl e9 rfl ?_
        refine wp_get (v := .int (m10.F 42 17)) (pc' := 105) rfl (hq_42 _) rfl rfl ?_
        refine wp_p (pc' := 107) (lv' := lv6) (st' := [.int (nI 105), .int (m10.F 42 17)]) rfl rfl ?_
        refine wp_p (pc' := 109) (lv' := lv6) (st' := [.int (nI 110), .int (nI 105), .int (m10.F 42 17)]) rfl rfl ?_
        refine wp_p (pc' := 111) (lv' := lv6) (st' := [.int (nI 100), .int (nI 110), .int (nI 105), .int (m10.F 42 17)]) rfl rfl ?_
        refine wp_p (pc' := 113) (lv' := lv6) (st' := [.int (nI 101), .int (nI 100), .int (nI 110), .int (nI 105), .int (m10.F 42 17)]) rfl rfl ?_
        refine wp_p (pc' := 115) (lv' := lv6) (st' := [.int (nI 120), .int (nI 101), .int (nI 100), .int (nI 110), .int (nI 105), .int (m10.F 42 17)]) rfl rfl ?_
        refine wp_p (pc' := 116) (lv' := lv6) (st' := [.int (nI 0), .int (nI 120), .int (nI 101), .int (nI 100), .int (nI 110), .int (nI 105), .int (m10.F 42 17)]) rfl rfl ?_
        refine wl_cs (As := [.int (nI 105), .int (nI 110), .int (nI 100), .int (nI 101), .int (nI 120), .int (nI 0)]) (r := [.int (m10.F 42 17)]) (pc' := 119) rfl rfl rfl rfl k ?_
        rintro _ m13 ⟨w14, rfl, k⟩
        show sm_wp (d + 1) 166 119 lv6 [.int w14, .int (m10.F 42 17)] (hp m13) (WQ K)
        refine wp_ic_ne (pc' := 122) rfl rfl (fun c15 => ?_) (fun c15 => ?_)
        · replace k := it_f (c := (m10.F 42 17) = w14) c15 k
          refine wl_ald_n (pc' := 139) rfl e9 rfl ?_
          refine wp_get (v := .int (m13.F 42 17)) (pc' := 142) rfl (hq_42 _) rfl rfl ?_
          refine wp_p (pc' := 144) (lv' := lv6) (st' := [.int (nI 105), .int (m13.F 42 17)]) rfl rfl ?_
          refine wp_p (pc' := 146) (lv' := lv6) (st' := [.int (nI 110), .int (nI 105), .int (m13.F 42 17)]) rfl rfl ?_
          refine wp_p (pc' := 148) (lv' := lv6) (st' := [.int (nI 115), .int (nI 110), .int (nI 105), .int (m13.F 42 17)]) rfl rfl ?_
          refine wp_p (pc' := 150) (lv' := lv6) (st' := [.int (nI 101), .int (nI 115), .int (nI 110), .int (nI 105), .int (m13.F 42 17)]) rfl rfl ?_
          refine wp_p (pc' := 152) (lv' := lv6) (st' := [.int (nI 114), .int (nI 101), .int (nI 115), .int (nI 110), .int (nI 105), .int (m13.F 42 17)]) rfl rfl ?_
          refine wp_p (pc' := 154) (lv' := lv6) (st' := [.int (nI 116), .int (nI 114), .int (nI 101), .int (nI 115), .int (nI 110), .int (nI 105), .int (m13.F 42 17)]) rfl rfl ?_
          refine wl_cs (As := [.int (nI 105), .int (nI 110), .int (nI 115), .int (nI 101), .int (nI 114), .int (nI 116)]) (r := [.int (m13.F 42 17)]) (pc' := 157) rfl rfl rfl rfl k ?_
          rintro _ m16 ⟨w17, rfl, k⟩
          show sm_wp (d + 1) 166 157 lv6 [.int w17, .int (m13.F 42 17)] (hp m16) (WQ K)
          refine wp_ic_ne (pc' := 160) rfl rfl (fun c18 => ?_) (fun c18 => ?_)
          · replace k := it_f (c := (m13.F 42 17) = w17) c18 k
            refine wl_ald_n (pc' := 167) rfl e9 rfl ?_
            refine wp_get (v := .int (m16.F 42 17)) (pc' := 170) rfl (hq_42 _) rfl rfl ?_
            refine wp_p (pc' := 172) (lv' := lv6) (st' := [.int (nI 115), .int (m16.F 42 17)]) rfl rfl ?_
            refine wp_p (pc' := 174) (lv' := lv6) (st' := [.int (nI 101), .int (nI 115), .int (m16.F 42 17)]) rfl rfl ?_
            refine wp_p (pc' := 176) (lv' := lv6) (st' := [.int (nI 108), .int (nI 101), .int (nI 115), .int (m16.F 42 17)]) rfl rfl ?_
            refine wp_p (pc' := 178) (lv' := lv6) (st' := [.int (nI 101), .int (nI 108), .int (nI 101), .int (nI 115), .int (m16.F 42 17)]) rfl rfl ?_
            refine wp_p (pc' := 180) (lv' := lv6) (st' := [.int (nI 99), .int (nI 101), .int (nI 108), .int (nI 101), .int (nI 115), .int (m16.F 42 17)]) rfl rfl ?_
            refine wp_p (pc' := 182) (lv' := lv6) (st' := [.int (nI 116), .int (nI 99), .int (nI 101), .int (nI 108), .int (nI 101), .int (nI 115), .int (m16.F 42 17)]) rfl rfl ?_
            refine wl_cs (As := [.int (nI 115), .int (nI 101), .int (nI 108), .int (nI 101), .int (nI 99), .int (nI 116)]) (r := [.int (m16.F 42 17)]) (pc' := 185) rfl rfl rfl rfl k ?_
            rintro _ m19 ⟨w20, rfl, k⟩
            show sm_wp (d + 1) 166 185 lv6 [.int w20, .int (m16.F 42 17)] (hp m19) (WQ K)
            refine wp_ic_ne (pc' := 188) rfl rfl (fun c21 => ?_) (fun c21 => ?_)
            · replace k := it_f (c := (m16.F 42 17) = w20) c21 k
              refine wl_ald_n (pc' := 194) rfl e9 rfl ?_
              refine wl_ild_n (pc' := 195) rfl e7 rfl ?_
              refine wl_cv (As := [.ref 42, .int ((m2.A 50).getD (ix (nI 0)) 0)]) (r := []) (pc' := 198) rfl rfl rfl k ?_
              rintro _ m22 ⟨rfl, k⟩
              show sm_wp (d + 1) 166 198 lv6 [] (hp m22) (WQ K)
              refine wl_ald_n (pc' := 199) rfl e9 rfl ?_
              refine wp_get (v := .int (m22.F 42 17)) (pc' := 202) rfl (hq_42 _) rfl rfl ?_
              refine wp_p (pc' := 204) (lv' := lv6) (st' := [.int (nI 117), .int (m22.F 42 17)]) rfl rfl ?_
              refine wp_p (pc' := 206) (lv' := lv6) (st' := [.int (nI 112), .int (nI 117), .int (m22.F 42 17)]) rfl rfl ?_
              refine wp_p (pc' := 208) (lv' := lv6) (st' := [.int (nI 100), .int (nI 112), .int (nI 117), .int (m22.F 42 17)]) rfl rfl ?_
              refine wp_p (pc' := 210) (lv' := lv6) (st' := [.int (nI 97), .int (nI 100), .int (nI 112), .int (nI 117), .int (m22.F 42 17)]) rfl rfl ?_
              refine wp_p (pc' := 212) (lv' := lv6) (st' := [.int (nI 116), .int (nI 97), .int (nI 100), .int (nI 112), .int (nI 117), .int (m22.F 42 17)]) rfl rfl ?_
              refine wp_p (pc' := 214) (lv' := lv6) (st' := [.int (nI 101), .int (nI 116), .int (nI 97), .int (nI 100), .int (nI 112), .int (nI 117), .int (m22.F 42 17)]) rfl rfl ?_
              refine wl_cs (As := [.int (nI 117), .int (nI 112), .int (nI 100), .int (nI 97), .int (nI 116), .int (nI 101)]) (r := [.int (m22.F 42 17)]) (pc' := 217) rfl rfl rfl rfl k ?_
              rintro _ m23 ⟨w24, rfl, k⟩
              show sm_wp (d + 1) 166 217 lv6 [.int w24, .int (m22.F 42 17)] (hp m23) (WQ K)
              refine wp_ic_ne (pc' := 220) rfl rfl (fun c25 => ?_) (fun c25 => ?_)
              · replace k := it_f (c := (m22.F 42 17) = w24) c25 k
                refine wl_ald_n (pc' := 227) rfl e9 rfl ?_
                refine wl_ild_n (pc' := 228) rfl e7 rfl ?_
                refine wl_cv (As := [.ref 42, .int ((m2.A 50).getD (ix (nI 0)) 0)]) (r := []) (pc' := 231) rfl rfl rfl k ?_
                rintro _ m26 ⟨rfl, k⟩
                show sm_wp (d + 1) 166 231 lv6 [] (hp m26) (WQ K)
                refine wl_ald_n (pc' := 232) rfl e9 rfl ?_
                refine wl_ild_n (pc' := 233) rfl e7 rfl ?_
                refine wl_cv (As := [.ref 42, .int ((m2.A 50).getD (ix (nI 0)) 0)]) (r := []) (pc' := 236) rfl rfl rfl k ?_
                rintro _ m27 ⟨rfl, k⟩
                show sm_wp (d + 1) 166 236 lv6 [] (hp m27) (WQ K)
                refine wp_p (pc' := 237) (lv' := lv6) (st' := [.int (nI 0)]) rfl rfl ?_
                exact wl_ret rfl rfl ⟨_, rfl, k⟩
              · replace k := it_t (c := (m22.F 42 17) = w24) c25 k
                refine wl_ald_n (pc' := 221) rfl e9 rfl ?_
                refine wl_ild_n (pc' := 222) rfl e7 rfl ?_
                refine wl_cv (As := [.ref 42, .int ((m2.A 50).getD (ix (nI 0)) 0)]) (r := []) (pc' := 225) rfl rfl rfl k ?_
                rintro _ m28 ⟨w29, rfl, k⟩
                show sm_wp (d + 1) 166 225 lv6 [.int w29] (hp m28) (WQ K)
                exact wl_ret rfl rfl ⟨_, rfl, k⟩
            · replace k := it_t (c := (m16.F 42 17) = w20) c21 k
              refine wl_ald_n (pc' := 189) rfl e9 rfl ?_
              refine wl_cv (As := [.ref 42]) (r := []) (pc' := 192) rfl rfl rfl k ?_
              rintro _ m30 ⟨w31, rfl, k⟩
              show sm_wp (d + 1) 166 192 lv6 [.int w31] (hp m30) (WQ K)
              exact wl_ret rfl rfl ⟨_, rfl, k⟩
          · replace k := it_t (c := (m13.F 42 17) = w17) c18 k
            refine wl_ald_n (pc' := 161) rfl e9 rfl ?_
            refine wl_ild_n (pc' := 162) rfl e7 rfl ?_
            refine wl_cv (As := [.ref 42, .int ((m2.A 50).getD (ix (nI 0)) 0)]) (r := []) (pc' := 165) rfl rfl rfl k ?_
            rintro _ m32 ⟨w33, rfl, k⟩
            show sm_wp (d + 1) 166 165 lv6 [.int w33] (hp m32) (WQ K)
            exact wl_ret rfl rfl ⟨_, rfl, k⟩
        · replace k := it_t (c := (m10.F 42 17) = w14) c15 k
          refine wl_ald_n (pc' := 123) rfl e9 rfl ?_
          refine wp_get (v := .ref 59) (pc' := 126) rfl (hq_42 _) rfl rfl ?_
          refine wp_p (pc' := 127) (lv' := lv6) (st' := [.int (nI 4), .ref 59]) rfl rfl ?_
          refine wl_ild_n (pc' := 128) rfl e7 rfl ?_
          refine wp_imul (v := (nI 4) * ((m2.A 50).getD (ix (nI 0)) 0)) (pc' := 129) rfl rfl rfl ?_
          refine wl_ald_n (pc' := 130) rfl e9 rfl ?_
          refine wp_get (v := .int (m13.F 42 20)) (pc' := 133) rfl (hq_42 _) rfl rfl ?_
          refine wp_iadd (v := ((nI 4) * ((m2.A 50).getD (ix (nI 0)) 0)) + (m13.F 42 20)) (pc' := 134) rfl rfl rfl ?_
          refine wp_p (pc' := 135) (lv' := lv6) (st' := [.int (nI 1), .int (((nI 4) * ((m2.A 50).getD (ix (nI 0)) 0)) + (m13.F 42 20)), .ref 59]) rfl rfl ?_
          obtain ⟨k34, k⟩ := k
          refine wl_bastore (g := m13.A 59) (pc' := 136) (h2 := hp (m13.uA 59 ((m13.A 59).set (ix (((nI 4) * ((m2.A 50).getD (ix (nI 0)) 0)) + (m13.F 42 20))) (vp_nar .boolean (nI 1))))) rfl (hq_59 _) k34 rfl (pa_59 _ _) ?_
          refine wp_p (pc' := 137) (lv' := lv6) (st' := [.int (nI 0)]) rfl rfl ?_
          exact wl_ret rfl rfl ⟨_, rfl, k⟩
      · replace k := it_t (c := (m2.F 42 17) = w11) c12 k
        refine wl_ald_n (pc' := 72) rfl e9 rfl ?_
        refine wp_get (v := .int (m10.F 42 21)) (pc' := 75) rfl (hq_42 _) rfl rfl ?_
        refine wp_p (pc' := 76) (lv' := lv6) (st' := [.int (nI 1), .int (m10.F 42 21)]) rfl rfl ?_
        refine wp_ic_lt (pc' := 79) rfl rfl (fun c35 => ?_) (fun c35 => ?_)
        · replace k := it_t (c := (m10.F 42 21) < (nI 1)) c35 k
          exact k _ trivial
        · replace k := it_f (c := (m10.F 42 21) < (nI 1)) c35 k
          refine wl_ald_n (pc' := 80) rfl e9 rfl ?_
          refine wp_get (v := .int (m10.F 42 21)) (pc' := 83) rfl (hq_42 _) rfl rfl ?_
          refine wp_p (pc' := 84) (lv' := lv6) (st' := [.int (nI 4), .int (m10.F 42 21)]) rfl rfl ?_
          refine wp_ic_le (pc' := 87) rfl rfl (fun c36 => ?_) (fun c36 => ?_)
          · replace k := it_t (c := (m10.F 42 21) ≤ (nI 4)) c36 k
            refine wl_ald_n (pc' := 90) rfl e9 rfl ?_
            refine wp_get (v := .ref 56) (pc' := 93) rfl (hq_42 _) rfl rfl ?_
            refine wl_ild_n (pc' := 94) rfl e7 rfl ?_
            refine wl_ald_n (pc' := 95) rfl e9 rfl ?_
            refine wp_get (v := .int (m10.F 42 21)) (pc' := 98) rfl (hq_42 _) rfl rfl ?_
            obtain ⟨k37, k⟩ := k
            refine wl_iastore (g := m10.A 56) (pc' := 99) (h2 := hp (m10.uA 56 ((m10.A 56).set (ix ((m2.A 50).getD (ix (nI 0)) 0)) (m10.F 42 21)))) rfl (hq_56 _) k37 rfl (pa_56 _ _) ?_
            refine wp_p (pc' := 100) (lv' := lv6) (st' := [.int (nI 0)]) rfl rfl ?_
            exact wl_ret rfl rfl ⟨_, rfl, k⟩
          · replace k := it_f (c := (m10.F 42 21) ≤ (nI 4)) c36 k
            exact k _ trivial
    · replace k := it_t (c := w3 = (nI 0)) c4 k
      refine wp_p (pc' := 41) (lv' := lv0) (st' := [.int (nI 2)]) rfl rfl ?_
      exact wl_ret rfl rfl ⟨_, rfl, k⟩
  · replace k := it_f (c := (m.F 42 6) = (nI 0)) c1 k
    refine wp_p (pc' := 32) (lv' := lv0) (st' := [.int (nI 1)]) rfl rfl ?_
    exact wl_ret rfl rfl ⟨_, rfl, k⟩
set_option maxRecDepth 20000 in
theorem sg_166_87 {d : Nat} {m : Mm} {K : Option Value → Mm → Prop} (k : K (some (.int (nI 3))) m) : WH d 166 87 [] [] m K := by
  intro lv0 el
  refine wp_p (pc' := 88) (lv' := lv0) (st' := [.int (nI 3)]) rfl rfl ?_
  exact wl_ret rfl rfl ⟨_, rfl, k⟩
/-! 167: QueryTablesModel.worked -/
set_option maxRecDepth 20000 in
theorem sp_167 {d : Nat} {m : Mm} {K : Option Value → Mm → Prop} (x1 : Int32) (x2 : Int32) (k : WH d 167 5 [(0, .ref 42), (2, .int x2), (3, .int (nI 0)), (4, .int x1)] [] m K) : WP d 167 [.ref 42, .int x1, .int x2] m K := by
  have e_0 : sm_lk (lv_args 0 [.ref 42, .int x1, .int x2]) 0 = some (.ref 42) := rfl
  have e_1 : sm_lk (lv_args 0 [.ref 42, .int x1, .int x2]) 1 = some (.int x1) := rfl
  have e_2 : sm_lk (lv_args 0 [.ref 42, .int x1, .int x2]) 2 = some (.int x2) := rfl
  show sm_wp d 167 0 (lv_args 0 [.ref 42, .int x1, .int x2]) [] (hp m) (WQ K)
  generalize lv_args 0 [.ref 42, .int x1, .int x2] = lv0 at *
  refine wp_p (pc' := 1) (lv' := lv0) (st' := [.int (nI 0)]) rfl rfl ?_
  refine wl_st1 (pc' := 2) (k0 := 3) (v := .int (nI 0)) (r := []) rfl rfl (fun lv1 e2 f3 => ?_)
  have e4 := f3 0 _ e_0 (by decide) rfl
  have e5 := f3 1 _ e_1 (by decide) rfl
  have e6 := f3 2 _ e_2 (by decide) rfl
  refine wl_ild_n (pc' := 3) rfl e5 rfl ?_
  refine wl_st1 (pc' := 5) (k0 := 4) (v := .int x1) (r := []) rfl rfl (fun lv7 e8 f9 => ?_)
  have e10 := f9 0 _ e4 (by decide) rfl
  have e11 := f9 1 _ e5 (by decide) rfl
  have e12 := f9 2 _ e6 (by decide) rfl
  have e13 := f9 3 _ e2 (by decide) rfl
  exact k _ ⟨e10, e12, e13, e8, trivial⟩
set_option maxRecDepth 20000 in
theorem sg_167_5 {d : Nat} {m : Mm} {K : Option Value → Mm → Prop} (x2 : Int32) (x3 : Int32) (x4 : Int32) (k : (if x2 ≤ x4 then ok (m.B 61).length (nI 0) ∧ K (some (.long ((m.B 61).getD (ix (nI 0)) 0))) m else ok (m.A 46).length x4 ∧ (if (nI 3) < ((m.A 46).getD (ix x4) 0) then (if ((m.A 46).getD (ix x4) 0) = (nI 8) then WH (d + 1) 167 132 [(0, .ref 42), (2, .int x2), (3, .int x3), (4, .int x4), (5, .int ((m.A 46).getD (ix x4) 0))] [] m K else (if ((m.A 46).getD (ix x4) 0) = (nI 12) then WH (d + 1) 167 132 [(0, .ref 42), (2, .int x2), (3, .int x3), (4, .int x4), (5, .int ((m.A 46).getD (ix x4) 0))] [] m K else (if ((m.A 46).getD (ix x4) 0) = (nI 13) then WH (d + 1) 167 132 [(0, .ref 42), (2, .int x2), (3, .int x3), (4, .int x4), (5, .int ((m.A 46).getD (ix x4) 0))] [] m K else ok (m.B 61).length ((x3 + (-1)) - (nI 1)) ∧ ok (m.B 61).length (x3 + (-1)) ∧ WP d 168 [.int ((m.A 46).getD (ix x4) 0), .long ((m.B 61).getD (ix ((x3 + (-1)) - (nI 1))) 0), .long ((m.B 61).getD (ix (x3 + (-1))) 0)] m (fun v m24 => ∃ w25, v = some (.long w25) ∧ ok (m24.B 61).length ((x3 + (-1)) - (nI 1)) ∧ WH (d + 1) 167 242 [(0, .ref 42), (2, .int x2), (3, .int (x3 + (-1))), (4, .int x4)] [] (m24.uB 61 ((m24.B 61).set (ix ((x3 + (-1)) - (nI 1))) w25)) K)))) else (if ((m.A 46).getD (ix x4) 0) = (nI 1) then ok (m.A 47).length x4 ∧ ok (m.B 61).length x3 ∧ WH (d + 1) 167 242 [(0, .ref 42), (2, .int x2), (3, .int (x3 + nI 1)), (4, .int x4)] [] (m.uB 61 ((m.B 61).set (ix x3) (((m.A 47).getD (ix x4) 0).toInt64))) K else (if ((m.A 46).getD (ix x4) 0) = (nI 2) then ok (m.B 61).length x3 ∧ WH (d + 1) 167 242 [(0, .ref 42), (2, .int x2), (3, .int (x3 + nI 1)), (4, .int x4)] [] (m.uB 61 ((m.B 61).set (ix x3) 1099511627776)) K else ok (m.A 47).length x4 ∧ ok (m.A 47).length x4 ∧ ok (m.A 60).length (((m.A 47).getD (ix x4) 0) / (nI 4)) ∧ ok (m.A 47).length x4 ∧ ok (m.B 58).length ((((nI 80) * (((m.A 47).getD (ix x4) 0) / (nI 4))) + ((nI 4) * ((m.A 60).getD (ix (((m.A 47).getD (ix x4) 0) / (nI 4))) 0))) + (((m.A 47).getD (ix x4) 0) - ((m.A 47).getD (ix x4) 0) / (nI 4) * (nI 4))) ∧ ok (m.B 61).length x3 ∧ WH (d + 1) 167 242 [(0, .ref 42), (2, .int x2), (3, .int (x3 + nI 1)), (4, .int x4)] [] (m.uB 61 ((m.B 61).set (ix x3) ((m.B 58).getD (ix ((((nI 80) * (((m.A 47).getD (ix x4) 0) / (nI 4))) + ((nI 4) * ((m.A 60).getD (ix (((m.A 47).getD (ix x4) 0) / (nI 4))) 0))) + (((m.A 47).getD (ix x4) 0) - ((m.A 47).getD (ix x4) 0) / (nI 4) * (nI 4)))) 0))) K))))) : WH (d + 1) 167 5 [(0, .ref 42), (2, .int x2), (3, .int x3), (4, .int x4)] [] m K := by
  intro lv0 el
  obtain ⟨e_0, e_2, e_3, e_4, _⟩ := el
  refine wl_ild (pc' := 7) rfl e_4 rfl ?_
  refine wl_ild_n (pc' := 8) rfl e_2 rfl ?_
  refine wp_ic_ge (pc' := 11) rfl rfl (fun c1 => ?_) (fun c1 => ?_)
  · replace k := it_t (c := x2 ≤ x4) c1 k
    refine wl_ald_n (pc' := 249) rfl e_0 rfl ?_
    refine wp_get (v := .ref 61) (pc' := 252) rfl (hq_42 _) rfl rfl ?_
    refine wp_p (pc' := 253) (lv' := lv0) (st' := [.int (nI 0), .ref 61]) rfl rfl ?_
    obtain ⟨k2, k⟩ := k
    refine wl_laload (g := m.B 61) (pc' := 254) rfl (hq_61 _) k2 rfl ?_
    exact wp_r rfl rfl ⟨_, rfl, k⟩
  · replace k := it_f (c := x2 ≤ x4) c1 k
    refine wl_ald_n (pc' := 12) rfl e_0 rfl ?_
    refine wp_get (v := .ref 46) (pc' := 15) rfl (hq_42 _) rfl rfl ?_
    refine wl_ild (pc' := 17) rfl e_4 rfl ?_
    obtain ⟨k3, k⟩ := k
    refine wl_iaload (g := m.A 46) (pc' := 18) rfl (hq_46 _) k3 rfl ?_
    refine wl_st1 (pc' := 20) (k0 := 5) (v := .int ((m.A 46).getD (ix x4) 0)) (r := []) rfl rfl (fun lv4 e5 f6 => ?_)
    have e7 := f6 0 _ e_0 (by decide) rfl
    have e8 := f6 2 _ e_2 (by decide) rfl
    have e9 := f6 3 _ e_3 (by decide) rfl
    have e10 := f6 4 _ e_4 (by decide) rfl
    refine wl_ild (pc' := 22) rfl e5 rfl ?_
    refine wp_p (pc' := 23) (lv' := lv4) (st' := [.int (nI 3), .int ((m.A 46).getD (ix x4) 0)]) rfl rfl ?_
    refine wp_ic_gt (pc' := 26) rfl rfl (fun c11 => ?_) (fun c11 => ?_)
    · replace k := it_t (c := (nI 3) < ((m.A 46).getD (ix x4) 0)) c11 k
      refine wl_ild (pc' := 113) rfl e5 rfl ?_
      refine wp_p (pc' := 115) (lv' := lv4) (st' := [.int (nI 8), .int ((m.A 46).getD (ix x4) 0)]) rfl rfl ?_
      refine wp_ic_eq (pc' := 118) rfl rfl (fun c12 => ?_) (fun c12 => ?_)
      · replace k := it_t (c := ((m.A 46).getD (ix x4) 0) = (nI 8)) c12 k
        exact k _ ⟨e7, e8, e9, e10, e5, trivial⟩
      · replace k := it_f (c := ((m.A 46).getD (ix x4) 0) = (nI 8)) c12 k
        refine wl_ild (pc' := 120) rfl e5 rfl ?_
        refine wp_p (pc' := 122) (lv' := lv4) (st' := [.int (nI 12), .int ((m.A 46).getD (ix x4) 0)]) rfl rfl ?_
        refine wp_ic_eq (pc' := 125) rfl rfl (fun c13 => ?_) (fun c13 => ?_)
        · replace k := it_t (c := ((m.A 46).getD (ix x4) 0) = (nI 12)) c13 k
          exact k _ ⟨e7, e8, e9, e10, e5, trivial⟩
        · replace k := it_f (c := ((m.A 46).getD (ix x4) 0) = (nI 12)) c13 k
          refine wl_ild (pc' := 127) rfl e5 rfl ?_
          refine wp_p (pc' := 129) (lv' := lv4) (st' := [.int (nI 13), .int ((m.A 46).getD (ix x4) 0)]) rfl rfl ?_
          refine wp_ic_ne (pc' := 132) rfl rfl (fun c14 => ?_) (fun c14 => ?_)
          · replace k := it_f (c := ((m.A 46).getD (ix x4) 0) = (nI 13)) c14 k
            refine wl_iinc (pc' := 215) (v := x3 + (-1)) rfl e9 rfl rfl rfl (fun lv15 e16 f17 => ?_)
            have e18 := f17 0 _ e7 (by decide) rfl
            have e19 := f17 2 _ e8 (by decide) rfl
            have e20 := f17 4 _ e10 (by decide) rfl
            have e21 := f17 5 _ e5 (by decide) rfl
            refine wl_ald_n (pc' := 216) rfl e18 rfl ?_
            refine wp_get (v := .ref 61) (pc' := 219) rfl (hq_42 _) rfl rfl ?_
            refine wl_ild_n (pc' := 220) rfl e16 rfl ?_
            refine wp_p (pc' := 221) (lv' := lv15) (st' := [.int (nI 1), .int (x3 + (-1)), .ref 61]) rfl rfl ?_
            refine wp_isub (v := (x3 + (-1)) - (nI 1)) (pc' := 222) rfl rfl rfl ?_
            refine wl_ild (pc' := 224) rfl e21 rfl ?_
            refine wl_ald_n (pc' := 225) rfl e18 rfl ?_
            refine wp_get (v := .ref 61) (pc' := 228) rfl (hq_42 _) rfl rfl ?_
            refine wl_ild_n (pc' := 229) rfl e16 rfl ?_
            refine wp_p (pc' := 230) (lv' := lv15) (st' := [.int (nI 1), .int (x3 + (-1)), .ref 61, .int ((m.A 46).getD (ix x4) 0), .int ((x3 + (-1)) - (nI 1)), .ref 61]) rfl rfl ?_
            refine wp_isub (v := (x3 + (-1)) - (nI 1)) (pc' := 231) rfl rfl rfl ?_
            obtain ⟨k22, k⟩ := k
            refine wl_laload (g := m.B 61) (pc' := 232) rfl (hq_61 _) k22 rfl ?_
            refine wl_ald_n (pc' := 233) rfl e18 rfl ?_
            refine wp_get (v := .ref 61) (pc' := 236) rfl (hq_42 _) rfl rfl ?_
            refine wl_ild_n (pc' := 237) rfl e16 rfl ?_
            obtain ⟨k23, k⟩ := k
            refine wl_laload (g := m.B 61) (pc' := 238) rfl (hq_61 _) k23 rfl ?_
            refine wl_cs (As := [.int ((m.A 46).getD (ix x4) 0), .long ((m.B 61).getD (ix ((x3 + (-1)) - (nI 1))) 0), .long ((m.B 61).getD (ix (x3 + (-1))) 0)]) (r := [.int ((x3 + (-1)) - (nI 1)), .ref 61]) (pc' := 241) rfl rfl rfl rfl k ?_
            rintro _ m24 ⟨w25, rfl, k⟩
            show sm_wp (d + 1) 167 241 lv15 [.long w25, .int ((x3 + (-1)) - (nI 1)), .ref 61] (hp m24) (WQ K)
            obtain ⟨k26, k⟩ := k
            refine wl_lastore (g := m24.B 61) (pc' := 242) (h2 := hp (m24.uB 61 ((m24.B 61).set (ix ((x3 + (-1)) - (nI 1))) w25))) rfl (hq_61 _) k26 rfl (pa_61 _ _) ?_
            exact k _ ⟨e18, e19, e16, e20, trivial⟩
          · replace k := it_t (c := ((m.A 46).getD (ix x4) 0) = (nI 13)) c14 k
            exact k _ ⟨e7, e8, e9, e10, e5, trivial⟩
    · replace k := it_f (c := (nI 3) < ((m.A 46).getD (ix x4) 0)) c11 k
      refine wl_ald_n (pc' := 27) rfl e7 rfl ?_
      refine wp_get (v := .ref 61) (pc' := 30) rfl (hq_42 _) rfl rfl ?_
      refine wl_ild_n (pc' := 31) rfl e9 rfl ?_
      refine wl_ild (pc' := 33) rfl e5 rfl ?_
      refine wp_p (pc' := 34) (lv' := lv4) (st' := [.int (nI 1), .int ((m.A 46).getD (ix x4) 0), .int x3, .ref 61]) rfl rfl ?_
      refine wp_ic_ne (pc' := 37) rfl rfl (fun c27 => ?_) (fun c27 => ?_)
      · replace k := it_f (c := ((m.A 46).getD (ix x4) 0) = (nI 1)) c27 k
        refine wl_ild (pc' := 50) rfl e5 rfl ?_
        refine wp_p (pc' := 51) (lv' := lv4) (st' := [.int (nI 2), .int ((m.A 46).getD (ix x4) 0), .int x3, .ref 61]) rfl rfl ?_
        refine wp_ic_ne (pc' := 54) rfl rfl (fun c28 => ?_) (fun c28 => ?_)
        · replace k := it_f (c := ((m.A 46).getD (ix x4) 0) = (nI 2)) c28 k
          refine wl_ald_n (pc' := 61) rfl e7 rfl ?_
          refine wp_get (v := .ref 58) (pc' := 64) rfl (hq_42 _) rfl rfl ?_
          refine wp_p (pc' := 66) (lv' := lv4) (st' := [.int (nI 80), .ref 58, .int x3, .ref 61]) rfl rfl ?_
          refine wl_ald_n (pc' := 67) rfl e7 rfl ?_
          refine wp_get (v := .ref 47) (pc' := 70) rfl (hq_42 _) rfl rfl ?_
          refine wl_ild (pc' := 72) rfl e10 rfl ?_
          obtain ⟨k29, k⟩ := k
          refine wl_iaload (g := m.A 47) (pc' := 73) rfl (hq_47 _) k29 rfl ?_
          refine wp_p (pc' := 74) (lv' := lv4) (st' := [.int (nI 4), .int ((m.A 47).getD (ix x4) 0), .int (nI 80), .ref 58, .int x3, .ref 61]) rfl rfl ?_
          refine wp_idiv (v := ((m.A 47).getD (ix x4) 0) / (nI 4)) (pc' := 75) rfl (by decide) rfl rfl ?_
          refine wp_imul (v := (nI 80) * (((m.A 47).getD (ix x4) 0) / (nI 4))) (pc' := 76) rfl rfl rfl ?_
          refine wp_p (pc' := 77) (lv' := lv4) (st' := [.int (nI 4), .int ((nI 80) * (((m.A 47).getD (ix x4) 0) / (nI 4))), .ref 58, .int x3, .ref 61]) rfl rfl ?_
          refine wl_ald_n (pc' := 78) rfl e7 rfl ?_
          refine wp_get (v := .ref 60) (pc' := 81) rfl (hq_42 _) rfl rfl ?_
          refine wl_ald_n (pc' := 82) rfl e7 rfl ?_
          refine wp_get (v := .ref 47) (pc' := 85) rfl (hq_42 _) rfl rfl ?_
          refine wl_ild (pc' := 87) rfl e10 rfl ?_
          obtain ⟨k30, k⟩ := k
          refine wl_iaload (g := m.A 47) (pc' := 88) rfl (hq_47 _) k30 rfl ?_
          refine wp_p (pc' := 89) (lv' := lv4) (st' := [.int (nI 4), .int ((m.A 47).getD (ix x4) 0), .ref 60, .int (nI 4), .int ((nI 80) * (((m.A 47).getD (ix x4) 0) / (nI 4))), .ref 58, .int x3, .ref 61]) rfl rfl ?_
          refine wp_idiv (v := ((m.A 47).getD (ix x4) 0) / (nI 4)) (pc' := 90) rfl (by decide) rfl rfl ?_
          obtain ⟨k31, k⟩ := k
          refine wl_iaload (g := m.A 60) (pc' := 91) rfl (hq_60 _) k31 rfl ?_
          refine wp_imul (v := (nI 4) * ((m.A 60).getD (ix (((m.A 47).getD (ix x4) 0) / (nI 4))) 0)) (pc' := 92) rfl rfl rfl ?_
          refine wp_iadd (v := ((nI 80) * (((m.A 47).getD (ix x4) 0) / (nI 4))) + ((nI 4) * ((m.A 60).getD (ix (((m.A 47).getD (ix x4) 0) / (nI 4))) 0))) (pc' := 93) rfl rfl rfl ?_
          refine wl_ald_n (pc' := 94) rfl e7 rfl ?_
          refine wp_get (v := .ref 47) (pc' := 97) rfl (hq_42 _) rfl rfl ?_
          refine wl_ild (pc' := 99) rfl e10 rfl ?_
          obtain ⟨k32, k⟩ := k
          refine wl_iaload (g := m.A 47) (pc' := 100) rfl (hq_47 _) k32 rfl ?_
          refine wp_p (pc' := 101) (lv' := lv4) (st' := [.int (nI 4), .int ((m.A 47).getD (ix x4) 0), .int (((nI 80) * (((m.A 47).getD (ix x4) 0) / (nI 4))) + ((nI 4) * ((m.A 60).getD (ix (((m.A 47).getD (ix x4) 0) / (nI 4))) 0))), .ref 58, .int x3, .ref 61]) rfl rfl ?_
          refine wp_irem (v := ((m.A 47).getD (ix x4) 0) - ((m.A 47).getD (ix x4) 0) / (nI 4) * (nI 4)) (pc' := 102) rfl (by decide) rfl rfl ?_
          refine wp_iadd (v := (((nI 80) * (((m.A 47).getD (ix x4) 0) / (nI 4))) + ((nI 4) * ((m.A 60).getD (ix (((m.A 47).getD (ix x4) 0) / (nI 4))) 0))) + (((m.A 47).getD (ix x4) 0) - ((m.A 47).getD (ix x4) 0) / (nI 4) * (nI 4))) (pc' := 103) rfl rfl rfl ?_
          obtain ⟨k33, k⟩ := k
          refine wl_laload (g := m.B 58) (pc' := 104) rfl (hq_58 _) k33 rfl ?_
          obtain ⟨k34, k⟩ := k
          refine wl_lastore (g := m.B 61) (pc' := 105) (h2 := hp (m.uB 61 ((m.B 61).set (ix x3) ((m.B 58).getD (ix ((((nI 80) * (((m.A 47).getD (ix x4) 0) / (nI 4))) + ((nI 4) * ((m.A 60).getD (ix (((m.A 47).getD (ix x4) 0) / (nI 4))) 0))) + (((m.A 47).getD (ix x4) 0) - ((m.A 47).getD (ix x4) 0) / (nI 4) * (nI 4)))) 0)))) rfl (hq_61 _) k34 rfl (pa_61 _ _) ?_
          refine wl_iinc (pc' := 108) (v := x3 + nI 1) rfl e9 rfl rfl rfl (fun lv35 e36 f37 => ?_)
          have e38 := f37 0 _ e7 (by decide) rfl
          have e39 := f37 2 _ e8 (by decide) rfl
          have e40 := f37 4 _ e10 (by decide) rfl
          have e41 := f37 5 _ e5 (by decide) rfl
          refine wp_p (pc' := 242) (lv' := lv35) (st' := []) rfl rfl ?_
          exact k _ ⟨e38, e39, e36, e40, trivial⟩
        · replace k := it_t (c := ((m.A 46).getD (ix x4) 0) = (nI 2)) c28 k
          refine wp_p (pc' := 57) (lv' := lv4) (st' := [.long 1099511627776, .int x3, .ref 61]) rfl rfl ?_
          refine wp_p (pc' := 104) (lv' := lv4) (st' := [.long 1099511627776, .int x3, .ref 61]) rfl rfl ?_
          obtain ⟨k42, k⟩ := k
          refine wl_lastore (g := m.B 61) (pc' := 105) (h2 := hp (m.uB 61 ((m.B 61).set (ix x3) 1099511627776))) rfl (hq_61 _) k42 rfl (pa_61 _ _) ?_
          refine wl_iinc (pc' := 108) (v := x3 + nI 1) rfl e9 rfl rfl rfl (fun lv43 e44 f45 => ?_)
          have e46 := f45 0 _ e7 (by decide) rfl
          have e47 := f45 2 _ e8 (by decide) rfl
          have e48 := f45 4 _ e10 (by decide) rfl
          have e49 := f45 5 _ e5 (by decide) rfl
          refine wp_p (pc' := 242) (lv' := lv43) (st' := []) rfl rfl ?_
          exact k _ ⟨e46, e47, e44, e48, trivial⟩
      · replace k := it_t (c := ((m.A 46).getD (ix x4) 0) = (nI 1)) c27 k
        refine wl_ald_n (pc' := 38) rfl e7 rfl ?_
        refine wp_get (v := .ref 47) (pc' := 41) rfl (hq_42 _) rfl rfl ?_
        refine wl_ild (pc' := 43) rfl e10 rfl ?_
        obtain ⟨k50, k⟩ := k
        refine wl_iaload (g := m.A 47) (pc' := 44) rfl (hq_47 _) k50 rfl ?_
        refine wp_i2l (v := ((m.A 47).getD (ix x4) 0).toInt64) (pc' := 45) rfl rfl rfl ?_
        refine wp_p (pc' := 104) (lv' := lv4) (st' := [.long (((m.A 47).getD (ix x4) 0).toInt64), .int x3, .ref 61]) rfl rfl ?_
        obtain ⟨k51, k⟩ := k
        refine wl_lastore (g := m.B 61) (pc' := 105) (h2 := hp (m.uB 61 ((m.B 61).set (ix x3) (((m.A 47).getD (ix x4) 0).toInt64)))) rfl (hq_61 _) k51 rfl (pa_61 _ _) ?_
        refine wl_iinc (pc' := 108) (v := x3 + nI 1) rfl e9 rfl rfl rfl (fun lv52 e53 f54 => ?_)
        have e55 := f54 0 _ e7 (by decide) rfl
        have e56 := f54 2 _ e8 (by decide) rfl
        have e57 := f54 4 _ e10 (by decide) rfl
        have e58 := f54 5 _ e5 (by decide) rfl
        refine wp_p (pc' := 242) (lv' := lv52) (st' := []) rfl rfl ?_
        exact k _ ⟨e55, e56, e53, e57, trivial⟩
set_option maxRecDepth 20000 in
theorem sg_167_132 {d : Nat} {m : Mm} {K : Option Value → Mm → Prop} (x2 : Int32) (x3 : Int32) (x4 : Int32) (x5 : Int32) (k : ok (m.B 61).length (x3 - (nI 1)) ∧ (if x5 = (nI 12) then (if (lg_cmp ((m.B 61).getD (ix (x3 - (nI 1))) 0) 1099511627776) = (nI 0) then ok (m.B 61).length (x3 - (nI 1)) ∧ WH d 167 242 [(0, .ref 42), (2, .int x2), (3, .int x3), (4, .int x4)] [] (m.uB 61 ((m.B 61).set (ix (x3 - (nI 1))) 1)) K else ok (m.B 61).length (x3 - (nI 1)) ∧ WH d 167 242 [(0, .ref 42), (2, .int x2), (3, .int x3), (4, .int x4)] [] (m.uB 61 ((m.B 61).set (ix (x3 - (nI 1))) 0)) K) else (if (lg_cmp ((m.B 61).getD (ix (x3 - (nI 1))) 0) 1099511627776) = (nI 0) then ok (m.B 61).length (x3 - (nI 1)) ∧ WH d 167 242 [(0, .ref 42), (2, .int x2), (3, .int x3), (4, .int x4)] [] (m.uB 61 ((m.B 61).set (ix (x3 - (nI 1))) 1099511627776)) K else (if x5 = (nI 13) then ok (m.B 61).length (x3 - (nI 1)) ∧ WH d 167 242 [(0, .ref 42), (2, .int x2), (3, .int x3), (4, .int x4)] [] (m.uB 61 ((m.B 61).set (ix (x3 - (nI 1))) (1 - ((m.B 61).getD (ix (x3 - (nI 1))) 0)))) K else ok (m.B 61).length (x3 - (nI 1)) ∧ WH d 167 242 [(0, .ref 42), (2, .int x2), (3, .int x3), (4, .int x4)] [] (m.uB 61 ((m.B 61).set (ix (x3 - (nI 1))) (((0 - ((m.B 61).getD (ix (x3 - (nI 1))) 0)).toInt32).toInt64))) K)))) : WH d 167 132 [(0, .ref 42), (2, .int x2), (3, .int x3), (4, .int x4), (5, .int x5)] [] m K := by
  intro lv0 el
  obtain ⟨e_0, e_2, e_3, e_4, e_5, _⟩ := el
  refine wl_ald_n (pc' := 133) rfl e_0 rfl ?_
  refine wp_get (v := .ref 61) (pc' := 136) rfl (hq_42 _) rfl rfl ?_
  refine wl_ild_n (pc' := 137) rfl e_3 rfl ?_
  refine wp_p (pc' := 138) (lv' := lv0) (st' := [.int (nI 1), .int x3, .ref 61]) rfl rfl ?_
  refine wp_isub (v := x3 - (nI 1)) (pc' := 139) rfl rfl rfl ?_
  obtain ⟨k1, k⟩ := k
  refine wl_laload (g := m.B 61) (pc' := 140) rfl (hq_61 _) k1 rfl ?_
  refine wl_st2 (pc' := 142) (k0 := 6) (v := .long ((m.B 61).getD (ix (x3 - (nI 1))) 0)) (r := []) rfl rfl (fun lv2 e3 f4 => ?_)
  have e5 := f4 0 _ e_0 (by decide) (by decide) rfl
  have e6 := f4 2 _ e_2 (by decide) (by decide) rfl
  have e7 := f4 3 _ e_3 (by decide) (by decide) rfl
  have e8 := f4 4 _ e_4 (by decide) (by decide) rfl
  have e9 := f4 5 _ e_5 (by decide) (by decide) rfl
  refine wl_ald_n (pc' := 143) rfl e5 rfl ?_
  refine wp_get (v := .ref 61) (pc' := 146) rfl (hq_42 _) rfl rfl ?_
  refine wl_ild_n (pc' := 147) rfl e7 rfl ?_
  refine wp_p (pc' := 148) (lv' := lv2) (st' := [.int (nI 1), .int x3, .ref 61]) rfl rfl ?_
  refine wp_isub (v := x3 - (nI 1)) (pc' := 149) rfl rfl rfl ?_
  refine wl_ild (pc' := 151) rfl e9 rfl ?_
  refine wp_p (pc' := 153) (lv' := lv2) (st' := [.int (nI 12), .int x5, .int (x3 - (nI 1)), .ref 61]) rfl rfl ?_
  refine wp_ic_ne (pc' := 156) rfl rfl (fun c10 => ?_) (fun c10 => ?_)
  · replace k := it_f (c := x5 = (nI 12)) c10 k
    refine wl_lld (pc' := 175) rfl e3 rfl ?_
    refine wp_p (pc' := 178) (lv' := lv2) (st' := [.long 1099511627776, .long ((m.B 61).getD (ix (x3 - (nI 1))) 0), .int (x3 - (nI 1)), .ref 61]) rfl rfl ?_
    refine wp_lcmp (v := lg_cmp ((m.B 61).getD (ix (x3 - (nI 1))) 0) 1099511627776) (pc' := 179) rfl rfl rfl ?_
    refine wp_if_ne (pc' := 182) rfl rfl (fun c11 => ?_) (fun c11 => ?_)
    · replace k := it_f (c := (lg_cmp ((m.B 61).getD (ix (x3 - (nI 1))) 0) 1099511627776) = (nI 0)) c11 k
      refine wl_ild (pc' := 190) rfl e9 rfl ?_
      refine wp_p (pc' := 192) (lv' := lv2) (st' := [.int (nI 13), .int x5, .int (x3 - (nI 1)), .ref 61]) rfl rfl ?_
      refine wp_ic_ne (pc' := 195) rfl rfl (fun c12 => ?_) (fun c12 => ?_)
      · replace k := it_f (c := x5 = (nI 13)) c12 k
        refine wp_p (pc' := 203) (lv' := lv2) (st' := [.long 0, .int (x3 - (nI 1)), .ref 61]) rfl rfl ?_
        refine wl_lld (pc' := 205) rfl e3 rfl ?_
        refine wp_lsub (v := 0 - ((m.B 61).getD (ix (x3 - (nI 1))) 0)) (pc' := 206) rfl rfl rfl ?_
        refine wp_l2i (v := (0 - ((m.B 61).getD (ix (x3 - (nI 1))) 0)).toInt32) (pc' := 207) rfl rfl rfl ?_
        refine wp_i2l (v := ((0 - ((m.B 61).getD (ix (x3 - (nI 1))) 0)).toInt32).toInt64) (pc' := 208) rfl rfl rfl ?_
        obtain ⟨k13, k⟩ := k
        refine wl_lastore (g := m.B 61) (pc' := 209) (h2 := hp (m.uB 61 ((m.B 61).set (ix (x3 - (nI 1))) (((0 - ((m.B 61).getD (ix (x3 - (nI 1))) 0)).toInt32).toInt64)))) rfl (hq_61 _) k13 rfl (pa_61 _ _) ?_
        refine wp_p (pc' := 242) (lv' := lv2) (st' := []) rfl rfl ?_
        exact k _ ⟨e5, e6, e7, e8, trivial⟩
      · replace k := it_t (c := x5 = (nI 13)) c12 k
        refine wp_p (pc' := 196) (lv' := lv2) (st' := [.long 1, .int (x3 - (nI 1)), .ref 61]) rfl rfl ?_
        refine wl_lld (pc' := 198) rfl e3 rfl ?_
        refine wp_lsub (v := 1 - ((m.B 61).getD (ix (x3 - (nI 1))) 0)) (pc' := 199) rfl rfl rfl ?_
        refine wp_p (pc' := 208) (lv' := lv2) (st' := [.long (1 - ((m.B 61).getD (ix (x3 - (nI 1))) 0)), .int (x3 - (nI 1)), .ref 61]) rfl rfl ?_
        obtain ⟨k14, k⟩ := k
        refine wl_lastore (g := m.B 61) (pc' := 209) (h2 := hp (m.uB 61 ((m.B 61).set (ix (x3 - (nI 1))) (1 - ((m.B 61).getD (ix (x3 - (nI 1))) 0))))) rfl (hq_61 _) k14 rfl (pa_61 _ _) ?_
        refine wp_p (pc' := 242) (lv' := lv2) (st' := []) rfl rfl ?_
        exact k _ ⟨e5, e6, e7, e8, trivial⟩
    · replace k := it_t (c := (lg_cmp ((m.B 61).getD (ix (x3 - (nI 1))) 0) 1099511627776) = (nI 0)) c11 k
      refine wp_p (pc' := 185) (lv' := lv2) (st' := [.long 1099511627776, .int (x3 - (nI 1)), .ref 61]) rfl rfl ?_
      refine wp_p (pc' := 208) (lv' := lv2) (st' := [.long 1099511627776, .int (x3 - (nI 1)), .ref 61]) rfl rfl ?_
      obtain ⟨k15, k⟩ := k
      refine wl_lastore (g := m.B 61) (pc' := 209) (h2 := hp (m.uB 61 ((m.B 61).set (ix (x3 - (nI 1))) 1099511627776))) rfl (hq_61 _) k15 rfl (pa_61 _ _) ?_
      refine wp_p (pc' := 242) (lv' := lv2) (st' := []) rfl rfl ?_
      exact k _ ⟨e5, e6, e7, e8, trivial⟩
  · replace k := it_t (c := x5 = (nI 12)) c10 k
    refine wl_lld (pc' := 158) rfl e3 rfl ?_
    refine wp_p (pc' := 161) (lv' := lv2) (st' := [.long 1099511627776, .long ((m.B 61).getD (ix (x3 - (nI 1))) 0), .int (x3 - (nI 1)), .ref 61]) rfl rfl ?_
    refine wp_lcmp (v := lg_cmp ((m.B 61).getD (ix (x3 - (nI 1))) 0) 1099511627776) (pc' := 162) rfl rfl rfl ?_
    refine wp_if_ne (pc' := 165) rfl rfl (fun c16 => ?_) (fun c16 => ?_)
    · replace k := it_f (c := (lg_cmp ((m.B 61).getD (ix (x3 - (nI 1))) 0) 1099511627776) = (nI 0)) c16 k
      refine wp_p (pc' := 170) (lv' := lv2) (st' := [.long 0, .int (x3 - (nI 1)), .ref 61]) rfl rfl ?_
      refine wp_p (pc' := 208) (lv' := lv2) (st' := [.long 0, .int (x3 - (nI 1)), .ref 61]) rfl rfl ?_
      obtain ⟨k17, k⟩ := k
      refine wl_lastore (g := m.B 61) (pc' := 209) (h2 := hp (m.uB 61 ((m.B 61).set (ix (x3 - (nI 1))) 0))) rfl (hq_61 _) k17 rfl (pa_61 _ _) ?_
      refine wp_p (pc' := 242) (lv' := lv2) (st' := []) rfl rfl ?_
      exact k _ ⟨e5, e6, e7, e8, trivial⟩
    · replace k := it_t (c := (lg_cmp ((m.B 61).getD (ix (x3 - (nI 1))) 0) 1099511627776) = (nI 0)) c16 k
      refine wp_p (pc' := 166) (lv' := lv2) (st' := [.long 1, .int (x3 - (nI 1)), .ref 61]) rfl rfl ?_
      refine wp_p (pc' := 208) (lv' := lv2) (st' := [.long 1, .int (x3 - (nI 1)), .ref 61]) rfl rfl ?_
      obtain ⟨k18, k⟩ := k
      refine wl_lastore (g := m.B 61) (pc' := 209) (h2 := hp (m.uB 61 ((m.B 61).set (ix (x3 - (nI 1))) 1))) rfl (hq_61 _) k18 rfl (pa_61 _ _) ?_
      refine wp_p (pc' := 242) (lv' := lv2) (st' := []) rfl rfl ?_
      exact k _ ⟨e5, e6, e7, e8, trivial⟩
set_option maxRecDepth 20000 in
theorem sg_167_242 {d : Nat} {m : Mm} {K : Option Value → Mm → Prop} (x2 : Int32) (x3 : Int32) (x4 : Int32) (k : WH d 167 5 [(0, .ref 42), (2, .int x2), (3, .int x3), (4, .int (x4 + nI 1))] [] m K) : WH d 167 242 [(0, .ref 42), (2, .int x2), (3, .int x3), (4, .int x4)] [] m K := by
  intro lv0 el
  obtain ⟨e_0, e_2, e_3, e_4, _⟩ := el
  refine wl_iinc (pc' := 245) (v := x4 + nI 1) rfl e_4 rfl rfl rfl (fun lv1 e2 f3 => ?_)
  have e4 := f3 0 _ e_0 (by decide) rfl
  have e5 := f3 2 _ e_2 (by decide) rfl
  have e6 := f3 3 _ e_3 (by decide) rfl
  refine wp_p (pc' := 5) (lv' := lv1) (st' := []) rfl rfl ?_
  exact k _ ⟨e4, e5, e6, e2, trivial⟩
/-! 168: QueryTablesModel.joined -/
set_option maxRecDepth 20000 in
theorem sp_168 {d : Nat} {m : Mm} {K : Option Value → Mm → Prop} (x0 : Int32) (y1 : Int64) (y3 : Int64) (k : (if x0 = (nI 14) then (if (lg_cmp y1 0) = (nI 0) then K (some (.long 0)) m else (if (lg_cmp y3 0) = (nI 0) then K (some (.long 0)) m else (if (lg_cmp y1 1099511627776) = (nI 0) then K (some (.long 1099511627776)) m else (if (lg_cmp y3 1099511627776) = (nI 0) then K (some (.long 1099511627776)) m else K (some (.long 1)) m)))) else (if x0 = (nI 15) then (if (lg_cmp y1 1) = (nI 0) then K (some (.long 1)) m else (if (lg_cmp y3 1) = (nI 0) then K (some (.long 1)) m else (if (lg_cmp y1 1099511627776) = (nI 0) then K (some (.long 1099511627776)) m else (if (lg_cmp y3 1099511627776) = (nI 0) then K (some (.long 1099511627776)) m else K (some (.long 0)) m)))) else (if (lg_cmp y1 1099511627776) = (nI 0) then K (some (.long 1099511627776)) m else (if (lg_cmp y3 1099511627776) = (nI 0) then K (some (.long 1099511627776)) m else (if x0 = (nI 9) then (if (lg_cmp y1 y3) = (nI 0) then K (some (.long 1)) m else K (some (.long 0)) m) else (if x0 = (nI 10) then (if (nI 0) ≤ (lg_cmp y1 y3) then K (some (.long 0)) m else K (some (.long 1)) m) else (if x0 = (nI 11) then (if (lg_cmp y1 y3) ≤ (nI 0) then K (some (.long 0)) m else K (some (.long 1)) m) else (if x0 = (nI 7) then (if (lg_cmp y3 0) = (nI 0) then K (some (.long 1099511627776)) m else ¬ y3 = 0 ∧ K (some (.long (((y1 / y3).toInt32).toInt64))) m) else (if x0 = (nI 4) then K (some (.long (((y1 + y3).toInt32).toInt64))) m else (if x0 = (nI 5) then K (some (.long (((y1 - y3).toInt32).toInt64))) m else K (some (.long (((y1 * y3).toInt32).toInt64))) m))))))))))) : WP d 168 [.int x0, .long y1, .long y3] m K := by
  have e_0 : sm_lk (lv_args 0 [.int x0, .long y1, .long y3]) 0 = some (.int x0) := rfl
  have e_1 : sm_lk (lv_args 0 [.int x0, .long y1, .long y3]) 1 = some (.long y1) := rfl
  have e_3 : sm_lk (lv_args 0 [.int x0, .long y1, .long y3]) 3 = some (.long y3) := rfl
  show sm_wp d 168 0 (lv_args 0 [.int x0, .long y1, .long y3]) [] (hp m) (WQ K)
  generalize lv_args 0 [.int x0, .long y1, .long y3] = lv0 at *
  refine wl_ild_n (pc' := 1) rfl e_0 rfl ?_
  refine wp_p (pc' := 3) (lv' := lv0) (st' := [.int (nI 14), .int x0]) rfl rfl ?_
  refine wp_ic_ne (pc' := 6) rfl rfl (fun c1 => ?_) (fun c1 => ?_)
  · replace k := it_f (c := x0 = (nI 14)) c1 k
    refine wl_ild_n (pc' := 47) rfl e_0 rfl ?_
    refine wp_p (pc' := 49) (lv' := lv0) (st' := [.int (nI 15), .int x0]) rfl rfl ?_
    refine wp_ic_ne (pc' := 52) rfl rfl (fun c2 => ?_) (fun c2 => ?_)
    · replace k := it_f (c := x0 = (nI 15)) c2 k
      refine wl_lld_n (pc' := 93) rfl e_1 rfl ?_
      refine wp_p (pc' := 96) (lv' := lv0) (st' := [.long 1099511627776, .long y1]) rfl rfl ?_
      refine wp_lcmp (v := lg_cmp y1 1099511627776) (pc' := 97) rfl rfl rfl ?_
      refine wp_if_eq (pc' := 100) rfl rfl (fun c3 => ?_) (fun c3 => ?_)
      · replace k := it_t (c := (lg_cmp y1 1099511627776) = (nI 0)) c3 k
        refine wp_p (pc' := 111) (lv' := lv0) (st' := [.long 1099511627776]) rfl rfl ?_
        exact wp_r rfl rfl ⟨_, rfl, k⟩
      · replace k := it_f (c := (lg_cmp y1 1099511627776) = (nI 0)) c3 k
        refine wl_lld_n (pc' := 101) rfl e_3 rfl ?_
        refine wp_p (pc' := 104) (lv' := lv0) (st' := [.long 1099511627776, .long y3]) rfl rfl ?_
        refine wp_lcmp (v := lg_cmp y3 1099511627776) (pc' := 105) rfl rfl rfl ?_
        refine wp_if_ne (pc' := 108) rfl rfl (fun c4 => ?_) (fun c4 => ?_)
        · replace k := it_f (c := (lg_cmp y3 1099511627776) = (nI 0)) c4 k
          refine wl_ild_n (pc' := 113) rfl e_0 rfl ?_
          refine wp_p (pc' := 115) (lv' := lv0) (st' := [.int (nI 9), .int x0]) rfl rfl ?_
          refine wp_ic_ne (pc' := 118) rfl rfl (fun c5 => ?_) (fun c5 => ?_)
          · replace k := it_f (c := x0 = (nI 9)) c5 k
            refine wl_ild_n (pc' := 131) rfl e_0 rfl ?_
            refine wp_p (pc' := 133) (lv' := lv0) (st' := [.int (nI 10), .int x0]) rfl rfl ?_
            refine wp_ic_ne (pc' := 136) rfl rfl (fun c6 => ?_) (fun c6 => ?_)
            · replace k := it_f (c := x0 = (nI 10)) c6 k
              refine wl_ild_n (pc' := 149) rfl e_0 rfl ?_
              refine wp_p (pc' := 151) (lv' := lv0) (st' := [.int (nI 11), .int x0]) rfl rfl ?_
              refine wp_ic_ne (pc' := 154) rfl rfl (fun c7 => ?_) (fun c7 => ?_)
              · replace k := it_f (c := x0 = (nI 11)) c7 k
                refine wl_ild_n (pc' := 167) rfl e_0 rfl ?_
                refine wp_p (pc' := 169) (lv' := lv0) (st' := [.int (nI 7), .int x0]) rfl rfl ?_
                refine wp_ic_ne (pc' := 172) rfl rfl (fun c8 => ?_) (fun c8 => ?_)
                · replace k := it_f (c := x0 = (nI 7)) c8 k
                  refine wl_ild_n (pc' := 191) rfl e_0 rfl ?_
                  refine wp_p (pc' := 192) (lv' := lv0) (st' := [.int (nI 4), .int x0]) rfl rfl ?_
                  refine wp_ic_ne (pc' := 195) rfl rfl (fun c9 => ?_) (fun c9 => ?_)
                  · replace k := it_f (c := x0 = (nI 4)) c9 k
                    refine wl_ild_n (pc' := 202) rfl e_0 rfl ?_
                    refine wp_p (pc' := 203) (lv' := lv0) (st' := [.int (nI 5), .int x0]) rfl rfl ?_
                    refine wp_ic_ne (pc' := 206) rfl rfl (fun c10 => ?_) (fun c10 => ?_)
                    · replace k := it_f (c := x0 = (nI 5)) c10 k
                      refine wl_lld_n (pc' := 213) rfl e_1 rfl ?_
                      refine wl_lld_n (pc' := 214) rfl e_3 rfl ?_
                      refine wp_lmul (v := y1 * y3) (pc' := 215) rfl rfl rfl ?_
                      refine wp_l2i (v := (y1 * y3).toInt32) (pc' := 216) rfl rfl rfl ?_
                      refine wp_i2l (v := ((y1 * y3).toInt32).toInt64) (pc' := 217) rfl rfl rfl ?_
                      exact wp_r rfl rfl ⟨_, rfl, k⟩
                    · replace k := it_t (c := x0 = (nI 5)) c10 k
                      refine wl_lld_n (pc' := 207) rfl e_1 rfl ?_
                      refine wl_lld_n (pc' := 208) rfl e_3 rfl ?_
                      refine wp_lsub (v := y1 - y3) (pc' := 209) rfl rfl rfl ?_
                      refine wp_p (pc' := 215) (lv' := lv0) (st' := [.long (y1 - y3)]) rfl rfl ?_
                      refine wp_l2i (v := (y1 - y3).toInt32) (pc' := 216) rfl rfl rfl ?_
                      refine wp_i2l (v := ((y1 - y3).toInt32).toInt64) (pc' := 217) rfl rfl rfl ?_
                      exact wp_r rfl rfl ⟨_, rfl, k⟩
                  · replace k := it_t (c := x0 = (nI 4)) c9 k
                    refine wl_lld_n (pc' := 196) rfl e_1 rfl ?_
                    refine wl_lld_n (pc' := 197) rfl e_3 rfl ?_
                    refine wp_ladd (v := y1 + y3) (pc' := 198) rfl rfl rfl ?_
                    refine wp_p (pc' := 215) (lv' := lv0) (st' := [.long (y1 + y3)]) rfl rfl ?_
                    refine wp_l2i (v := (y1 + y3).toInt32) (pc' := 216) rfl rfl rfl ?_
                    refine wp_i2l (v := ((y1 + y3).toInt32).toInt64) (pc' := 217) rfl rfl rfl ?_
                    exact wp_r rfl rfl ⟨_, rfl, k⟩
                · replace k := it_t (c := x0 = (nI 7)) c8 k
                  refine wl_lld_n (pc' := 173) rfl e_3 rfl ?_
                  refine wp_p (pc' := 174) (lv' := lv0) (st' := [.long 0, .long y3]) rfl rfl ?_
                  refine wp_lcmp (v := lg_cmp y3 0) (pc' := 175) rfl rfl rfl ?_
                  refine wp_if_ne (pc' := 178) rfl rfl (fun c11 => ?_) (fun c11 => ?_)
                  · replace k := it_f (c := (lg_cmp y3 0) = (nI 0)) c11 k
                    refine wl_lld_n (pc' := 185) rfl e_1 rfl ?_
                    refine wl_lld_n (pc' := 186) rfl e_3 rfl ?_
                    obtain ⟨k12, k⟩ := k
                    refine wp_ldiv (v := y1 / y3) (pc' := 187) rfl k12 rfl rfl ?_
                    refine wp_l2i (v := (y1 / y3).toInt32) (pc' := 188) rfl rfl rfl ?_
                    refine wp_i2l (v := ((y1 / y3).toInt32).toInt64) (pc' := 189) rfl rfl rfl ?_
                    exact wp_r rfl rfl ⟨_, rfl, k⟩
                  · replace k := it_t (c := (lg_cmp y3 0) = (nI 0)) c11 k
                    refine wp_p (pc' := 181) (lv' := lv0) (st' := [.long 1099511627776]) rfl rfl ?_
                    refine wp_p (pc' := 189) (lv' := lv0) (st' := [.long 1099511627776]) rfl rfl ?_
                    exact wp_r rfl rfl ⟨_, rfl, k⟩
              · replace k := it_t (c := x0 = (nI 11)) c7 k
                refine wl_lld_n (pc' := 155) rfl e_1 rfl ?_
                refine wl_lld_n (pc' := 156) rfl e_3 rfl ?_
                refine wp_lcmp (v := lg_cmp y1 y3) (pc' := 157) rfl rfl rfl ?_
                refine wp_if_le (pc' := 160) rfl rfl (fun c13 => ?_) (fun c13 => ?_)
                · replace k := it_t (c := (lg_cmp y1 y3) ≤ (nI 0)) c13 k
                  refine wp_p (pc' := 165) (lv' := lv0) (st' := [.long 0]) rfl rfl ?_
                  exact wp_r rfl rfl ⟨_, rfl, k⟩
                · replace k := it_f (c := (lg_cmp y1 y3) ≤ (nI 0)) c13 k
                  refine wp_p (pc' := 161) (lv' := lv0) (st' := [.long 1]) rfl rfl ?_
                  refine wp_p (pc' := 165) (lv' := lv0) (st' := [.long 1]) rfl rfl ?_
                  exact wp_r rfl rfl ⟨_, rfl, k⟩
            · replace k := it_t (c := x0 = (nI 10)) c6 k
              refine wl_lld_n (pc' := 137) rfl e_1 rfl ?_
              refine wl_lld_n (pc' := 138) rfl e_3 rfl ?_
              refine wp_lcmp (v := lg_cmp y1 y3) (pc' := 139) rfl rfl rfl ?_
              refine wp_if_ge (pc' := 142) rfl rfl (fun c14 => ?_) (fun c14 => ?_)
              · replace k := it_t (c := (nI 0) ≤ (lg_cmp y1 y3)) c14 k
                refine wp_p (pc' := 147) (lv' := lv0) (st' := [.long 0]) rfl rfl ?_
                exact wp_r rfl rfl ⟨_, rfl, k⟩
              · replace k := it_f (c := (nI 0) ≤ (lg_cmp y1 y3)) c14 k
                refine wp_p (pc' := 143) (lv' := lv0) (st' := [.long 1]) rfl rfl ?_
                refine wp_p (pc' := 147) (lv' := lv0) (st' := [.long 1]) rfl rfl ?_
                exact wp_r rfl rfl ⟨_, rfl, k⟩
          · replace k := it_t (c := x0 = (nI 9)) c5 k
            refine wl_lld_n (pc' := 119) rfl e_1 rfl ?_
            refine wl_lld_n (pc' := 120) rfl e_3 rfl ?_
            refine wp_lcmp (v := lg_cmp y1 y3) (pc' := 121) rfl rfl rfl ?_
            refine wp_if_ne (pc' := 124) rfl rfl (fun c15 => ?_) (fun c15 => ?_)
            · replace k := it_f (c := (lg_cmp y1 y3) = (nI 0)) c15 k
              refine wp_p (pc' := 129) (lv' := lv0) (st' := [.long 0]) rfl rfl ?_
              exact wp_r rfl rfl ⟨_, rfl, k⟩
            · replace k := it_t (c := (lg_cmp y1 y3) = (nI 0)) c15 k
              refine wp_p (pc' := 125) (lv' := lv0) (st' := [.long 1]) rfl rfl ?_
              refine wp_p (pc' := 129) (lv' := lv0) (st' := [.long 1]) rfl rfl ?_
              exact wp_r rfl rfl ⟨_, rfl, k⟩
        · replace k := it_t (c := (lg_cmp y3 1099511627776) = (nI 0)) c4 k
          refine wp_p (pc' := 111) (lv' := lv0) (st' := [.long 1099511627776]) rfl rfl ?_
          exact wp_r rfl rfl ⟨_, rfl, k⟩
    · replace k := it_t (c := x0 = (nI 15)) c2 k
      refine wl_lld_n (pc' := 53) rfl e_1 rfl ?_
      refine wp_p (pc' := 54) (lv' := lv0) (st' := [.long 1, .long y1]) rfl rfl ?_
      refine wp_lcmp (v := lg_cmp y1 1) (pc' := 55) rfl rfl rfl ?_
      refine wp_if_eq (pc' := 58) rfl rfl (fun c16 => ?_) (fun c16 => ?_)
      · replace k := it_t (c := (lg_cmp y1 1) = (nI 0)) c16 k
        refine wp_p (pc' := 65) (lv' := lv0) (st' := [.long 1]) rfl rfl ?_
        refine wp_p (pc' := 91) (lv' := lv0) (st' := [.long 1]) rfl rfl ?_
        exact wp_r rfl rfl ⟨_, rfl, k⟩
      · replace k := it_f (c := (lg_cmp y1 1) = (nI 0)) c16 k
        refine wl_lld_n (pc' := 59) rfl e_3 rfl ?_
        refine wp_p (pc' := 60) (lv' := lv0) (st' := [.long 1, .long y3]) rfl rfl ?_
        refine wp_lcmp (v := lg_cmp y3 1) (pc' := 61) rfl rfl rfl ?_
        refine wp_if_ne (pc' := 64) rfl rfl (fun c17 => ?_) (fun c17 => ?_)
        · replace k := it_f (c := (lg_cmp y3 1) = (nI 0)) c17 k
          refine wl_lld_n (pc' := 69) rfl e_1 rfl ?_
          refine wp_p (pc' := 72) (lv' := lv0) (st' := [.long 1099511627776, .long y1]) rfl rfl ?_
          refine wp_lcmp (v := lg_cmp y1 1099511627776) (pc' := 73) rfl rfl rfl ?_
          refine wp_if_eq (pc' := 76) rfl rfl (fun c18 => ?_) (fun c18 => ?_)
          · replace k := it_t (c := (lg_cmp y1 1099511627776) = (nI 0)) c18 k
            refine wp_p (pc' := 87) (lv' := lv0) (st' := [.long 1099511627776]) rfl rfl ?_
            refine wp_p (pc' := 91) (lv' := lv0) (st' := [.long 1099511627776]) rfl rfl ?_
            exact wp_r rfl rfl ⟨_, rfl, k⟩
          · replace k := it_f (c := (lg_cmp y1 1099511627776) = (nI 0)) c18 k
            refine wl_lld_n (pc' := 77) rfl e_3 rfl ?_
            refine wp_p (pc' := 80) (lv' := lv0) (st' := [.long 1099511627776, .long y3]) rfl rfl ?_
            refine wp_lcmp (v := lg_cmp y3 1099511627776) (pc' := 81) rfl rfl rfl ?_
            refine wp_if_ne (pc' := 84) rfl rfl (fun c19 => ?_) (fun c19 => ?_)
            · replace k := it_f (c := (lg_cmp y3 1099511627776) = (nI 0)) c19 k
              refine wp_p (pc' := 91) (lv' := lv0) (st' := [.long 0]) rfl rfl ?_
              exact wp_r rfl rfl ⟨_, rfl, k⟩
            · replace k := it_t (c := (lg_cmp y3 1099511627776) = (nI 0)) c19 k
              refine wp_p (pc' := 87) (lv' := lv0) (st' := [.long 1099511627776]) rfl rfl ?_
              refine wp_p (pc' := 91) (lv' := lv0) (st' := [.long 1099511627776]) rfl rfl ?_
              exact wp_r rfl rfl ⟨_, rfl, k⟩
        · replace k := it_t (c := (lg_cmp y3 1) = (nI 0)) c17 k
          refine wp_p (pc' := 65) (lv' := lv0) (st' := [.long 1]) rfl rfl ?_
          refine wp_p (pc' := 91) (lv' := lv0) (st' := [.long 1]) rfl rfl ?_
          exact wp_r rfl rfl ⟨_, rfl, k⟩
  · replace k := it_t (c := x0 = (nI 14)) c1 k
    refine wl_lld_n (pc' := 7) rfl e_1 rfl ?_
    refine wp_p (pc' := 8) (lv' := lv0) (st' := [.long 0, .long y1]) rfl rfl ?_
    refine wp_lcmp (v := lg_cmp y1 0) (pc' := 9) rfl rfl rfl ?_
    refine wp_if_eq (pc' := 12) rfl rfl (fun c20 => ?_) (fun c20 => ?_)
    · replace k := it_t (c := (lg_cmp y1 0) = (nI 0)) c20 k
      refine wp_p (pc' := 19) (lv' := lv0) (st' := [.long 0]) rfl rfl ?_
      refine wp_p (pc' := 45) (lv' := lv0) (st' := [.long 0]) rfl rfl ?_
      exact wp_r rfl rfl ⟨_, rfl, k⟩
    · replace k := it_f (c := (lg_cmp y1 0) = (nI 0)) c20 k
      refine wl_lld_n (pc' := 13) rfl e_3 rfl ?_
      refine wp_p (pc' := 14) (lv' := lv0) (st' := [.long 0, .long y3]) rfl rfl ?_
      refine wp_lcmp (v := lg_cmp y3 0) (pc' := 15) rfl rfl rfl ?_
      refine wp_if_ne (pc' := 18) rfl rfl (fun c21 => ?_) (fun c21 => ?_)
      · replace k := it_f (c := (lg_cmp y3 0) = (nI 0)) c21 k
        refine wl_lld_n (pc' := 23) rfl e_1 rfl ?_
        refine wp_p (pc' := 26) (lv' := lv0) (st' := [.long 1099511627776, .long y1]) rfl rfl ?_
        refine wp_lcmp (v := lg_cmp y1 1099511627776) (pc' := 27) rfl rfl rfl ?_
        refine wp_if_eq (pc' := 30) rfl rfl (fun c22 => ?_) (fun c22 => ?_)
        · replace k := it_t (c := (lg_cmp y1 1099511627776) = (nI 0)) c22 k
          refine wp_p (pc' := 41) (lv' := lv0) (st' := [.long 1099511627776]) rfl rfl ?_
          refine wp_p (pc' := 45) (lv' := lv0) (st' := [.long 1099511627776]) rfl rfl ?_
          exact wp_r rfl rfl ⟨_, rfl, k⟩
        · replace k := it_f (c := (lg_cmp y1 1099511627776) = (nI 0)) c22 k
          refine wl_lld_n (pc' := 31) rfl e_3 rfl ?_
          refine wp_p (pc' := 34) (lv' := lv0) (st' := [.long 1099511627776, .long y3]) rfl rfl ?_
          refine wp_lcmp (v := lg_cmp y3 1099511627776) (pc' := 35) rfl rfl rfl ?_
          refine wp_if_ne (pc' := 38) rfl rfl (fun c23 => ?_) (fun c23 => ?_)
          · replace k := it_f (c := (lg_cmp y3 1099511627776) = (nI 0)) c23 k
            refine wp_p (pc' := 45) (lv' := lv0) (st' := [.long 1]) rfl rfl ?_
            exact wp_r rfl rfl ⟨_, rfl, k⟩
          · replace k := it_t (c := (lg_cmp y3 1099511627776) = (nI 0)) c23 k
            refine wp_p (pc' := 41) (lv' := lv0) (st' := [.long 1099511627776]) rfl rfl ?_
            refine wp_p (pc' := 45) (lv' := lv0) (st' := [.long 1099511627776]) rfl rfl ?_
            exact wp_r rfl rfl ⟨_, rfl, k⟩
      · replace k := it_t (c := (lg_cmp y3 0) = (nI 0)) c21 k
        refine wp_p (pc' := 19) (lv' := lv0) (st' := [.long 0]) rfl rfl ?_
        refine wp_p (pc' := 45) (lv' := lv0) (st' := [.long 0]) rfl rfl ?_
        exact wp_r rfl rfl ⟨_, rfl, k⟩
/-! 169: QueryTablesModel.holdsTrue -/
set_option maxRecDepth 20000 in
theorem sp_169 {d : Nat} {m : Mm} {K : Option Value → Mm → Prop} (k : (if (m.F 42 25) = (nI 0) then K (some (.int (nI 1))) m else WP d 167 [.ref 42, .int (m.F 42 26), .int (m.F 42 27)] m (fun v m2 => ∃ w3, v = some (.long w3) ∧ (if (lg_cmp w3 1) = (nI 0) then K (some (.int (nI 1))) m2 else K (some (.int (nI 0))) m2)))) : WP (d + 1) 169 [.ref 42] m K := by
  have e_0 : sm_lk (lv_args 0 [.ref 42]) 0 = some (.ref 42) := rfl
  show sm_wp (d + 1) 169 0 (lv_args 0 [.ref 42]) [] (hp m) (WQ K)
  generalize lv_args 0 [.ref 42] = lv0 at *
  refine wl_ald_n (pc' := 1) rfl e_0 rfl ?_
  refine wp_get (v := .int (m.F 42 25)) (pc' := 4) rfl (hq_42 _) rfl rfl ?_
  refine wp_if_eq (pc' := 7) rfl rfl (fun c1 => ?_) (fun c1 => ?_)
  · replace k := it_t (c := (m.F 42 25) = (nI 0)) c1 k
    refine wp_p (pc' := 25) (lv' := lv0) (st' := [.int (nI 1)]) rfl rfl ?_
    refine wp_p (pc' := 29) (lv' := lv0) (st' := [.int (nI 1)]) rfl rfl ?_
    exact wl_ret rfl rfl ⟨_, rfl, k⟩
  · replace k := it_f (c := (m.F 42 25) = (nI 0)) c1 k
    refine wl_ald_n (pc' := 8) rfl e_0 rfl ?_
    refine wl_ald_n (pc' := 9) rfl e_0 rfl ?_
    refine wp_get (v := .int (m.F 42 26)) (pc' := 12) rfl (hq_42 _) rfl rfl ?_
    refine wl_ald_n (pc' := 13) rfl e_0 rfl ?_
    refine wp_get (v := .int (m.F 42 27)) (pc' := 16) rfl (hq_42 _) rfl rfl ?_
    refine wl_cv (As := [.ref 42, .int (m.F 42 26), .int (m.F 42 27)]) (r := []) (pc' := 19) rfl rfl rfl k ?_
    rintro _ m2 ⟨w3, rfl, k⟩
    show sm_wp (d + 1) 169 19 lv0 [.long w3] (hp m2) (WQ K)
    refine wp_p (pc' := 20) (lv' := lv0) (st' := [.long 1, .long w3]) rfl rfl ?_
    refine wp_lcmp (v := lg_cmp w3 1) (pc' := 21) rfl rfl rfl ?_
    refine wp_if_ne (pc' := 24) rfl rfl (fun c4 => ?_) (fun c4 => ?_)
    · replace k := it_f (c := (lg_cmp w3 1) = (nI 0)) c4 k
      refine wp_p (pc' := 29) (lv' := lv0) (st' := [.int (nI 0)]) rfl rfl ?_
      exact wl_ret rfl rfl ⟨_, rfl, k⟩
    · replace k := it_t (c := (lg_cmp w3 1) = (nI 0)) c4 k
      refine wp_p (pc' := 25) (lv' := lv0) (st' := [.int (nI 1)]) rfl rfl ?_
      refine wp_p (pc' := 29) (lv' := lv0) (st' := [.int (nI 1)]) rfl rfl ?_
      exact wl_ret rfl rfl ⟨_, rfl, k⟩
/-! 170: QueryTablesModel.tablesIn -/
set_option maxRecDepth 20000 in
theorem sp_170 {d : Nat} {m : Mm} {K : Option Value → Mm → Prop} (x1 : Int32) (x2 : Int32) (k : WH d 170 5 [(0, .ref 42), (2, .int x2), (3, .int (nI 0)), (4, .int x1)] [] m K) : WP d 170 [.ref 42, .int x1, .int x2] m K := by
  have e_0 : sm_lk (lv_args 0 [.ref 42, .int x1, .int x2]) 0 = some (.ref 42) := rfl
  have e_1 : sm_lk (lv_args 0 [.ref 42, .int x1, .int x2]) 1 = some (.int x1) := rfl
  have e_2 : sm_lk (lv_args 0 [.ref 42, .int x1, .int x2]) 2 = some (.int x2) := rfl
  show sm_wp d 170 0 (lv_args 0 [.ref 42, .int x1, .int x2]) [] (hp m) (WQ K)
  generalize lv_args 0 [.ref 42, .int x1, .int x2] = lv0 at *
  refine wp_p (pc' := 1) (lv' := lv0) (st' := [.int (nI 0)]) rfl rfl ?_
  refine wl_st1 (pc' := 2) (k0 := 3) (v := .int (nI 0)) (r := []) rfl rfl (fun lv1 e2 f3 => ?_)
  have e4 := f3 0 _ e_0 (by decide) rfl
  have e5 := f3 1 _ e_1 (by decide) rfl
  have e6 := f3 2 _ e_2 (by decide) rfl
  refine wl_ild_n (pc' := 3) rfl e5 rfl ?_
  refine wl_st1 (pc' := 5) (k0 := 4) (v := .int x1) (r := []) rfl rfl (fun lv7 e8 f9 => ?_)
  have e10 := f9 0 _ e4 (by decide) rfl
  have e11 := f9 1 _ e5 (by decide) rfl
  have e12 := f9 2 _ e6 (by decide) rfl
  have e13 := f9 3 _ e2 (by decide) rfl
  exact k _ ⟨e10, e12, e13, e8, trivial⟩
set_option maxRecDepth 20000 in
theorem sg_170_5 {d : Nat} {m : Mm} {K : Option Value → Mm → Prop} (x2 : Int32) (x3 : Int32) (x4 : Int32) (k : (if x2 ≤ x4 then K (some (.int x3)) m else ok (m.A 46).length x4 ∧ (if ((m.A 46).getD (ix x4) 0) = (nI 3) then ok (m.A 47).length x4 ∧ WH d 170 5 [(0, .ref 42), (2, .int x2), (3, .int (x3 ||| ((nI 1) <<< ((((m.A 47).getD (ix x4) 0) / (nI 4)) &&& 31)))), (4, .int (x4 + nI 1))] [] m K else WH d 170 5 [(0, .ref 42), (2, .int x2), (3, .int x3), (4, .int (x4 + nI 1))] [] m K))) : WH d 170 5 [(0, .ref 42), (2, .int x2), (3, .int x3), (4, .int x4)] [] m K := by
  intro lv0 el
  obtain ⟨e_0, e_2, e_3, e_4, _⟩ := el
  refine wl_ild (pc' := 7) rfl e_4 rfl ?_
  refine wl_ild_n (pc' := 8) rfl e_2 rfl ?_
  refine wp_ic_ge (pc' := 11) rfl rfl (fun c1 => ?_) (fun c1 => ?_)
  · replace k := it_t (c := x2 ≤ x4) c1 k
    refine wl_ild_n (pc' := 47) rfl e_3 rfl ?_
    exact wl_ret rfl rfl ⟨_, rfl, k⟩
  · replace k := it_f (c := x2 ≤ x4) c1 k
    refine wl_ald_n (pc' := 12) rfl e_0 rfl ?_
    refine wp_get (v := .ref 46) (pc' := 15) rfl (hq_42 _) rfl rfl ?_
    refine wl_ild (pc' := 17) rfl e_4 rfl ?_
    obtain ⟨k2, k⟩ := k
    refine wl_iaload (g := m.A 46) (pc' := 18) rfl (hq_46 _) k2 rfl ?_
    refine wp_p (pc' := 19) (lv' := lv0) (st' := [.int (nI 3), .int ((m.A 46).getD (ix x4) 0)]) rfl rfl ?_
    refine wp_ic_ne (pc' := 22) rfl rfl (fun c3 => ?_) (fun c3 => ?_)
    · replace k := it_f (c := ((m.A 46).getD (ix x4) 0) = (nI 3)) c3 k
      refine wl_ild_n (pc' := 39) rfl e_3 rfl ?_
      refine wl_st1 (pc' := 40) (k0 := 3) (v := .int x3) (r := []) rfl rfl (fun lv4 e5 f6 => ?_)
      have e7 := f6 0 _ e_0 (by decide) rfl
      have e8 := f6 2 _ e_2 (by decide) rfl
      have e9 := f6 4 _ e_4 (by decide) rfl
      refine wl_iinc (pc' := 43) (v := x4 + nI 1) rfl e9 rfl rfl rfl (fun lv10 e11 f12 => ?_)
      have e13 := f12 0 _ e7 (by decide) rfl
      have e14 := f12 2 _ e8 (by decide) rfl
      have e15 := f12 3 _ e5 (by decide) rfl
      refine wp_p (pc' := 5) (lv' := lv10) (st' := []) rfl rfl ?_
      exact k _ ⟨e13, e14, e15, e11, trivial⟩
    · replace k := it_t (c := ((m.A 46).getD (ix x4) 0) = (nI 3)) c3 k
      refine wl_ild_n (pc' := 23) rfl e_3 rfl ?_
      refine wp_p (pc' := 24) (lv' := lv0) (st' := [.int (nI 1), .int x3]) rfl rfl ?_
      refine wl_ald_n (pc' := 25) rfl e_0 rfl ?_
      refine wp_get (v := .ref 47) (pc' := 28) rfl (hq_42 _) rfl rfl ?_
      refine wl_ild (pc' := 30) rfl e_4 rfl ?_
      obtain ⟨k16, k⟩ := k
      refine wl_iaload (g := m.A 47) (pc' := 31) rfl (hq_47 _) k16 rfl ?_
      refine wp_p (pc' := 32) (lv' := lv0) (st' := [.int (nI 4), .int ((m.A 47).getD (ix x4) 0), .int (nI 1), .int x3]) rfl rfl ?_
      refine wp_idiv (v := ((m.A 47).getD (ix x4) 0) / (nI 4)) (pc' := 33) rfl (by decide) rfl rfl ?_
      refine wp_ishl (v := (nI 1) <<< ((((m.A 47).getD (ix x4) 0) / (nI 4)) &&& 31)) (pc' := 34) rfl rfl rfl ?_
      refine wp_ior (v := x3 ||| ((nI 1) <<< ((((m.A 47).getD (ix x4) 0) / (nI 4)) &&& 31))) (pc' := 35) rfl rfl rfl ?_
      refine wp_p (pc' := 39) (lv' := lv0) (st' := [.int (x3 ||| ((nI 1) <<< ((((m.A 47).getD (ix x4) 0) / (nI 4)) &&& 31)))]) rfl rfl ?_
      refine wl_st1 (pc' := 40) (k0 := 3) (v := .int (x3 ||| ((nI 1) <<< ((((m.A 47).getD (ix x4) 0) / (nI 4)) &&& 31)))) (r := []) rfl rfl (fun lv17 e18 f19 => ?_)
      have e20 := f19 0 _ e_0 (by decide) rfl
      have e21 := f19 2 _ e_2 (by decide) rfl
      have e22 := f19 4 _ e_4 (by decide) rfl
      refine wl_iinc (pc' := 43) (v := x4 + nI 1) rfl e22 rfl rfl rfl (fun lv23 e24 f25 => ?_)
      have e26 := f25 0 _ e20 (by decide) rfl
      have e27 := f25 2 _ e21 (by decide) rfl
      have e28 := f25 3 _ e18 (by decide) rfl
      refine wp_p (pc' := 5) (lv' := lv23) (st' := []) rfl rfl ?_
      exact k _ ⟨e26, e27, e28, e24, trivial⟩
/-! 171: QueryTablesModel.only -/
set_option maxRecDepth 20000 in
theorem sp_171 {d : Nat} {m : Mm} {K : Option Value → Mm → Prop} (x1 : Int32) (x2 : Int32) (x3 : Int32) (x4 : Int32) (k : (if x2 = (x1 + (nI 1)) then ok (m.A 46).length x1 ∧ (if ((m.A 46).getD (ix x1) 0) = (nI 3) then ok (m.A 47).length x1 ∧ (if (((m.A 47).getD (ix x1) 0) / (nI 4)) = x3 then (if x4 = (nI 0) then ok (m.A 47).length x1 ∧ ok (m.A 59).length ((m.A 47).getD (ix x1) 0) ∧ isB ((m.A 59).getD (ix ((m.A 47).getD (ix x1) 0)) 0) ∧ K (some (.int ((m.A 59).getD (ix ((m.A 47).getD (ix x1) 0)) 0))) m else ok (m.A 47).length x1 ∧ (if (((m.A 47).getD (ix x1) 0) - ((m.A 47).getD (ix x1) 0) / (nI 4) * (nI 4)) = (nI 0) then K (some (.int (nI 1))) m else K (some (.int (nI 0))) m)) else K (some (.int (nI 0))) m) else K (some (.int (nI 0))) m) else K (some (.int (nI 0))) m)) : WP d 171 [.ref 42, .int x1, .int x2, .int x3, .int x4] m K := by
  have e_0 : sm_lk (lv_args 0 [.ref 42, .int x1, .int x2, .int x3, .int x4]) 0 = some (.ref 42) := rfl
  have e_1 : sm_lk (lv_args 0 [.ref 42, .int x1, .int x2, .int x3, .int x4]) 1 = some (.int x1) := rfl
  have e_2 : sm_lk (lv_args 0 [.ref 42, .int x1, .int x2, .int x3, .int x4]) 2 = some (.int x2) := rfl
  have e_3 : sm_lk (lv_args 0 [.ref 42, .int x1, .int x2, .int x3, .int x4]) 3 = some (.int x3) := rfl
  have e_4 : sm_lk (lv_args 0 [.ref 42, .int x1, .int x2, .int x3, .int x4]) 4 = some (.int x4) := rfl
  show sm_wp d 171 0 (lv_args 0 [.ref 42, .int x1, .int x2, .int x3, .int x4]) [] (hp m) (WQ K)
  generalize lv_args 0 [.ref 42, .int x1, .int x2, .int x3, .int x4] = lv0 at *
  refine wl_ild_n (pc' := 1) rfl e_2 rfl ?_
  refine wl_ild_n (pc' := 2) rfl e_1 rfl ?_
  refine wp_p (pc' := 3) (lv' := lv0) (st' := [.int (nI 1), .int x1, .int x2]) rfl rfl ?_
  refine wp_iadd (v := x1 + (nI 1)) (pc' := 4) rfl rfl rfl ?_
  refine wp_ic_ne (pc' := 7) rfl rfl (fun c1 => ?_) (fun c1 => ?_)
  · replace k := it_f (c := x2 = (x1 + (nI 1))) c1 k
    refine wp_p (pc' := 30) (lv' := lv0) (st' := [.int (nI 0)]) rfl rfl ?_
    exact wl_ret rfl rfl ⟨_, rfl, k⟩
  · replace k := it_t (c := x2 = (x1 + (nI 1))) c1 k
    refine wl_ald_n (pc' := 8) rfl e_0 rfl ?_
    refine wp_get (v := .ref 46) (pc' := 11) rfl (hq_42 _) rfl rfl ?_
    refine wl_ild_n (pc' := 12) rfl e_1 rfl ?_
    obtain ⟨k2, k⟩ := k
    refine wl_iaload (g := m.A 46) (pc' := 13) rfl (hq_46 _) k2 rfl ?_
    refine wp_p (pc' := 14) (lv' := lv0) (st' := [.int (nI 3), .int ((m.A 46).getD (ix x1) 0)]) rfl rfl ?_
    refine wp_ic_ne (pc' := 17) rfl rfl (fun c3 => ?_) (fun c3 => ?_)
    · replace k := it_f (c := ((m.A 46).getD (ix x1) 0) = (nI 3)) c3 k
      refine wp_p (pc' := 30) (lv' := lv0) (st' := [.int (nI 0)]) rfl rfl ?_
      exact wl_ret rfl rfl ⟨_, rfl, k⟩
    · replace k := it_t (c := ((m.A 46).getD (ix x1) 0) = (nI 3)) c3 k
      refine wl_ald_n (pc' := 18) rfl e_0 rfl ?_
      refine wp_get (v := .ref 47) (pc' := 21) rfl (hq_42 _) rfl rfl ?_
      refine wl_ild_n (pc' := 22) rfl e_1 rfl ?_
      obtain ⟨k4, k⟩ := k
      refine wl_iaload (g := m.A 47) (pc' := 23) rfl (hq_47 _) k4 rfl ?_
      refine wp_p (pc' := 24) (lv' := lv0) (st' := [.int (nI 4), .int ((m.A 47).getD (ix x1) 0)]) rfl rfl ?_
      refine wp_idiv (v := ((m.A 47).getD (ix x1) 0) / (nI 4)) (pc' := 25) rfl (by decide) rfl rfl ?_
      refine wl_ild_n (pc' := 26) rfl e_3 rfl ?_
      refine wp_ic_eq (pc' := 29) rfl rfl (fun c5 => ?_) (fun c5 => ?_)
      · replace k := it_t (c := (((m.A 47).getD (ix x1) 0) / (nI 4)) = x3) c5 k
        refine wl_ild (pc' := 33) rfl e_4 rfl ?_
        refine wp_if_eq (pc' := 36) rfl rfl (fun c6 => ?_) (fun c6 => ?_)
        · replace k := it_t (c := x4 = (nI 0)) c6 k
          refine wl_ald_n (pc' := 56) rfl e_0 rfl ?_
          refine wp_get (v := .ref 59) (pc' := 59) rfl (hq_42 _) rfl rfl ?_
          refine wl_ald_n (pc' := 60) rfl e_0 rfl ?_
          refine wp_get (v := .ref 47) (pc' := 63) rfl (hq_42 _) rfl rfl ?_
          refine wl_ild_n (pc' := 64) rfl e_1 rfl ?_
          obtain ⟨k7, k⟩ := k
          refine wl_iaload (g := m.A 47) (pc' := 65) rfl (hq_47 _) k7 rfl ?_
          obtain ⟨k8, k⟩ := k
          refine wl_baload (g := m.A 59) (pc' := 66) rfl (hq_59 _) k8 rfl ?_
          obtain ⟨k9, k⟩ := k
          exact wl_ret rfl k9 ⟨_, rfl, k⟩
        · replace k := it_f (c := x4 = (nI 0)) c6 k
          refine wl_ald_n (pc' := 37) rfl e_0 rfl ?_
          refine wp_get (v := .ref 47) (pc' := 40) rfl (hq_42 _) rfl rfl ?_
          refine wl_ild_n (pc' := 41) rfl e_1 rfl ?_
          obtain ⟨k10, k⟩ := k
          refine wl_iaload (g := m.A 47) (pc' := 42) rfl (hq_47 _) k10 rfl ?_
          refine wp_p (pc' := 43) (lv' := lv0) (st' := [.int (nI 4), .int ((m.A 47).getD (ix x1) 0)]) rfl rfl ?_
          refine wp_irem (v := ((m.A 47).getD (ix x1) 0) - ((m.A 47).getD (ix x1) 0) / (nI 4) * (nI 4)) (pc' := 44) rfl (by decide) rfl rfl ?_
          refine wp_if_ne (pc' := 47) rfl rfl (fun c11 => ?_) (fun c11 => ?_)
          · replace k := it_f (c := (((m.A 47).getD (ix x1) 0) - ((m.A 47).getD (ix x1) 0) / (nI 4) * (nI 4)) = (nI 0)) c11 k
            refine wp_p (pc' := 52) (lv' := lv0) (st' := [.int (nI 0)]) rfl rfl ?_
            refine wp_p (pc' := 66) (lv' := lv0) (st' := [.int (nI 0)]) rfl rfl ?_
            exact wl_ret rfl rfl ⟨_, rfl, k⟩
          · replace k := it_t (c := (((m.A 47).getD (ix x1) 0) - ((m.A 47).getD (ix x1) 0) / (nI 4) * (nI 4)) = (nI 0)) c11 k
            refine wp_p (pc' := 48) (lv' := lv0) (st' := [.int (nI 1)]) rfl rfl ?_
            refine wp_p (pc' := 66) (lv' := lv0) (st' := [.int (nI 1)]) rfl rfl ?_
            exact wl_ret rfl rfl ⟨_, rfl, k⟩
      · replace k := it_f (c := (((m.A 47).getD (ix x1) 0) / (nI 4)) = x3) c5 k
        refine wp_p (pc' := 30) (lv' := lv0) (st' := [.int (nI 0)]) rfl rfl ?_
        exact wl_ret rfl rfl ⟨_, rfl, k⟩
/-! 172: QueryTablesModel.fixing -/
set_option maxRecDepth 20000 in
theorem sp_172 {d : Nat} {m : Mm} {K : Option Value → Mm → Prop} (x1 : Int32) (x2 : Int32) (x3 : Int32) (k : WH d 172 3 [(0, .ref 42), (1, .int x1), (2, .int x2), (3, .int x3), (4, .int (nI 0))] [] m K) : WP d 172 [.ref 42, .int x1, .int x2, .int x3] m K := by
  have e_0 : sm_lk (lv_args 0 [.ref 42, .int x1, .int x2, .int x3]) 0 = some (.ref 42) := rfl
  have e_1 : sm_lk (lv_args 0 [.ref 42, .int x1, .int x2, .int x3]) 1 = some (.int x1) := rfl
  have e_2 : sm_lk (lv_args 0 [.ref 42, .int x1, .int x2, .int x3]) 2 = some (.int x2) := rfl
  have e_3 : sm_lk (lv_args 0 [.ref 42, .int x1, .int x2, .int x3]) 3 = some (.int x3) := rfl
  show sm_wp d 172 0 (lv_args 0 [.ref 42, .int x1, .int x2, .int x3]) [] (hp m) (WQ K)
  generalize lv_args 0 [.ref 42, .int x1, .int x2, .int x3] = lv0 at *
  refine wp_p (pc' := 1) (lv' := lv0) (st' := [.int (nI 0)]) rfl rfl ?_
  refine wl_st1 (pc' := 3) (k0 := 4) (v := .int (nI 0)) (r := []) rfl rfl (fun lv1 e2 f3 => ?_)
  have e4 := f3 0 _ e_0 (by decide) rfl
  have e5 := f3 1 _ e_1 (by decide) rfl
  have e6 := f3 2 _ e_2 (by decide) rfl
  have e7 := f3 3 _ e_3 (by decide) rfl
  exact k _ ⟨e4, e5, e6, e7, e2, trivial⟩
set_option maxRecDepth 20000 in
theorem sg_172_3 {d : Nat} {m : Mm} {K : Option Value → Mm → Prop} (x1 : Int32) (x2 : Int32) (x3 : Int32) (x4 : Int32) (k : (if (m.F 42 33) ≤ x4 then K (some (.int (-1))) m else ok (m.A 55).length x4 ∧ (if ((m.A 55).getD (ix x4) 0) < (nI 0) then WH (d + 1) 172 3 [(0, .ref 42), (1, .int x1), (2, .int x2), (3, .int x3), (4, .int (x4 + nI 1))] [] m K else WP d 173 [.ref 42, .int x4, .int x1, .int x2, .int x3] m (fun v m11 => ∃ w12, v = some (.int w12) ∧ (if w12 < (nI 0) then WH (d + 1) 172 3 [(0, .ref 42), (1, .int x1), (2, .int x2), (3, .int x3), (4, .int (x4 + nI 1))] [] m11 K else K (some (.int x4)) m11))))) : WH (d + 1) 172 3 [(0, .ref 42), (1, .int x1), (2, .int x2), (3, .int x3), (4, .int x4)] [] m K := by
  intro lv0 el
  obtain ⟨e_0, e_1, e_2, e_3, e_4, _⟩ := el
  refine wl_ild (pc' := 5) rfl e_4 rfl ?_
  refine wl_ald_n (pc' := 6) rfl e_0 rfl ?_
  refine wp_get (v := .int (m.F 42 33)) (pc' := 9) rfl (hq_42 _) rfl rfl ?_
  refine wp_ic_ge (pc' := 12) rfl rfl (fun c1 => ?_) (fun c1 => ?_)
  · replace k := it_t (c := (m.F 42 33) ≤ x4) c1 k
    refine wp_p (pc' := 44) (lv' := lv0) (st' := [.int (-1)]) rfl rfl ?_
    exact wl_ret rfl rfl ⟨_, rfl, k⟩
  · replace k := it_f (c := (m.F 42 33) ≤ x4) c1 k
    refine wl_ald_n (pc' := 13) rfl e_0 rfl ?_
    refine wp_get (v := .ref 55) (pc' := 16) rfl (hq_42 _) rfl rfl ?_
    refine wl_ild (pc' := 18) rfl e_4 rfl ?_
    obtain ⟨k2, k⟩ := k
    refine wl_iaload (g := m.A 55) (pc' := 19) rfl (hq_55 _) k2 rfl ?_
    refine wp_if_lt (pc' := 22) rfl rfl (fun c3 => ?_) (fun c3 => ?_)
    · replace k := it_t (c := ((m.A 55).getD (ix x4) 0) < (nI 0)) c3 k
      refine wl_iinc (pc' := 40) (v := x4 + nI 1) rfl e_4 rfl rfl rfl (fun lv4 e5 f6 => ?_)
      have e7 := f6 0 _ e_0 (by decide) rfl
      have e8 := f6 1 _ e_1 (by decide) rfl
      have e9 := f6 2 _ e_2 (by decide) rfl
      have e10 := f6 3 _ e_3 (by decide) rfl
      refine wp_p (pc' := 3) (lv' := lv4) (st' := []) rfl rfl ?_
      exact k _ ⟨e7, e8, e9, e10, e5, trivial⟩
    · replace k := it_f (c := ((m.A 55).getD (ix x4) 0) < (nI 0)) c3 k
      refine wl_ald_n (pc' := 23) rfl e_0 rfl ?_
      refine wl_ild (pc' := 25) rfl e_4 rfl ?_
      refine wl_ild_n (pc' := 26) rfl e_1 rfl ?_
      refine wl_ild_n (pc' := 27) rfl e_2 rfl ?_
      refine wl_ild_n (pc' := 28) rfl e_3 rfl ?_
      refine wl_cv (As := [.ref 42, .int x4, .int x1, .int x2, .int x3]) (r := []) (pc' := 31) rfl rfl rfl k ?_
      rintro _ m11 ⟨w12, rfl, k⟩
      show sm_wp (d + 1) 172 31 lv0 [.int w12] (hp m11) (WQ K)
      refine wp_if_lt (pc' := 34) rfl rfl (fun c13 => ?_) (fun c13 => ?_)
      · replace k := it_t (c := w12 < (nI 0)) c13 k
        refine wl_iinc (pc' := 40) (v := x4 + nI 1) rfl e_4 rfl rfl rfl (fun lv14 e15 f16 => ?_)
        have e17 := f16 0 _ e_0 (by decide) rfl
        have e18 := f16 1 _ e_1 (by decide) rfl
        have e19 := f16 2 _ e_2 (by decide) rfl
        have e20 := f16 3 _ e_3 (by decide) rfl
        refine wp_p (pc' := 3) (lv' := lv14) (st' := []) rfl rfl ?_
        exact k _ ⟨e17, e18, e19, e20, e15, trivial⟩
      · replace k := it_f (c := w12 < (nI 0)) c13 k
        refine wl_ild (pc' := 36) rfl e_4 rfl ?_
        exact wl_ret rfl rfl ⟨_, rfl, k⟩
/-! 173: QueryTablesModel.side -/
set_option maxRecDepth 20000 in
theorem sp_173 {d : Nat} {m : Mm} {K : Option Value → Mm → Prop} (x1 : Int32) (x2 : Int32) (x3 : Int32) (x4 : Int32) (k : ok (m.A 53).length x1 ∧ ok (m.A 55).length x1 ∧ ok (m.A 54).length x1 ∧ WP d 171 [.ref 42, .int ((m.A 53).getD (ix x1) 0), .int ((m.A 55).getD (ix x1) 0), .int x2, .int x4] m (fun v m31 => ∃ w32, v = some (.int w32) ∧ (if w32 = (nI 0) then WP d 171 [.ref 42, .int ((m.A 55).getD (ix x1) 0), .int (((m.A 54).getD (ix x1) 0) - (nI 1)), .int x2, .int x4] m31 (fun v m34 => ∃ w35, v = some (.int w35) ∧ (if w35 = (nI 0) then K (some (.int (-1))) m34 else WP d 170 [.ref 42, .int ((m.A 53).getD (ix x1) 0), .int ((m.A 55).getD (ix x1) 0)] m34 (fun v m37 => ∃ w38, v = some (.int w38) ∧ (if (w38 &&& (x3 ^^^ (-1))) = (nI 0) then K (some (.int (nI 1))) m37 else K (some (.int (-1))) m37)))) else WP d 170 [.ref 42, .int ((m.A 55).getD (ix x1) 0), .int (((m.A 54).getD (ix x1) 0) - (nI 1))] m31 (fun v m40 => ∃ w41, v = some (.int w41) ∧ (if (w41 &&& (x3 ^^^ (-1))) = (nI 0) then K (some (.int (nI 0))) m40 else WP d 171 [.ref 42, .int ((m.A 55).getD (ix x1) 0), .int (((m.A 54).getD (ix x1) 0) - (nI 1)), .int x2, .int x4] m40 (fun v m43 => ∃ w44, v = some (.int w44) ∧ (if w44 = (nI 0) then K (some (.int (-1))) m43 else WP d 170 [.ref 42, .int ((m.A 53).getD (ix x1) 0), .int ((m.A 55).getD (ix x1) 0)] m43 (fun v m46 => ∃ w47, v = some (.int w47) ∧ (if (w47 &&& (x3 ^^^ (-1))) = (nI 0) then K (some (.int (nI 1))) m46 else K (some (.int (-1))) m46))))))))) : WP (d + 1) 173 [.ref 42, .int x1, .int x2, .int x3, .int x4] m K := by
  have e_0 : sm_lk (lv_args 0 [.ref 42, .int x1, .int x2, .int x3, .int x4]) 0 = some (.ref 42) := rfl
  have e_1 : sm_lk (lv_args 0 [.ref 42, .int x1, .int x2, .int x3, .int x4]) 1 = some (.int x1) := rfl
  have e_2 : sm_lk (lv_args 0 [.ref 42, .int x1, .int x2, .int x3, .int x4]) 2 = some (.int x2) := rfl
  have e_3 : sm_lk (lv_args 0 [.ref 42, .int x1, .int x2, .int x3, .int x4]) 3 = some (.int x3) := rfl
  have e_4 : sm_lk (lv_args 0 [.ref 42, .int x1, .int x2, .int x3, .int x4]) 4 = some (.int x4) := rfl
  show sm_wp (d + 1) 173 0 (lv_args 0 [.ref 42, .int x1, .int x2, .int x3, .int x4]) [] (hp m) (WQ K)
  generalize lv_args 0 [.ref 42, .int x1, .int x2, .int x3, .int x4] = lv0 at *
  refine wl_ald_n (pc' := 1) rfl e_0 rfl ?_
  refine wp_get (v := .ref 53) (pc' := 4) rfl (hq_42 _) rfl rfl ?_
  refine wl_ild_n (pc' := 5) rfl e_1 rfl ?_
  obtain ⟨k1, k⟩ := k
  refine wl_iaload (g := m.A 53) (pc' := 6) rfl (hq_53 _) k1 rfl ?_
  refine wl_st1 (pc' := 8) (k0 := 5) (v := .int ((m.A 53).getD (ix x1) 0)) (r := []) rfl rfl (fun lv2 e3 f4 => ?_)
  have e5 := f4 0 _ e_0 (by decide) rfl
  have e6 := f4 1 _ e_1 (by decide) rfl
  have e7 := f4 2 _ e_2 (by decide) rfl
  have e8 := f4 3 _ e_3 (by decide) rfl
  have e9 := f4 4 _ e_4 (by decide) rfl
  refine wl_ald_n (pc' := 9) rfl e5 rfl ?_
  refine wp_get (v := .ref 55) (pc' := 12) rfl (hq_42 _) rfl rfl ?_
  refine wl_ild_n (pc' := 13) rfl e6 rfl ?_
  obtain ⟨k10, k⟩ := k
  refine wl_iaload (g := m.A 55) (pc' := 14) rfl (hq_55 _) k10 rfl ?_
  refine wl_st1 (pc' := 16) (k0 := 6) (v := .int ((m.A 55).getD (ix x1) 0)) (r := []) rfl rfl (fun lv11 e12 f13 => ?_)
  have e14 := f13 0 _ e5 (by decide) rfl
  have e15 := f13 1 _ e6 (by decide) rfl
  have e16 := f13 2 _ e7 (by decide) rfl
  have e17 := f13 3 _ e8 (by decide) rfl
  have e18 := f13 4 _ e9 (by decide) rfl
  have e19 := f13 5 _ e3 (by decide) rfl
  refine wl_ald_n (pc' := 17) rfl e14 rfl ?_
  refine wp_get (v := .ref 54) (pc' := 20) rfl (hq_42 _) rfl rfl ?_
  refine wl_ild_n (pc' := 21) rfl e15 rfl ?_
  obtain ⟨k20, k⟩ := k
  refine wl_iaload (g := m.A 54) (pc' := 22) rfl (hq_54 _) k20 rfl ?_
  refine wp_p (pc' := 23) (lv' := lv11) (st' := [.int (nI 1), .int ((m.A 54).getD (ix x1) 0)]) rfl rfl ?_
  refine wp_isub (v := ((m.A 54).getD (ix x1) 0) - (nI 1)) (pc' := 24) rfl rfl rfl ?_
  refine wl_st1 (pc' := 26) (k0 := 7) (v := .int (((m.A 54).getD (ix x1) 0) - (nI 1))) (r := []) rfl rfl (fun lv21 e22 f23 => ?_)
  have e24 := f23 0 _ e14 (by decide) rfl
  have e25 := f23 1 _ e15 (by decide) rfl
  have e26 := f23 2 _ e16 (by decide) rfl
  have e27 := f23 3 _ e17 (by decide) rfl
  have e28 := f23 4 _ e18 (by decide) rfl
  have e29 := f23 5 _ e19 (by decide) rfl
  have e30 := f23 6 _ e12 (by decide) rfl
  refine wl_ald_n (pc' := 27) rfl e24 rfl ?_
  refine wl_ild (pc' := 29) rfl e29 rfl ?_
  refine wl_ild (pc' := 31) rfl e30 rfl ?_
  refine wl_ild_n (pc' := 32) rfl e26 rfl ?_
  refine wl_ild (pc' := 34) rfl e28 rfl ?_
  refine wl_cv (As := [.ref 42, .int ((m.A 53).getD (ix x1) 0), .int ((m.A 55).getD (ix x1) 0), .int x2, .int x4]) (r := []) (pc' := 37) rfl rfl rfl k ?_
  rintro _ m31 ⟨w32, rfl, k⟩
  show sm_wp (d + 1) 173 37 lv21 [.int w32] (hp m31) (WQ K)
  refine wp_if_eq (pc' := 40) rfl rfl (fun c33 => ?_) (fun c33 => ?_)
  · replace k := it_t (c := w32 = (nI 0)) c33 k
    refine wl_ald_n (pc' := 58) rfl e24 rfl ?_
    refine wl_ild (pc' := 60) rfl e30 rfl ?_
    refine wl_ild (pc' := 62) rfl e22 rfl ?_
    refine wl_ild_n (pc' := 63) rfl e26 rfl ?_
    refine wl_ild (pc' := 65) rfl e28 rfl ?_
    refine wl_cv (As := [.ref 42, .int ((m.A 55).getD (ix x1) 0), .int (((m.A 54).getD (ix x1) 0) - (nI 1)), .int x2, .int x4]) (r := []) (pc' := 68) rfl rfl rfl k ?_
    rintro _ m34 ⟨w35, rfl, k⟩
    show sm_wp (d + 1) 173 68 lv21 [.int w35] (hp m34) (WQ K)
    refine wp_if_eq (pc' := 71) rfl rfl (fun c36 => ?_) (fun c36 => ?_)
    · replace k := it_t (c := w35 = (nI 0)) c36 k
      refine wp_p (pc' := 91) (lv' := lv21) (st' := [.int (-1)]) rfl rfl ?_
      exact wl_ret rfl rfl ⟨_, rfl, k⟩
    · replace k := it_f (c := w35 = (nI 0)) c36 k
      refine wl_ald_n (pc' := 72) rfl e24 rfl ?_
      refine wl_ild (pc' := 74) rfl e29 rfl ?_
      refine wl_ild (pc' := 76) rfl e30 rfl ?_
      refine wl_cv (As := [.ref 42, .int ((m.A 53).getD (ix x1) 0), .int ((m.A 55).getD (ix x1) 0)]) (r := []) (pc' := 79) rfl rfl rfl k ?_
      rintro _ m37 ⟨w38, rfl, k⟩
      show sm_wp (d + 1) 173 79 lv21 [.int w38] (hp m37) (WQ K)
      refine wl_ild_n (pc' := 80) rfl e27 rfl ?_
      refine wp_p (pc' := 81) (lv' := lv21) (st' := [.int (-1), .int x3, .int w38]) rfl rfl ?_
      refine wp_ixor (v := x3 ^^^ (-1)) (pc' := 82) rfl rfl rfl ?_
      refine wp_iand (v := w38 &&& (x3 ^^^ (-1))) (pc' := 83) rfl rfl rfl ?_
      refine wp_if_ne (pc' := 86) rfl rfl (fun c39 => ?_) (fun c39 => ?_)
      · replace k := it_f (c := (w38 &&& (x3 ^^^ (-1))) = (nI 0)) c39 k
        refine wp_p (pc' := 91) (lv' := lv21) (st' := [.int (-1)]) rfl rfl ?_
        exact wl_ret rfl rfl ⟨_, rfl, k⟩
      · replace k := it_t (c := (w38 &&& (x3 ^^^ (-1))) = (nI 0)) c39 k
        refine wp_p (pc' := 87) (lv' := lv21) (st' := [.int (nI 1)]) rfl rfl ?_
        refine wp_p (pc' := 91) (lv' := lv21) (st' := [.int (nI 1)]) rfl rfl ?_
        exact wl_ret rfl rfl ⟨_, rfl, k⟩
  · replace k := it_f (c := w32 = (nI 0)) c33 k
    refine wl_ald_n (pc' := 41) rfl e24 rfl ?_
    refine wl_ild (pc' := 43) rfl e30 rfl ?_
    refine wl_ild (pc' := 45) rfl e22 rfl ?_
    refine wl_cv (As := [.ref 42, .int ((m.A 55).getD (ix x1) 0), .int (((m.A 54).getD (ix x1) 0) - (nI 1))]) (r := []) (pc' := 48) rfl rfl rfl k ?_
    rintro _ m40 ⟨w41, rfl, k⟩
    show sm_wp (d + 1) 173 48 lv21 [.int w41] (hp m40) (WQ K)
    refine wl_ild_n (pc' := 49) rfl e27 rfl ?_
    refine wp_p (pc' := 50) (lv' := lv21) (st' := [.int (-1), .int x3, .int w41]) rfl rfl ?_
    refine wp_ixor (v := x3 ^^^ (-1)) (pc' := 51) rfl rfl rfl ?_
    refine wp_iand (v := w41 &&& (x3 ^^^ (-1))) (pc' := 52) rfl rfl rfl ?_
    refine wp_if_ne (pc' := 55) rfl rfl (fun c42 => ?_) (fun c42 => ?_)
    · replace k := it_f (c := (w41 &&& (x3 ^^^ (-1))) = (nI 0)) c42 k
      refine wl_ald_n (pc' := 58) rfl e24 rfl ?_
      refine wl_ild (pc' := 60) rfl e30 rfl ?_
      refine wl_ild (pc' := 62) rfl e22 rfl ?_
      refine wl_ild_n (pc' := 63) rfl e26 rfl ?_
      refine wl_ild (pc' := 65) rfl e28 rfl ?_
      refine wl_cv (As := [.ref 42, .int ((m.A 55).getD (ix x1) 0), .int (((m.A 54).getD (ix x1) 0) - (nI 1)), .int x2, .int x4]) (r := []) (pc' := 68) rfl rfl rfl k ?_
      rintro _ m43 ⟨w44, rfl, k⟩
      show sm_wp (d + 1) 173 68 lv21 [.int w44] (hp m43) (WQ K)
      refine wp_if_eq (pc' := 71) rfl rfl (fun c45 => ?_) (fun c45 => ?_)
      · replace k := it_t (c := w44 = (nI 0)) c45 k
        refine wp_p (pc' := 91) (lv' := lv21) (st' := [.int (-1)]) rfl rfl ?_
        exact wl_ret rfl rfl ⟨_, rfl, k⟩
      · replace k := it_f (c := w44 = (nI 0)) c45 k
        refine wl_ald_n (pc' := 72) rfl e24 rfl ?_
        refine wl_ild (pc' := 74) rfl e29 rfl ?_
        refine wl_ild (pc' := 76) rfl e30 rfl ?_
        refine wl_cv (As := [.ref 42, .int ((m.A 53).getD (ix x1) 0), .int ((m.A 55).getD (ix x1) 0)]) (r := []) (pc' := 79) rfl rfl rfl k ?_
        rintro _ m46 ⟨w47, rfl, k⟩
        show sm_wp (d + 1) 173 79 lv21 [.int w47] (hp m46) (WQ K)
        refine wl_ild_n (pc' := 80) rfl e27 rfl ?_
        refine wp_p (pc' := 81) (lv' := lv21) (st' := [.int (-1), .int x3, .int w47]) rfl rfl ?_
        refine wp_ixor (v := x3 ^^^ (-1)) (pc' := 82) rfl rfl rfl ?_
        refine wp_iand (v := w47 &&& (x3 ^^^ (-1))) (pc' := 83) rfl rfl rfl ?_
        refine wp_if_ne (pc' := 86) rfl rfl (fun c48 => ?_) (fun c48 => ?_)
        · replace k := it_f (c := (w47 &&& (x3 ^^^ (-1))) = (nI 0)) c48 k
          refine wp_p (pc' := 91) (lv' := lv21) (st' := [.int (-1)]) rfl rfl ?_
          exact wl_ret rfl rfl ⟨_, rfl, k⟩
        · replace k := it_t (c := (w47 &&& (x3 ^^^ (-1))) = (nI 0)) c48 k
          refine wp_p (pc' := 87) (lv' := lv21) (st' := [.int (nI 1)]) rfl rfl ?_
          refine wp_p (pc' := 91) (lv' := lv21) (st' := [.int (nI 1)]) rfl rfl ?_
          exact wl_ret rfl rfl ⟨_, rfl, k⟩
    · replace k := it_t (c := (w41 &&& (x3 ^^^ (-1))) = (nI 0)) c42 k
      refine wp_p (pc' := 56) (lv' := lv21) (st' := [.int (nI 0)]) rfl rfl ?_
      exact wl_ret rfl rfl ⟨_, rfl, k⟩
/-! 174: QueryTablesModel.access -/
set_option maxRecDepth 20000 in
theorem sp_174 {d : Nat} {m : Mm} {K : Option Value → Mm → Prop} (x1 : Int32) (x2 : Int32) (k : WP d 172 [.ref 42, .int x1, .int x2, .int (nI 1)] m (fun v m1 => ∃ w2, v = some (.int w2) ∧ (if w2 < (nI 0) then WP d 172 [.ref 42, .int x1, .int x2, .int (nI 0)] (m1.uF 42 58 w2) (fun v m4 => ∃ w5, v = some (.int w5) ∧ (if w5 < (nI 0) then K (some (.int (nI 1))) (m4.uF 42 58 w5) else K (some (.int (nI 2))) (m4.uF 42 58 w5))) else K (some (.int (nI 3))) (m1.uF 42 58 w2)))) : WP (d + 1) 174 [.ref 42, .int x1, .int x2] m K := by
  have e_0 : sm_lk (lv_args 0 [.ref 42, .int x1, .int x2]) 0 = some (.ref 42) := rfl
  have e_1 : sm_lk (lv_args 0 [.ref 42, .int x1, .int x2]) 1 = some (.int x1) := rfl
  have e_2 : sm_lk (lv_args 0 [.ref 42, .int x1, .int x2]) 2 = some (.int x2) := rfl
  show sm_wp (d + 1) 174 0 (lv_args 0 [.ref 42, .int x1, .int x2]) [] (hp m) (WQ K)
  generalize lv_args 0 [.ref 42, .int x1, .int x2] = lv0 at *
  refine wl_ald_n (pc' := 1) rfl e_0 rfl ?_
  refine wl_ald_n (pc' := 2) rfl e_0 rfl ?_
  refine wl_ild_n (pc' := 3) rfl e_1 rfl ?_
  refine wl_ild_n (pc' := 4) rfl e_2 rfl ?_
  refine wp_p (pc' := 5) (lv' := lv0) (st' := [.int (nI 1), .int x2, .int x1, .ref 42, .ref 42]) rfl rfl ?_
  refine wl_cv (As := [.ref 42, .int x1, .int x2, .int (nI 1)]) (r := [.ref 42]) (pc' := 8) rfl rfl rfl k ?_
  rintro _ m1 ⟨w2, rfl, k⟩
  show sm_wp (d + 1) 174 8 lv0 [.int w2, .ref 42] (hp m1) (WQ K)
  refine wl_put (pc' := 11) (h2 := hp (m1.uF 42 58 w2)) rfl (hq_42 _) rfl rfl rfl (pf_42_58 _ _) ?_
  refine wl_ald_n (pc' := 12) rfl e_0 rfl ?_
  refine wp_get (v := .int w2) (pc' := 15) rfl (hq_42 _) rfl rfl ?_
  refine wp_if_lt (pc' := 18) rfl rfl (fun c3 => ?_) (fun c3 => ?_)
  · replace k := it_t (c := w2 < (nI 0)) c3 k
    refine wl_ald_n (pc' := 21) rfl e_0 rfl ?_
    refine wl_ald_n (pc' := 22) rfl e_0 rfl ?_
    refine wl_ild_n (pc' := 23) rfl e_1 rfl ?_
    refine wl_ild_n (pc' := 24) rfl e_2 rfl ?_
    refine wp_p (pc' := 25) (lv' := lv0) (st' := [.int (nI 0), .int x2, .int x1, .ref 42, .ref 42]) rfl rfl ?_
    refine wl_cv (As := [.ref 42, .int x1, .int x2, .int (nI 0)]) (r := [.ref 42]) (pc' := 28) rfl rfl rfl k ?_
    rintro _ m4 ⟨w5, rfl, k⟩
    show sm_wp (d + 1) 174 28 lv0 [.int w5, .ref 42] (hp m4) (WQ K)
    refine wl_put (pc' := 31) (h2 := hp (m4.uF 42 58 w5)) rfl (hq_42 _) rfl rfl rfl (pf_42_58 _ _) ?_
    refine wl_ald_n (pc' := 32) rfl e_0 rfl ?_
    refine wp_get (v := .int w5) (pc' := 35) rfl (hq_42 _) rfl rfl ?_
    refine wp_if_lt (pc' := 38) rfl rfl (fun c6 => ?_) (fun c6 => ?_)
    · replace k := it_t (c := w5 < (nI 0)) c6 k
      refine wp_p (pc' := 43) (lv' := lv0) (st' := [.int (nI 1)]) rfl rfl ?_
      exact wl_ret rfl rfl ⟨_, rfl, k⟩
    · replace k := it_f (c := w5 < (nI 0)) c6 k
      refine wp_p (pc' := 39) (lv' := lv0) (st' := [.int (nI 2)]) rfl rfl ?_
      refine wp_p (pc' := 43) (lv' := lv0) (st' := [.int (nI 2)]) rfl rfl ?_
      exact wl_ret rfl rfl ⟨_, rfl, k⟩
  · replace k := it_f (c := w2 < (nI 0)) c3 k
    refine wp_p (pc' := 19) (lv' := lv0) (st' := [.int (nI 3)]) rfl rfl ?_
    exact wl_ret rfl rfl ⟨_, rfl, k⟩
/-! 175: QueryTablesModel.cost -/
set_option maxRecDepth 20000 in
theorem sp_175 {d : Nat} {m : Mm} {K : Option Value → Mm → Prop} (x1 : Int32) (x2 : Int32) (k : (if x2 = (nI 3) then K (some (.int (nI 1))) m else (if x2 = (nI 2) then ok (m.A 57).length x1 ∧ K (some (.int ((((m.A 57).getD (ix x1) 0) + (nI 1)) / (nI 2)))) m else ok (m.A 57).length x1 ∧ K (some (.int ((m.A 57).getD (ix x1) 0))) m))) : WP d 175 [.ref 42, .int x1, .int x2] m K := by
  have e_0 : sm_lk (lv_args 0 [.ref 42, .int x1, .int x2]) 0 = some (.ref 42) := rfl
  have e_1 : sm_lk (lv_args 0 [.ref 42, .int x1, .int x2]) 1 = some (.int x1) := rfl
  have e_2 : sm_lk (lv_args 0 [.ref 42, .int x1, .int x2]) 2 = some (.int x2) := rfl
  show sm_wp d 175 0 (lv_args 0 [.ref 42, .int x1, .int x2]) [] (hp m) (WQ K)
  generalize lv_args 0 [.ref 42, .int x1, .int x2] = lv0 at *
  refine wl_ild_n (pc' := 1) rfl e_2 rfl ?_
  refine wp_p (pc' := 2) (lv' := lv0) (st' := [.int (nI 3), .int x2]) rfl rfl ?_
  refine wp_ic_ne (pc' := 5) rfl rfl (fun c1 => ?_) (fun c1 => ?_)
  · replace k := it_f (c := x2 = (nI 3)) c1 k
    refine wl_ild_n (pc' := 10) rfl e_2 rfl ?_
    refine wp_p (pc' := 11) (lv' := lv0) (st' := [.int (nI 2), .int x2]) rfl rfl ?_
    refine wp_ic_ne (pc' := 14) rfl rfl (fun c2 => ?_) (fun c2 => ?_)
    · replace k := it_f (c := x2 = (nI 2)) c2 k
      refine wl_ald_n (pc' := 28) rfl e_0 rfl ?_
      refine wp_get (v := .ref 57) (pc' := 31) rfl (hq_42 _) rfl rfl ?_
      refine wl_ild_n (pc' := 32) rfl e_1 rfl ?_
      obtain ⟨k3, k⟩ := k
      refine wl_iaload (g := m.A 57) (pc' := 33) rfl (hq_57 _) k3 rfl ?_
      exact wl_ret rfl rfl ⟨_, rfl, k⟩
    · replace k := it_t (c := x2 = (nI 2)) c2 k
      refine wl_ald_n (pc' := 15) rfl e_0 rfl ?_
      refine wp_get (v := .ref 57) (pc' := 18) rfl (hq_42 _) rfl rfl ?_
      refine wl_ild_n (pc' := 19) rfl e_1 rfl ?_
      obtain ⟨k4, k⟩ := k
      refine wl_iaload (g := m.A 57) (pc' := 20) rfl (hq_57 _) k4 rfl ?_
      refine wp_p (pc' := 21) (lv' := lv0) (st' := [.int (nI 1), .int ((m.A 57).getD (ix x1) 0)]) rfl rfl ?_
      refine wp_iadd (v := ((m.A 57).getD (ix x1) 0) + (nI 1)) (pc' := 22) rfl rfl rfl ?_
      refine wp_p (pc' := 23) (lv' := lv0) (st' := [.int (nI 2), .int (((m.A 57).getD (ix x1) 0) + (nI 1))]) rfl rfl ?_
      refine wp_idiv (v := (((m.A 57).getD (ix x1) 0) + (nI 1)) / (nI 2)) (pc' := 24) rfl (by decide) rfl rfl ?_
      refine wp_p (pc' := 33) (lv' := lv0) (st' := [.int ((((m.A 57).getD (ix x1) 0) + (nI 1)) / (nI 2))]) rfl rfl ?_
      exact wl_ret rfl rfl ⟨_, rfl, k⟩
  · replace k := it_t (c := x2 = (nI 3)) c1 k
    refine wp_p (pc' := 6) (lv' := lv0) (st' := [.int (nI 1)]) rfl rfl ?_
    refine wp_p (pc' := 33) (lv' := lv0) (st' := [.int (nI 1)]) rfl rfl ?_
    exact wl_ret rfl rfl ⟨_, rfl, k⟩
