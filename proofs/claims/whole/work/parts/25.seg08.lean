/-! SEGMENTS of the methods 155 to 161 (by program, wip/whole/gen25.py): what must hold of a way from one place to the next -/
/-! 155: QueryTablesModel.test -/
set_option maxRecDepth 20000 in
theorem sp_155 {d : Nat} {m : Mm} {K : Option Value → Mm → Prop} (k : WP d 139 [.int (nI 110), .int (nI 111), .int (nI 116), .int (nI 0), .int (nI 0), .int (nI 0)] m (fun v m1 => ∃ w2, v = some (.int w2) ∧ WP d 142 [.ref 42, .int w2] m1 (fun v m3 => ∃ w4, v = some (.int w4) ∧ (if w4 = (nI 0) then WP d 141 [.ref 42, .int (nI 91)] m3 (fun v m10 => ∃ w11, v = some (.int w11) ∧ (if w11 = (nI 0) then WP d 151 [.ref 42] m10 (fun v m13 => v = none ∧ WP d 140 [.ref 42, .int (nI 61)] m13 (fun v m14 => ∃ w15, v = some (.int w15) ∧ (if w15 = (nI 0) then WP d 140 [.ref 42, .int (nI 60)] m14 (fun v m17 => ∃ w18, v = some (.int w18) ∧ (if w18 = (nI 0) then WP d 140 [.ref 42, .int (nI 62)] m17 (fun v m20 => ∃ w21, v = some (.int w21) ∧ (if w21 = (nI 0) then (if (m20.F 42 6) = (nI 0) then WP d 139 [.int (nI 110), .int (nI 117), .int (nI 108), .int (nI 108), .int (nI 0), .int (nI 0)] (m20.uF 42 39 (-1)) (fun v m30 => ∃ w31, v = some (.int w31) ∧ WP d 142 [.ref 42, .int w31] m30 (fun v m32 => ∃ w33, v = some (.int w33) ∧ (if w33 = (nI 0) then WP d 145 [.ref 42, .int (nI 12), .int (nI 0)] (m32.uF 42 6 (nI 1)) (fun v m36 => v = none ∧ WH (d + 1) 155 229 [(0, .ref 42)] [] m36 K) else WP d 145 [.ref 42, .int (nI 12), .int (nI 0)] (m32.uF 42 6 (nI 0)) (fun v m35 => v = none ∧ WH (d + 1) 155 229 [(0, .ref 42)] [] m35 K)))) else WP d 145 [.ref 42, .int (nI 12), .int (nI 0)] ((m20.uF 42 39 (-1)).uF 42 6 (nI 1)) (fun v m29 => v = none ∧ WH (d + 1) 155 229 [(0, .ref 42)] [] m29 K)) else WP d 151 [.ref 42] ((m20.uF 42 39 (-1)).uF 42 5 ((m20.F 42 5) + (nI 1))) (fun v m42 => v = none ∧ WP d 145 [.ref 42, .int (nI 11), .int (nI 0)] m42 (fun v m43 => v = none ∧ WH (d + 1) 155 229 [(0, .ref 42)] [] m43 K)))) else WP d 151 [.ref 42] ((m17.uF 42 39 (-1)).uF 42 5 ((m17.F 42 5) + (nI 1))) (fun v m49 => v = none ∧ WP d 145 [.ref 42, .int (nI 10), .int (nI 0)] m49 (fun v m50 => v = none ∧ WH (d + 1) 155 229 [(0, .ref 42)] [] m50 K)))) else (if (m14.F 42 15) = (nI 0) then WP d 151 [.ref 42] ((m14.uF 42 39 (m14.F 42 7)).uF 42 5 ((m14.F 42 5) + (nI 1))) (fun v m59 => v = none ∧ WP d 145 [.ref 42, .int (nI 9), .int (nI 0)] m59 (fun v m60 => v = none ∧ WH (d + 1) 155 229 [(0, .ref 42)] [] m60 K)) else WP d 151 [.ref 42] ((m14.uF 42 39 (-1)).uF 42 5 ((m14.F 42 5) + (nI 1))) (fun v m57 => v = none ∧ WP d 145 [.ref 42, .int (nI 9), .int (nI 0)] m57 (fun v m58 => v = none ∧ WH (d + 1) 155 229 [(0, .ref 42)] [] m58 K)))))) else WH (d + 1) 155 30 [(0, .ref 42), (1, .int w4)] [] m10 K)) else WH (d + 1) 155 30 [(0, .ref 42), (1, .int w4)] [] m3 K)))) : WP (d + 1) 155 [.ref 42] m K := by
  have e_0 : sm_lk (lv_args 0 [.ref 42]) 0 = some (.ref 42) := rfl
  show sm_wp (d + 1) 155 0 (lv_args 0 [.ref 42]) [] (hp m) (WQ K)
  generalize lv_args 0 [.ref 42] = lv0 at *
  refine wl_ald_n (pc' := 1) rfl e_0 rfl ?_
  refine wp_p (pc' := 3) (lv' := lv0) (st' := [.int (nI 110), .ref 42]) rfl rfl ?_
  refine wp_p (pc' := 5) (lv' := lv0) (st' := [.int (nI 111), .int (nI 110), .ref 42]) rfl rfl ?_
  refine wp_p (pc' := 7) (lv' := lv0) (st' := [.int (nI 116), .int (nI 111), .int (nI 110), .ref 42]) rfl rfl ?_
  refine wp_p (pc' := 8) (lv' := lv0) (st' := [.int (nI 0), .int (nI 116), .int (nI 111), .int (nI 110), .ref 42]) rfl rfl ?_
  refine wp_p (pc' := 9) (lv' := lv0) (st' := [.int (nI 0), .int (nI 0), .int (nI 116), .int (nI 111), .int (nI 110), .ref 42]) rfl rfl ?_
  refine wp_p (pc' := 10) (lv' := lv0) (st' := [.int (nI 0), .int (nI 0), .int (nI 0), .int (nI 116), .int (nI 111), .int (nI 110), .ref 42]) rfl rfl ?_
  refine wl_cs (As := [.int (nI 110), .int (nI 111), .int (nI 116), .int (nI 0), .int (nI 0), .int (nI 0)]) (r := [.ref 42]) (pc' := 13) rfl rfl rfl rfl k ?_
  rintro _ m1 ⟨w2, rfl, k⟩
  show sm_wp (d + 1) 155 13 lv0 [.int w2, .ref 42] (hp m1) (WQ K)
  refine wl_cv (As := [.ref 42, .int w2]) (r := []) (pc' := 16) rfl rfl rfl k ?_
  rintro _ m3 ⟨w4, rfl, k⟩
  show sm_wp (d + 1) 155 16 lv0 [.int w4] (hp m3) (WQ K)
  refine wl_st1 (pc' := 17) (k0 := 1) (v := .int w4) (r := []) rfl rfl (fun lv5 e6 f7 => ?_)
  have e8 := f7 0 _ e_0 (by decide) rfl
  refine wl_ild_n (pc' := 18) rfl e6 rfl ?_
  refine wp_if_ne (pc' := 21) rfl rfl (fun c9 => ?_) (fun c9 => ?_)
  · replace k := it_f (c := w4 = (nI 0)) c9 k
    exact k _ ⟨e8, e6, trivial⟩
  · replace k := it_t (c := w4 = (nI 0)) c9 k
    refine wl_ald_n (pc' := 22) rfl e8 rfl ?_
    refine wp_p (pc' := 24) (lv' := lv5) (st' := [.int (nI 91), .ref 42]) rfl rfl ?_
    refine wl_cv (As := [.ref 42, .int (nI 91)]) (r := []) (pc' := 27) rfl rfl rfl k ?_
    rintro _ m10 ⟨w11, rfl, k⟩
    show sm_wp (d + 1) 155 27 lv5 [.int w11] (hp m10) (WQ K)
    refine wp_if_eq (pc' := 30) rfl rfl (fun c12 => ?_) (fun c12 => ?_)
    · replace k := it_t (c := w11 = (nI 0)) c12 k
      refine wl_ald_n (pc' := 87) rfl e8 rfl ?_
      refine wl_cv (As := [.ref 42]) (r := []) (pc' := 90) rfl rfl rfl k ?_
      rintro _ m13 ⟨rfl, k⟩
      show sm_wp (d + 1) 155 90 lv5 [] (hp m13) (WQ K)
      refine wl_ald_n (pc' := 91) rfl e8 rfl ?_
      refine wp_p (pc' := 93) (lv' := lv5) (st' := [.int (nI 61), .ref 42]) rfl rfl ?_
      refine wl_cv (As := [.ref 42, .int (nI 61)]) (r := []) (pc' := 96) rfl rfl rfl k ?_
      rintro _ m14 ⟨w15, rfl, k⟩
      show sm_wp (d + 1) 155 96 lv5 [.int w15] (hp m14) (WQ K)
      refine wp_if_eq (pc' := 99) rfl rfl (fun c16 => ?_) (fun c16 => ?_)
      · replace k := it_t (c := w15 = (nI 0)) c16 k
        refine wl_ald_n (pc' := 105) rfl e8 rfl ?_
        refine wp_p (pc' := 107) (lv' := lv5) (st' := [.int (nI 60), .ref 42]) rfl rfl ?_
        refine wl_cv (As := [.ref 42, .int (nI 60)]) (r := []) (pc' := 110) rfl rfl rfl k ?_
        rintro _ m17 ⟨w18, rfl, k⟩
        show sm_wp (d + 1) 155 110 lv5 [.int w18] (hp m17) (WQ K)
        refine wp_if_eq (pc' := 113) rfl rfl (fun c19 => ?_) (fun c19 => ?_)
        · replace k := it_t (c := w18 = (nI 0)) c19 k
          refine wl_ald_n (pc' := 119) rfl e8 rfl ?_
          refine wp_p (pc' := 121) (lv' := lv5) (st' := [.int (nI 62), .ref 42]) rfl rfl ?_
          refine wl_cv (As := [.ref 42, .int (nI 62)]) (r := []) (pc' := 124) rfl rfl rfl k ?_
          rintro _ m20 ⟨w21, rfl, k⟩
          show sm_wp (d + 1) 155 124 lv5 [.int w21] (hp m20) (WQ K)
          refine wp_if_eq (pc' := 127) rfl rfl (fun c22 => ?_) (fun c22 => ?_)
          · replace k := it_t (c := w21 = (nI 0)) c22 k
            refine wp_p (pc' := 133) (lv' := lv5) (st' := [.int (nI 0)]) rfl rfl ?_
            refine wl_st1 (pc' := 134) (k0 := 2) (v := .int (nI 0)) (r := []) rfl rfl (fun lv23 e24 f25 => ?_)
            have e26 := f25 0 _ e8 (by decide) rfl
            have e27 := f25 1 _ e6 (by decide) rfl
            refine wl_ald_n (pc' := 135) rfl e26 rfl ?_
            refine wl_ild_n (pc' := 136) rfl e24 rfl ?_
            refine wp_p (pc' := 138) (lv' := lv23) (st' := [.int (nI 9), .int (nI 0), .ref 42]) rfl rfl ?_
            refine wp_p (pc' := 155) (lv' := lv23) (st' := [.ref 42]) rfl rfl ?_
            refine wp_p (pc' := 156) (lv' := lv23) (st' := [.int (-1), .ref 42]) rfl rfl ?_
            refine wl_put (pc' := 159) (h2 := hp (m20.uF 42 39 (-1))) rfl (hq_42 _) rfl rfl rfl (pf_42_39 _ _) ?_
            refine wl_ild_n (pc' := 160) rfl e24 rfl ?_
            refine wp_p (pc' := 186) (lv' := lv23) (st' := []) rfl rfl ?_
            refine wl_ald_n (pc' := 187) rfl e26 rfl ?_
            refine wl_ald_n (pc' := 188) rfl e26 rfl ?_
            refine wp_get (v := .int (m20.F 42 6)) (pc' := 191) rfl (hq_42 _) rfl rfl ?_
            refine wp_if_ne (pc' := 194) rfl rfl (fun c28 => ?_) (fun c28 => ?_)
            · replace k := it_f (c := (m20.F 42 6) = (nI 0)) c28 k
              refine wp_p (pc' := 215) (lv' := lv23) (st' := [.int (nI 1), .ref 42]) rfl rfl ?_
              refine wp_p (pc' := 219) (lv' := lv23) (st' := [.int (nI 1), .ref 42]) rfl rfl ?_
              refine wl_put (pc' := 222) (h2 := hp ((m20.uF 42 39 (-1)).uF 42 6 (nI 1))) rfl (hq_42 _) rfl rfl rfl (pf_42_6 _ _) ?_
              refine wl_ald_n (pc' := 223) rfl e26 rfl ?_
              refine wp_p (pc' := 225) (lv' := lv23) (st' := [.int (nI 12), .ref 42]) rfl rfl ?_
              refine wp_p (pc' := 226) (lv' := lv23) (st' := [.int (nI 0), .int (nI 12), .ref 42]) rfl rfl ?_
              refine wl_cv (As := [.ref 42, .int (nI 12), .int (nI 0)]) (r := []) (pc' := 229) rfl rfl rfl k ?_
              rintro _ m29 ⟨rfl, k⟩
              show sm_wp (d + 1) 155 229 lv23 [] (hp m29) (WQ K)
              exact k _ ⟨e26, trivial⟩
            · replace k := it_t (c := (m20.F 42 6) = (nI 0)) c28 k
              refine wl_ald_n (pc' := 195) rfl e26 rfl ?_
              refine wp_p (pc' := 197) (lv' := lv23) (st' := [.int (nI 110), .ref 42, .ref 42]) rfl rfl ?_
              refine wp_p (pc' := 199) (lv' := lv23) (st' := [.int (nI 117), .int (nI 110), .ref 42, .ref 42]) rfl rfl ?_
              refine wp_p (pc' := 201) (lv' := lv23) (st' := [.int (nI 108), .int (nI 117), .int (nI 110), .ref 42, .ref 42]) rfl rfl ?_
              refine wp_p (pc' := 203) (lv' := lv23) (st' := [.int (nI 108), .int (nI 108), .int (nI 117), .int (nI 110), .ref 42, .ref 42]) rfl rfl ?_
              refine wp_p (pc' := 204) (lv' := lv23) (st' := [.int (nI 0), .int (nI 108), .int (nI 108), .int (nI 117), .int (nI 110), .ref 42, .ref 42]) rfl rfl ?_
              refine wp_p (pc' := 205) (lv' := lv23) (st' := [.int (nI 0), .int (nI 0), .int (nI 108), .int (nI 108), .int (nI 117), .int (nI 110), .ref 42, .ref 42]) rfl rfl ?_
              refine wl_cs (As := [.int (nI 110), .int (nI 117), .int (nI 108), .int (nI 108), .int (nI 0), .int (nI 0)]) (r := [.ref 42, .ref 42]) (pc' := 208) rfl rfl rfl rfl k ?_
              rintro _ m30 ⟨w31, rfl, k⟩
              show sm_wp (d + 1) 155 208 lv23 [.int w31, .ref 42, .ref 42] (hp m30) (WQ K)
              refine wl_cv (As := [.ref 42, .int w31]) (r := [.ref 42]) (pc' := 211) rfl rfl rfl k ?_
              rintro _ m32 ⟨w33, rfl, k⟩
              show sm_wp (d + 1) 155 211 lv23 [.int w33, .ref 42] (hp m32) (WQ K)
              refine wp_if_ne (pc' := 214) rfl rfl (fun c34 => ?_) (fun c34 => ?_)
              · replace k := it_f (c := w33 = (nI 0)) c34 k
                refine wp_p (pc' := 219) (lv' := lv23) (st' := [.int (nI 0), .ref 42]) rfl rfl ?_
                refine wl_put (pc' := 222) (h2 := hp (m32.uF 42 6 (nI 0))) rfl (hq_42 _) rfl rfl rfl (pf_42_6 _ _) ?_
                refine wl_ald_n (pc' := 223) rfl e26 rfl ?_
                refine wp_p (pc' := 225) (lv' := lv23) (st' := [.int (nI 12), .ref 42]) rfl rfl ?_
                refine wp_p (pc' := 226) (lv' := lv23) (st' := [.int (nI 0), .int (nI 12), .ref 42]) rfl rfl ?_
                refine wl_cv (As := [.ref 42, .int (nI 12), .int (nI 0)]) (r := []) (pc' := 229) rfl rfl rfl k ?_
                rintro _ m35 ⟨rfl, k⟩
                show sm_wp (d + 1) 155 229 lv23 [] (hp m35) (WQ K)
                exact k _ ⟨e26, trivial⟩
              · replace k := it_t (c := w33 = (nI 0)) c34 k
                refine wp_p (pc' := 215) (lv' := lv23) (st' := [.int (nI 1), .ref 42]) rfl rfl ?_
                refine wp_p (pc' := 219) (lv' := lv23) (st' := [.int (nI 1), .ref 42]) rfl rfl ?_
                refine wl_put (pc' := 222) (h2 := hp (m32.uF 42 6 (nI 1))) rfl (hq_42 _) rfl rfl rfl (pf_42_6 _ _) ?_
                refine wl_ald_n (pc' := 223) rfl e26 rfl ?_
                refine wp_p (pc' := 225) (lv' := lv23) (st' := [.int (nI 12), .ref 42]) rfl rfl ?_
                refine wp_p (pc' := 226) (lv' := lv23) (st' := [.int (nI 0), .int (nI 12), .ref 42]) rfl rfl ?_
                refine wl_cv (As := [.ref 42, .int (nI 12), .int (nI 0)]) (r := []) (pc' := 229) rfl rfl rfl k ?_
                rintro _ m36 ⟨rfl, k⟩
                show sm_wp (d + 1) 155 229 lv23 [] (hp m36) (WQ K)
                exact k _ ⟨e26, trivial⟩
          · replace k := it_f (c := w21 = (nI 0)) c22 k
            refine wp_p (pc' := 129) (lv' := lv5) (st' := [.int (nI 11)]) rfl rfl ?_
            refine wp_p (pc' := 133) (lv' := lv5) (st' := [.int (nI 11)]) rfl rfl ?_
            refine wl_st1 (pc' := 134) (k0 := 2) (v := .int (nI 11)) (r := []) rfl rfl (fun lv37 e38 f39 => ?_)
            have e40 := f39 0 _ e8 (by decide) rfl
            have e41 := f39 1 _ e6 (by decide) rfl
            refine wl_ald_n (pc' := 135) rfl e40 rfl ?_
            refine wl_ild_n (pc' := 136) rfl e38 rfl ?_
            refine wp_p (pc' := 138) (lv' := lv37) (st' := [.int (nI 9), .int (nI 11), .ref 42]) rfl rfl ?_
            refine wp_p (pc' := 155) (lv' := lv37) (st' := [.ref 42]) rfl rfl ?_
            refine wp_p (pc' := 156) (lv' := lv37) (st' := [.int (-1), .ref 42]) rfl rfl ?_
            refine wl_put (pc' := 159) (h2 := hp (m20.uF 42 39 (-1))) rfl (hq_42 _) rfl rfl rfl (pf_42_39 _ _) ?_
            refine wl_ild_n (pc' := 160) rfl e38 rfl ?_
            refine wp_p (pc' := 163) (lv' := lv37) (st' := []) rfl rfl ?_
            refine wl_ald_n (pc' := 164) rfl e40 rfl ?_
            refine wp_p (pc' := 165) (lv' := lv37) (st' := [.ref 42, .ref 42]) rfl rfl ?_
            refine wp_get (v := .int (m20.F 42 5)) (pc' := 168) rfl (hq_42 _) rfl rfl ?_
            refine wp_p (pc' := 169) (lv' := lv37) (st' := [.int (nI 1), .int (m20.F 42 5), .ref 42]) rfl rfl ?_
            refine wp_iadd (v := (m20.F 42 5) + (nI 1)) (pc' := 170) rfl rfl rfl ?_
            refine wl_put (pc' := 173) (h2 := hp ((m20.uF 42 39 (-1)).uF 42 5 ((m20.F 42 5) + (nI 1)))) rfl (hq_42 _) rfl rfl rfl (pf_42_5 _ _) ?_
            refine wl_ald_n (pc' := 174) rfl e40 rfl ?_
            refine wl_cv (As := [.ref 42]) (r := []) (pc' := 177) rfl rfl rfl k ?_
            rintro _ m42 ⟨rfl, k⟩
            show sm_wp (d + 1) 155 177 lv37 [] (hp m42) (WQ K)
            refine wl_ald_n (pc' := 178) rfl e40 rfl ?_
            refine wl_ild_n (pc' := 179) rfl e38 rfl ?_
            refine wp_p (pc' := 180) (lv' := lv37) (st' := [.int (nI 0), .int (nI 11), .ref 42]) rfl rfl ?_
            refine wl_cv (As := [.ref 42, .int (nI 11), .int (nI 0)]) (r := []) (pc' := 183) rfl rfl rfl k ?_
            rintro _ m43 ⟨rfl, k⟩
            show sm_wp (d + 1) 155 183 lv37 [] (hp m43) (WQ K)
            refine wp_p (pc' := 229) (lv' := lv37) (st' := []) rfl rfl ?_
            exact k _ ⟨e40, trivial⟩
        · replace k := it_f (c := w18 = (nI 0)) c19 k
          refine wp_p (pc' := 115) (lv' := lv5) (st' := [.int (nI 10)]) rfl rfl ?_
          refine wp_p (pc' := 133) (lv' := lv5) (st' := [.int (nI 10)]) rfl rfl ?_
          refine wl_st1 (pc' := 134) (k0 := 2) (v := .int (nI 10)) (r := []) rfl rfl (fun lv44 e45 f46 => ?_)
          have e47 := f46 0 _ e8 (by decide) rfl
          have e48 := f46 1 _ e6 (by decide) rfl
          refine wl_ald_n (pc' := 135) rfl e47 rfl ?_
          refine wl_ild_n (pc' := 136) rfl e45 rfl ?_
          refine wp_p (pc' := 138) (lv' := lv44) (st' := [.int (nI 9), .int (nI 10), .ref 42]) rfl rfl ?_
          refine wp_p (pc' := 155) (lv' := lv44) (st' := [.ref 42]) rfl rfl ?_
          refine wp_p (pc' := 156) (lv' := lv44) (st' := [.int (-1), .ref 42]) rfl rfl ?_
          refine wl_put (pc' := 159) (h2 := hp (m17.uF 42 39 (-1))) rfl (hq_42 _) rfl rfl rfl (pf_42_39 _ _) ?_
          refine wl_ild_n (pc' := 160) rfl e45 rfl ?_
          refine wp_p (pc' := 163) (lv' := lv44) (st' := []) rfl rfl ?_
          refine wl_ald_n (pc' := 164) rfl e47 rfl ?_
          refine wp_p (pc' := 165) (lv' := lv44) (st' := [.ref 42, .ref 42]) rfl rfl ?_
          refine wp_get (v := .int (m17.F 42 5)) (pc' := 168) rfl (hq_42 _) rfl rfl ?_
          refine wp_p (pc' := 169) (lv' := lv44) (st' := [.int (nI 1), .int (m17.F 42 5), .ref 42]) rfl rfl ?_
          refine wp_iadd (v := (m17.F 42 5) + (nI 1)) (pc' := 170) rfl rfl rfl ?_
          refine wl_put (pc' := 173) (h2 := hp ((m17.uF 42 39 (-1)).uF 42 5 ((m17.F 42 5) + (nI 1)))) rfl (hq_42 _) rfl rfl rfl (pf_42_5 _ _) ?_
          refine wl_ald_n (pc' := 174) rfl e47 rfl ?_
          refine wl_cv (As := [.ref 42]) (r := []) (pc' := 177) rfl rfl rfl k ?_
          rintro _ m49 ⟨rfl, k⟩
          show sm_wp (d + 1) 155 177 lv44 [] (hp m49) (WQ K)
          refine wl_ald_n (pc' := 178) rfl e47 rfl ?_
          refine wl_ild_n (pc' := 179) rfl e45 rfl ?_
          refine wp_p (pc' := 180) (lv' := lv44) (st' := [.int (nI 0), .int (nI 10), .ref 42]) rfl rfl ?_
          refine wl_cv (As := [.ref 42, .int (nI 10), .int (nI 0)]) (r := []) (pc' := 183) rfl rfl rfl k ?_
          rintro _ m50 ⟨rfl, k⟩
          show sm_wp (d + 1) 155 183 lv44 [] (hp m50) (WQ K)
          refine wp_p (pc' := 229) (lv' := lv44) (st' := []) rfl rfl ?_
          exact k _ ⟨e47, trivial⟩
      · replace k := it_f (c := w15 = (nI 0)) c16 k
        refine wp_p (pc' := 101) (lv' := lv5) (st' := [.int (nI 9)]) rfl rfl ?_
        refine wp_p (pc' := 133) (lv' := lv5) (st' := [.int (nI 9)]) rfl rfl ?_
        refine wl_st1 (pc' := 134) (k0 := 2) (v := .int (nI 9)) (r := []) rfl rfl (fun lv51 e52 f53 => ?_)
        have e54 := f53 0 _ e8 (by decide) rfl
        have e55 := f53 1 _ e6 (by decide) rfl
        refine wl_ald_n (pc' := 135) rfl e54 rfl ?_
        refine wl_ild_n (pc' := 136) rfl e52 rfl ?_
        refine wp_p (pc' := 138) (lv' := lv51) (st' := [.int (nI 9), .int (nI 9), .ref 42]) rfl rfl ?_
        refine wp_p (pc' := 141) (lv' := lv51) (st' := [.ref 42]) rfl rfl ?_
        refine wl_ald_n (pc' := 142) rfl e54 rfl ?_
        refine wp_get (v := .int (m14.F 42 15)) (pc' := 145) rfl (hq_42 _) rfl rfl ?_
        refine wp_if_ne (pc' := 148) rfl rfl (fun c56 => ?_) (fun c56 => ?_)
        · replace k := it_f (c := (m14.F 42 15) = (nI 0)) c56 k
          refine wp_p (pc' := 156) (lv' := lv51) (st' := [.int (-1), .ref 42]) rfl rfl ?_
          refine wl_put (pc' := 159) (h2 := hp (m14.uF 42 39 (-1))) rfl (hq_42 _) rfl rfl rfl (pf_42_39 _ _) ?_
          refine wl_ild_n (pc' := 160) rfl e52 rfl ?_
          refine wp_p (pc' := 163) (lv' := lv51) (st' := []) rfl rfl ?_
          refine wl_ald_n (pc' := 164) rfl e54 rfl ?_
          refine wp_p (pc' := 165) (lv' := lv51) (st' := [.ref 42, .ref 42]) rfl rfl ?_
          refine wp_get (v := .int (m14.F 42 5)) (pc' := 168) rfl (hq_42 _) rfl rfl ?_
          refine wp_p (pc' := 169) (lv' := lv51) (st' := [.int (nI 1), .int (m14.F 42 5), .ref 42]) rfl rfl ?_
          refine wp_iadd (v := (m14.F 42 5) + (nI 1)) (pc' := 170) rfl rfl rfl ?_
          refine wl_put (pc' := 173) (h2 := hp ((m14.uF 42 39 (-1)).uF 42 5 ((m14.F 42 5) + (nI 1)))) rfl (hq_42 _) rfl rfl rfl (pf_42_5 _ _) ?_
          refine wl_ald_n (pc' := 174) rfl e54 rfl ?_
          refine wl_cv (As := [.ref 42]) (r := []) (pc' := 177) rfl rfl rfl k ?_
          rintro _ m57 ⟨rfl, k⟩
          show sm_wp (d + 1) 155 177 lv51 [] (hp m57) (WQ K)
          refine wl_ald_n (pc' := 178) rfl e54 rfl ?_
          refine wl_ild_n (pc' := 179) rfl e52 rfl ?_
          refine wp_p (pc' := 180) (lv' := lv51) (st' := [.int (nI 0), .int (nI 9), .ref 42]) rfl rfl ?_
          refine wl_cv (As := [.ref 42, .int (nI 9), .int (nI 0)]) (r := []) (pc' := 183) rfl rfl rfl k ?_
          rintro _ m58 ⟨rfl, k⟩
          show sm_wp (d + 1) 155 183 lv51 [] (hp m58) (WQ K)
          refine wp_p (pc' := 229) (lv' := lv51) (st' := []) rfl rfl ?_
          exact k _ ⟨e54, trivial⟩
        · replace k := it_t (c := (m14.F 42 15) = (nI 0)) c56 k
          refine wl_ald_n (pc' := 149) rfl e54 rfl ?_
          refine wp_get (v := .int (m14.F 42 7)) (pc' := 152) rfl (hq_42 _) rfl rfl ?_
          refine wp_p (pc' := 156) (lv' := lv51) (st' := [.int (m14.F 42 7), .ref 42]) rfl rfl ?_
          refine wl_put (pc' := 159) (h2 := hp (m14.uF 42 39 (m14.F 42 7))) rfl (hq_42 _) rfl rfl rfl (pf_42_39 _ _) ?_
          refine wl_ild_n (pc' := 160) rfl e52 rfl ?_
          refine wp_p (pc' := 163) (lv' := lv51) (st' := []) rfl rfl ?_
          refine wl_ald_n (pc' := 164) rfl e54 rfl ?_
          refine wp_p (pc' := 165) (lv' := lv51) (st' := [.ref 42, .ref 42]) rfl rfl ?_
          refine wp_get (v := .int (m14.F 42 5)) (pc' := 168) rfl (hq_42 _) rfl rfl ?_
          refine wp_p (pc' := 169) (lv' := lv51) (st' := [.int (nI 1), .int (m14.F 42 5), .ref 42]) rfl rfl ?_
          refine wp_iadd (v := (m14.F 42 5) + (nI 1)) (pc' := 170) rfl rfl rfl ?_
          refine wl_put (pc' := 173) (h2 := hp ((m14.uF 42 39 (m14.F 42 7)).uF 42 5 ((m14.F 42 5) + (nI 1)))) rfl (hq_42 _) rfl rfl rfl (pf_42_5 _ _) ?_
          refine wl_ald_n (pc' := 174) rfl e54 rfl ?_
          refine wl_cv (As := [.ref 42]) (r := []) (pc' := 177) rfl rfl rfl k ?_
          rintro _ m59 ⟨rfl, k⟩
          show sm_wp (d + 1) 155 177 lv51 [] (hp m59) (WQ K)
          refine wl_ald_n (pc' := 178) rfl e54 rfl ?_
          refine wl_ild_n (pc' := 179) rfl e52 rfl ?_
          refine wp_p (pc' := 180) (lv' := lv51) (st' := [.int (nI 0), .int (nI 9), .ref 42]) rfl rfl ?_
          refine wl_cv (As := [.ref 42, .int (nI 9), .int (nI 0)]) (r := []) (pc' := 183) rfl rfl rfl k ?_
          rintro _ m60 ⟨rfl, k⟩
          show sm_wp (d + 1) 155 183 lv51 [] (hp m60) (WQ K)
          refine wp_p (pc' := 229) (lv' := lv51) (st' := []) rfl rfl ?_
          exact k _ ⟨e54, trivial⟩
    · replace k := it_f (c := w11 = (nI 0)) c12 k
      exact k _ ⟨e8, e6, trivial⟩
set_option maxRecDepth 20000 in
theorem sg_155_30 {d : Nat} {m : Mm} {K : Option Value → Mm → Prop} (x1 : Int32) (k : (if (m.F 42 6) = (nI 0) then (if (m.F 42 15) ≤ (nI 7) then (if x1 = (nI 0) then WP d 153 [.ref 42, .int (nI 16)] (m.uF 42 6 (nI 0)) (fun v m7 => v = none ∧ K none ((m7.uF 42 15 ((m7.F 42 15) + (nI 1))).uF 42 16 (nI 1))) else WP d 153 [.ref 42, .int (nI 13)] (m.uF 42 6 (nI 0)) (fun v m8 => v = none ∧ K none ((m8.uF 42 15 ((m8.F 42 15) + (nI 1))).uF 42 16 (nI 1)))) else (if x1 = (nI 0) then WP d 153 [.ref 42, .int (nI 16)] (m.uF 42 6 (nI 1)) (fun v m10 => v = none ∧ K none ((m10.uF 42 15 ((m10.F 42 15) + (nI 1))).uF 42 16 (nI 1))) else WP d 153 [.ref 42, .int (nI 13)] (m.uF 42 6 (nI 1)) (fun v m11 => v = none ∧ K none ((m11.uF 42 15 ((m11.F 42 15) + (nI 1))).uF 42 16 (nI 1))))) else (if x1 = (nI 0) then WP d 153 [.ref 42, .int (nI 16)] (m.uF 42 6 (nI 1)) (fun v m3 => v = none ∧ K none ((m3.uF 42 15 ((m3.F 42 15) + (nI 1))).uF 42 16 (nI 1))) else WP d 153 [.ref 42, .int (nI 13)] (m.uF 42 6 (nI 1)) (fun v m4 => v = none ∧ K none ((m4.uF 42 15 ((m4.F 42 15) + (nI 1))).uF 42 16 (nI 1)))))) : WH (d + 1) 155 30 [(0, .ref 42), (1, .int x1)] [] m K := by
  intro lv0 el
  obtain ⟨e_0, e_1, _⟩ := el
  refine wl_ald_n (pc' := 31) rfl e_0 rfl ?_
  refine wl_ald_n (pc' := 32) rfl e_0 rfl ?_
  refine wp_get (v := .int (m.F 42 6)) (pc' := 35) rfl (hq_42 _) rfl rfl ?_
  refine wp_if_ne (pc' := 38) rfl rfl (fun c1 => ?_) (fun c1 => ?_)
  · replace k := it_f (c := (m.F 42 6) = (nI 0)) c1 k
    refine wp_p (pc' := 48) (lv' := lv0) (st' := [.int (nI 1), .ref 42]) rfl rfl ?_
    refine wp_p (pc' := 52) (lv' := lv0) (st' := [.int (nI 1), .ref 42]) rfl rfl ?_
    refine wl_put (pc' := 55) (h2 := hp (m.uF 42 6 (nI 1))) rfl (hq_42 _) rfl rfl rfl (pf_42_6 _ _) ?_
    refine wl_ald_n (pc' := 56) rfl e_0 rfl ?_
    refine wl_ild_n (pc' := 57) rfl e_1 rfl ?_
    refine wp_if_eq (pc' := 60) rfl rfl (fun c2 => ?_) (fun c2 => ?_)
    · replace k := it_t (c := x1 = (nI 0)) c2 k
      refine wp_p (pc' := 67) (lv' := lv0) (st' := [.int (nI 16), .ref 42]) rfl rfl ?_
      refine wl_cv (As := [.ref 42, .int (nI 16)]) (r := []) (pc' := 70) rfl rfl rfl k ?_
      rintro _ m3 ⟨rfl, k⟩
      show sm_wp (d + 1) 155 70 lv0 [] (hp m3) (WQ K)
      refine wl_ald_n (pc' := 71) rfl e_0 rfl ?_
      refine wp_p (pc' := 72) (lv' := lv0) (st' := [.ref 42, .ref 42]) rfl rfl ?_
      refine wp_get (v := .int (m3.F 42 15)) (pc' := 75) rfl (hq_42 _) rfl rfl ?_
      refine wp_p (pc' := 76) (lv' := lv0) (st' := [.int (nI 1), .int (m3.F 42 15), .ref 42]) rfl rfl ?_
      refine wp_iadd (v := (m3.F 42 15) + (nI 1)) (pc' := 77) rfl rfl rfl ?_
      refine wl_put (pc' := 80) (h2 := hp (m3.uF 42 15 ((m3.F 42 15) + (nI 1)))) rfl (hq_42 _) rfl rfl rfl (pf_42_15 _ _) ?_
      refine wl_ald_n (pc' := 81) rfl e_0 rfl ?_
      refine wp_p (pc' := 82) (lv' := lv0) (st' := [.int (nI 1), .ref 42]) rfl rfl ?_
      refine wl_put (pc' := 85) (h2 := hp ((m3.uF 42 15 ((m3.F 42 15) + (nI 1))).uF 42 16 (nI 1))) rfl (hq_42 _) rfl rfl rfl (pf_42_16 _ _) ?_
      exact wp_r rfl rfl ⟨_, rfl, k⟩
    · replace k := it_f (c := x1 = (nI 0)) c2 k
      refine wp_p (pc' := 62) (lv' := lv0) (st' := [.int (nI 13), .ref 42]) rfl rfl ?_
      refine wp_p (pc' := 67) (lv' := lv0) (st' := [.int (nI 13), .ref 42]) rfl rfl ?_
      refine wl_cv (As := [.ref 42, .int (nI 13)]) (r := []) (pc' := 70) rfl rfl rfl k ?_
      rintro _ m4 ⟨rfl, k⟩
      show sm_wp (d + 1) 155 70 lv0 [] (hp m4) (WQ K)
      refine wl_ald_n (pc' := 71) rfl e_0 rfl ?_
      refine wp_p (pc' := 72) (lv' := lv0) (st' := [.ref 42, .ref 42]) rfl rfl ?_
      refine wp_get (v := .int (m4.F 42 15)) (pc' := 75) rfl (hq_42 _) rfl rfl ?_
      refine wp_p (pc' := 76) (lv' := lv0) (st' := [.int (nI 1), .int (m4.F 42 15), .ref 42]) rfl rfl ?_
      refine wp_iadd (v := (m4.F 42 15) + (nI 1)) (pc' := 77) rfl rfl rfl ?_
      refine wl_put (pc' := 80) (h2 := hp (m4.uF 42 15 ((m4.F 42 15) + (nI 1)))) rfl (hq_42 _) rfl rfl rfl (pf_42_15 _ _) ?_
      refine wl_ald_n (pc' := 81) rfl e_0 rfl ?_
      refine wp_p (pc' := 82) (lv' := lv0) (st' := [.int (nI 1), .ref 42]) rfl rfl ?_
      refine wl_put (pc' := 85) (h2 := hp ((m4.uF 42 15 ((m4.F 42 15) + (nI 1))).uF 42 16 (nI 1))) rfl (hq_42 _) rfl rfl rfl (pf_42_16 _ _) ?_
      exact wp_r rfl rfl ⟨_, rfl, k⟩
  · replace k := it_t (c := (m.F 42 6) = (nI 0)) c1 k
    refine wl_ald_n (pc' := 39) rfl e_0 rfl ?_
    refine wp_get (v := .int (m.F 42 15)) (pc' := 42) rfl (hq_42 _) rfl rfl ?_
    refine wp_p (pc' := 44) (lv' := lv0) (st' := [.int (nI 7), .int (m.F 42 15), .ref 42]) rfl rfl ?_
    refine wp_ic_le (pc' := 47) rfl rfl (fun c5 => ?_) (fun c5 => ?_)
    · replace k := it_t (c := (m.F 42 15) ≤ (nI 7)) c5 k
      refine wp_p (pc' := 52) (lv' := lv0) (st' := [.int (nI 0), .ref 42]) rfl rfl ?_
      refine wl_put (pc' := 55) (h2 := hp (m.uF 42 6 (nI 0))) rfl (hq_42 _) rfl rfl rfl (pf_42_6 _ _) ?_
      refine wl_ald_n (pc' := 56) rfl e_0 rfl ?_
      refine wl_ild_n (pc' := 57) rfl e_1 rfl ?_
      refine wp_if_eq (pc' := 60) rfl rfl (fun c6 => ?_) (fun c6 => ?_)
      · replace k := it_t (c := x1 = (nI 0)) c6 k
        refine wp_p (pc' := 67) (lv' := lv0) (st' := [.int (nI 16), .ref 42]) rfl rfl ?_
        refine wl_cv (As := [.ref 42, .int (nI 16)]) (r := []) (pc' := 70) rfl rfl rfl k ?_
        rintro _ m7 ⟨rfl, k⟩
        show sm_wp (d + 1) 155 70 lv0 [] (hp m7) (WQ K)
        refine wl_ald_n (pc' := 71) rfl e_0 rfl ?_
        refine wp_p (pc' := 72) (lv' := lv0) (st' := [.ref 42, .ref 42]) rfl rfl ?_
        refine wp_get (v := .int (m7.F 42 15)) (pc' := 75) rfl (hq_42 _) rfl rfl ?_
        refine wp_p (pc' := 76) (lv' := lv0) (st' := [.int (nI 1), .int (m7.F 42 15), .ref 42]) rfl rfl ?_
        refine wp_iadd (v := (m7.F 42 15) + (nI 1)) (pc' := 77) rfl rfl rfl ?_
        refine wl_put (pc' := 80) (h2 := hp (m7.uF 42 15 ((m7.F 42 15) + (nI 1)))) rfl (hq_42 _) rfl rfl rfl (pf_42_15 _ _) ?_
        refine wl_ald_n (pc' := 81) rfl e_0 rfl ?_
        refine wp_p (pc' := 82) (lv' := lv0) (st' := [.int (nI 1), .ref 42]) rfl rfl ?_
        refine wl_put (pc' := 85) (h2 := hp ((m7.uF 42 15 ((m7.F 42 15) + (nI 1))).uF 42 16 (nI 1))) rfl (hq_42 _) rfl rfl rfl (pf_42_16 _ _) ?_
        exact wp_r rfl rfl ⟨_, rfl, k⟩
      · replace k := it_f (c := x1 = (nI 0)) c6 k
        refine wp_p (pc' := 62) (lv' := lv0) (st' := [.int (nI 13), .ref 42]) rfl rfl ?_
        refine wp_p (pc' := 67) (lv' := lv0) (st' := [.int (nI 13), .ref 42]) rfl rfl ?_
        refine wl_cv (As := [.ref 42, .int (nI 13)]) (r := []) (pc' := 70) rfl rfl rfl k ?_
        rintro _ m8 ⟨rfl, k⟩
        show sm_wp (d + 1) 155 70 lv0 [] (hp m8) (WQ K)
        refine wl_ald_n (pc' := 71) rfl e_0 rfl ?_
        refine wp_p (pc' := 72) (lv' := lv0) (st' := [.ref 42, .ref 42]) rfl rfl ?_
        refine wp_get (v := .int (m8.F 42 15)) (pc' := 75) rfl (hq_42 _) rfl rfl ?_
        refine wp_p (pc' := 76) (lv' := lv0) (st' := [.int (nI 1), .int (m8.F 42 15), .ref 42]) rfl rfl ?_
        refine wp_iadd (v := (m8.F 42 15) + (nI 1)) (pc' := 77) rfl rfl rfl ?_
        refine wl_put (pc' := 80) (h2 := hp (m8.uF 42 15 ((m8.F 42 15) + (nI 1)))) rfl (hq_42 _) rfl rfl rfl (pf_42_15 _ _) ?_
        refine wl_ald_n (pc' := 81) rfl e_0 rfl ?_
        refine wp_p (pc' := 82) (lv' := lv0) (st' := [.int (nI 1), .ref 42]) rfl rfl ?_
        refine wl_put (pc' := 85) (h2 := hp ((m8.uF 42 15 ((m8.F 42 15) + (nI 1))).uF 42 16 (nI 1))) rfl (hq_42 _) rfl rfl rfl (pf_42_16 _ _) ?_
        exact wp_r rfl rfl ⟨_, rfl, k⟩
    · replace k := it_f (c := (m.F 42 15) ≤ (nI 7)) c5 k
      refine wp_p (pc' := 48) (lv' := lv0) (st' := [.int (nI 1), .ref 42]) rfl rfl ?_
      refine wp_p (pc' := 52) (lv' := lv0) (st' := [.int (nI 1), .ref 42]) rfl rfl ?_
      refine wl_put (pc' := 55) (h2 := hp (m.uF 42 6 (nI 1))) rfl (hq_42 _) rfl rfl rfl (pf_42_6 _ _) ?_
      refine wl_ald_n (pc' := 56) rfl e_0 rfl ?_
      refine wl_ild_n (pc' := 57) rfl e_1 rfl ?_
      refine wp_if_eq (pc' := 60) rfl rfl (fun c9 => ?_) (fun c9 => ?_)
      · replace k := it_t (c := x1 = (nI 0)) c9 k
        refine wp_p (pc' := 67) (lv' := lv0) (st' := [.int (nI 16), .ref 42]) rfl rfl ?_
        refine wl_cv (As := [.ref 42, .int (nI 16)]) (r := []) (pc' := 70) rfl rfl rfl k ?_
        rintro _ m10 ⟨rfl, k⟩
        show sm_wp (d + 1) 155 70 lv0 [] (hp m10) (WQ K)
        refine wl_ald_n (pc' := 71) rfl e_0 rfl ?_
        refine wp_p (pc' := 72) (lv' := lv0) (st' := [.ref 42, .ref 42]) rfl rfl ?_
        refine wp_get (v := .int (m10.F 42 15)) (pc' := 75) rfl (hq_42 _) rfl rfl ?_
        refine wp_p (pc' := 76) (lv' := lv0) (st' := [.int (nI 1), .int (m10.F 42 15), .ref 42]) rfl rfl ?_
        refine wp_iadd (v := (m10.F 42 15) + (nI 1)) (pc' := 77) rfl rfl rfl ?_
        refine wl_put (pc' := 80) (h2 := hp (m10.uF 42 15 ((m10.F 42 15) + (nI 1)))) rfl (hq_42 _) rfl rfl rfl (pf_42_15 _ _) ?_
        refine wl_ald_n (pc' := 81) rfl e_0 rfl ?_
        refine wp_p (pc' := 82) (lv' := lv0) (st' := [.int (nI 1), .ref 42]) rfl rfl ?_
        refine wl_put (pc' := 85) (h2 := hp ((m10.uF 42 15 ((m10.F 42 15) + (nI 1))).uF 42 16 (nI 1))) rfl (hq_42 _) rfl rfl rfl (pf_42_16 _ _) ?_
        exact wp_r rfl rfl ⟨_, rfl, k⟩
      · replace k := it_f (c := x1 = (nI 0)) c9 k
        refine wp_p (pc' := 62) (lv' := lv0) (st' := [.int (nI 13), .ref 42]) rfl rfl ?_
        refine wp_p (pc' := 67) (lv' := lv0) (st' := [.int (nI 13), .ref 42]) rfl rfl ?_
        refine wl_cv (As := [.ref 42, .int (nI 13)]) (r := []) (pc' := 70) rfl rfl rfl k ?_
        rintro _ m11 ⟨rfl, k⟩
        show sm_wp (d + 1) 155 70 lv0 [] (hp m11) (WQ K)
        refine wl_ald_n (pc' := 71) rfl e_0 rfl ?_
        refine wp_p (pc' := 72) (lv' := lv0) (st' := [.ref 42, .ref 42]) rfl rfl ?_
        refine wp_get (v := .int (m11.F 42 15)) (pc' := 75) rfl (hq_42 _) rfl rfl ?_
        refine wp_p (pc' := 76) (lv' := lv0) (st' := [.int (nI 1), .int (m11.F 42 15), .ref 42]) rfl rfl ?_
        refine wp_iadd (v := (m11.F 42 15) + (nI 1)) (pc' := 77) rfl rfl rfl ?_
        refine wl_put (pc' := 80) (h2 := hp (m11.uF 42 15 ((m11.F 42 15) + (nI 1)))) rfl (hq_42 _) rfl rfl rfl (pf_42_15 _ _) ?_
        refine wl_ald_n (pc' := 81) rfl e_0 rfl ?_
        refine wp_p (pc' := 82) (lv' := lv0) (st' := [.int (nI 1), .ref 42]) rfl rfl ?_
        refine wl_put (pc' := 85) (h2 := hp ((m11.uF 42 15 ((m11.F 42 15) + (nI 1))).uF 42 16 (nI 1))) rfl (hq_42 _) rfl rfl rfl (pf_42_16 _ _) ?_
        exact wp_r rfl rfl ⟨_, rfl, k⟩
set_option maxRecDepth 20000 in
theorem sg_155_229 {d : Nat} {m : Mm} {K : Option Value → Mm → Prop} (k : (if (m.F 42 6) = (nI 0) then WP d 154 [.ref 42] (m.uF 42 16 (nI 0)) (fun v m2 => v = none ∧ WH (d + 1) 155 245 [] [] m2 K) else WH (d + 1) 155 245 [] [] (m.uF 42 16 (nI 0)) K)) : WH (d + 1) 155 229 [(0, .ref 42)] [] m K := by
  intro lv0 el
  obtain ⟨e_0, _⟩ := el
  refine wl_ald_n (pc' := 230) rfl e_0 rfl ?_
  refine wp_p (pc' := 231) (lv' := lv0) (st' := [.int (nI 0), .ref 42]) rfl rfl ?_
  refine wl_put (pc' := 234) (h2 := hp (m.uF 42 16 (nI 0))) rfl (hq_42 _) rfl rfl rfl (pf_42_16 _ _) ?_
  refine wl_ald_n (pc' := 235) rfl e_0 rfl ?_
  refine wp_get (v := .int (m.F 42 6)) (pc' := 238) rfl (hq_42 _) rfl rfl ?_
  refine wp_if_ne (pc' := 241) rfl rfl (fun c1 => ?_) (fun c1 => ?_)
  · replace k := it_f (c := (m.F 42 6) = (nI 0)) c1 k
    exact k _ trivial
  · replace k := it_t (c := (m.F 42 6) = (nI 0)) c1 k
    refine wl_ald_n (pc' := 242) rfl e_0 rfl ?_
    refine wl_cv (As := [.ref 42]) (r := []) (pc' := 245) rfl rfl rfl k ?_
    rintro _ m2 ⟨rfl, k⟩
    show sm_wp (d + 1) 155 245 lv0 [] (hp m2) (WQ K)
    exact k _ trivial
set_option maxRecDepth 20000 in
theorem sg_155_245 {d : Nat} {m : Mm} {K : Option Value → Mm → Prop} (k : K none m) : WH d 155 245 [] [] m K := by
  intro lv0 el
  exact wp_r rfl rfl ⟨_, rfl, k⟩
/-! 156: QueryTablesModel.connect -/
set_option maxRecDepth 20000 in
theorem sp_156 {d : Nat} {m : Mm} {K : Option Value → Mm → Prop} (k : WP d 139 [.int (nI 97), .int (nI 110), .int (nI 100), .int (nI 0), .int (nI 0), .int (nI 0)] m (fun v m1 => ∃ w2, v = some (.int w2) ∧ WP d 142 [.ref 42, .int w2] m1 (fun v m3 => ∃ w4, v = some (.int w4) ∧ (if w4 = (nI 0) then WP d 139 [.int (nI 111), .int (nI 114), .int (nI 0), .int (nI 0), .int (nI 0), .int (nI 0)] m3 (fun v m10 => ∃ w11, v = some (.int w11) ∧ WP d 142 [.ref 42, .int w11] m10 (fun v m12 => ∃ w13, v = some (.int w13) ∧ (if w13 = (nI 0) then WH (d + 1) 156 142 [(0, .ref 42), (2, .int (nI 0)), (3, .int (nI 0))] [] m12 K else WH (d + 1) 156 39 [(0, .ref 42), (1, .int w4)] [] m12 K))) else WH (d + 1) 156 39 [(0, .ref 42), (1, .int w4)] [] m3 K)))) : WP (d + 1) 156 [.ref 42] m K := by
  have e_0 : sm_lk (lv_args 0 [.ref 42]) 0 = some (.ref 42) := rfl
  show sm_wp (d + 1) 156 0 (lv_args 0 [.ref 42]) [] (hp m) (WQ K)
  generalize lv_args 0 [.ref 42] = lv0 at *
  refine wl_ald_n (pc' := 1) rfl e_0 rfl ?_
  refine wp_p (pc' := 3) (lv' := lv0) (st' := [.int (nI 97), .ref 42]) rfl rfl ?_
  refine wp_p (pc' := 5) (lv' := lv0) (st' := [.int (nI 110), .int (nI 97), .ref 42]) rfl rfl ?_
  refine wp_p (pc' := 7) (lv' := lv0) (st' := [.int (nI 100), .int (nI 110), .int (nI 97), .ref 42]) rfl rfl ?_
  refine wp_p (pc' := 8) (lv' := lv0) (st' := [.int (nI 0), .int (nI 100), .int (nI 110), .int (nI 97), .ref 42]) rfl rfl ?_
  refine wp_p (pc' := 9) (lv' := lv0) (st' := [.int (nI 0), .int (nI 0), .int (nI 100), .int (nI 110), .int (nI 97), .ref 42]) rfl rfl ?_
  refine wp_p (pc' := 10) (lv' := lv0) (st' := [.int (nI 0), .int (nI 0), .int (nI 0), .int (nI 100), .int (nI 110), .int (nI 97), .ref 42]) rfl rfl ?_
  refine wl_cs (As := [.int (nI 97), .int (nI 110), .int (nI 100), .int (nI 0), .int (nI 0), .int (nI 0)]) (r := [.ref 42]) (pc' := 13) rfl rfl rfl rfl k ?_
  rintro _ m1 ⟨w2, rfl, k⟩
  show sm_wp (d + 1) 156 13 lv0 [.int w2, .ref 42] (hp m1) (WQ K)
  refine wl_cv (As := [.ref 42, .int w2]) (r := []) (pc' := 16) rfl rfl rfl k ?_
  rintro _ m3 ⟨w4, rfl, k⟩
  show sm_wp (d + 1) 156 16 lv0 [.int w4] (hp m3) (WQ K)
  refine wl_st1 (pc' := 17) (k0 := 1) (v := .int w4) (r := []) rfl rfl (fun lv5 e6 f7 => ?_)
  have e8 := f7 0 _ e_0 (by decide) rfl
  refine wl_ild_n (pc' := 18) rfl e6 rfl ?_
  refine wp_if_ne (pc' := 21) rfl rfl (fun c9 => ?_) (fun c9 => ?_)
  · replace k := it_f (c := w4 = (nI 0)) c9 k
    exact k _ ⟨e8, e6, trivial⟩
  · replace k := it_t (c := w4 = (nI 0)) c9 k
    refine wl_ald_n (pc' := 22) rfl e8 rfl ?_
    refine wp_p (pc' := 24) (lv' := lv5) (st' := [.int (nI 111), .ref 42]) rfl rfl ?_
    refine wp_p (pc' := 26) (lv' := lv5) (st' := [.int (nI 114), .int (nI 111), .ref 42]) rfl rfl ?_
    refine wp_p (pc' := 27) (lv' := lv5) (st' := [.int (nI 0), .int (nI 114), .int (nI 111), .ref 42]) rfl rfl ?_
    refine wp_p (pc' := 28) (lv' := lv5) (st' := [.int (nI 0), .int (nI 0), .int (nI 114), .int (nI 111), .ref 42]) rfl rfl ?_
    refine wp_p (pc' := 29) (lv' := lv5) (st' := [.int (nI 0), .int (nI 0), .int (nI 0), .int (nI 114), .int (nI 111), .ref 42]) rfl rfl ?_
    refine wp_p (pc' := 30) (lv' := lv5) (st' := [.int (nI 0), .int (nI 0), .int (nI 0), .int (nI 0), .int (nI 114), .int (nI 111), .ref 42]) rfl rfl ?_
    refine wl_cs (As := [.int (nI 111), .int (nI 114), .int (nI 0), .int (nI 0), .int (nI 0), .int (nI 0)]) (r := [.ref 42]) (pc' := 33) rfl rfl rfl rfl k ?_
    rintro _ m10 ⟨w11, rfl, k⟩
    show sm_wp (d + 1) 156 33 lv5 [.int w11, .ref 42] (hp m10) (WQ K)
    refine wl_cv (As := [.ref 42, .int w11]) (r := []) (pc' := 36) rfl rfl rfl k ?_
    rintro _ m12 ⟨w13, rfl, k⟩
    show sm_wp (d + 1) 156 36 lv5 [.int w13] (hp m12) (WQ K)
    refine wp_if_eq (pc' := 39) rfl rfl (fun c14 => ?_) (fun c14 => ?_)
    · replace k := it_t (c := w13 = (nI 0)) c14 k
      refine wp_p (pc' := 139) (lv' := lv5) (st' := [.int (nI 0)]) rfl rfl ?_
      refine wl_st1 (pc' := 140) (k0 := 2) (v := .int (nI 0)) (r := []) rfl rfl (fun lv15 e16 f17 => ?_)
      have e18 := f17 0 _ e8 (by decide) rfl
      have e19 := f17 1 _ e6 (by decide) rfl
      refine wp_p (pc' := 141) (lv' := lv15) (st' := [.int (nI 0)]) rfl rfl ?_
      refine wl_st1 (pc' := 142) (k0 := 3) (v := .int (nI 0)) (r := []) rfl rfl (fun lv20 e21 f22 => ?_)
      have e23 := f22 0 _ e18 (by decide) rfl
      have e24 := f22 1 _ e19 (by decide) rfl
      have e25 := f22 2 _ e16 (by decide) rfl
      exact k _ ⟨e23, e25, e21, trivial⟩
    · replace k := it_f (c := w13 = (nI 0)) c14 k
      exact k _ ⟨e8, e6, trivial⟩
set_option maxRecDepth 20000 in
theorem sg_156_39 {d : Nat} {m : Mm} {K : Option Value → Mm → Prop} (x1 : Int32) (k : (if (m.F 42 34) = (nI 0) then (if x1 = (nI 0) then (if (m.F 42 15) = (nI 0) then WH d 156 66 [(0, .ref 42), (1, .int x1)] [] (m.uF 42 34 (nI 1)) K else WH d 156 66 [(0, .ref 42), (1, .int x1)] [] (m.uF 42 34 (nI 0)) K) else WH d 156 66 [(0, .ref 42), (1, .int x1)] [] (m.uF 42 34 (nI 0)) K) else WH d 156 66 [(0, .ref 42), (1, .int x1)] [] (m.uF 42 34 (nI 1)) K)) : WH d 156 39 [(0, .ref 42), (1, .int x1)] [] m K := by
  intro lv0 el
  obtain ⟨e_0, e_1, _⟩ := el
  refine wl_ald_n (pc' := 40) rfl e_0 rfl ?_
  refine wl_ald_n (pc' := 41) rfl e_0 rfl ?_
  refine wp_get (v := .int (m.F 42 34)) (pc' := 44) rfl (hq_42 _) rfl rfl ?_
  refine wp_if_ne (pc' := 47) rfl rfl (fun c1 => ?_) (fun c1 => ?_)
  · replace k := it_f (c := (m.F 42 34) = (nI 0)) c1 k
    refine wp_p (pc' := 59) (lv' := lv0) (st' := [.int (nI 1), .ref 42]) rfl rfl ?_
    refine wp_p (pc' := 63) (lv' := lv0) (st' := [.int (nI 1), .ref 42]) rfl rfl ?_
    refine wl_put (pc' := 66) (h2 := hp (m.uF 42 34 (nI 1))) rfl (hq_42 _) rfl rfl rfl (pf_42_34 _ _) ?_
    exact k _ ⟨e_0, e_1, trivial⟩
  · replace k := it_t (c := (m.F 42 34) = (nI 0)) c1 k
    refine wl_ild_n (pc' := 48) rfl e_1 rfl ?_
    refine wp_if_ne (pc' := 51) rfl rfl (fun c2 => ?_) (fun c2 => ?_)
    · replace k := it_f (c := x1 = (nI 0)) c2 k
      refine wp_p (pc' := 63) (lv' := lv0) (st' := [.int (nI 0), .ref 42]) rfl rfl ?_
      refine wl_put (pc' := 66) (h2 := hp (m.uF 42 34 (nI 0))) rfl (hq_42 _) rfl rfl rfl (pf_42_34 _ _) ?_
      exact k _ ⟨e_0, e_1, trivial⟩
    · replace k := it_t (c := x1 = (nI 0)) c2 k
      refine wl_ald_n (pc' := 52) rfl e_0 rfl ?_
      refine wp_get (v := .int (m.F 42 15)) (pc' := 55) rfl (hq_42 _) rfl rfl ?_
      refine wp_if_ne (pc' := 58) rfl rfl (fun c3 => ?_) (fun c3 => ?_)
      · replace k := it_f (c := (m.F 42 15) = (nI 0)) c3 k
        refine wp_p (pc' := 63) (lv' := lv0) (st' := [.int (nI 0), .ref 42]) rfl rfl ?_
        refine wl_put (pc' := 66) (h2 := hp (m.uF 42 34 (nI 0))) rfl (hq_42 _) rfl rfl rfl (pf_42_34 _ _) ?_
        exact k _ ⟨e_0, e_1, trivial⟩
      · replace k := it_t (c := (m.F 42 15) = (nI 0)) c3 k
        refine wp_p (pc' := 59) (lv' := lv0) (st' := [.int (nI 1), .ref 42]) rfl rfl ?_
        refine wp_p (pc' := 63) (lv' := lv0) (st' := [.int (nI 1), .ref 42]) rfl rfl ?_
        refine wl_put (pc' := 66) (h2 := hp (m.uF 42 34 (nI 1))) rfl (hq_42 _) rfl rfl rfl (pf_42_34 _ _) ?_
        exact k _ ⟨e_0, e_1, trivial⟩
set_option maxRecDepth 20000 in
theorem sg_156_142 {d : Nat} {m : Mm} {K : Option Value → Mm → Prop} (x2 : Int32) (x3 : Int32) (k : (if (m.F 42 13) ≤ x3 then (if x2 = (nI 0) then WH (d + 1) 156 190 [] [] m K else WP d 141 [.ref 42, .int (nI 93)] m (fun v m3 => ∃ w4, v = some (.int w4) ∧ (if w4 = (nI 0) then WH (d + 1) 156 190 [] [] m3 K else WH (d + 1) 156 192 [(0, .ref 42)] [] m3 K))) else (if x2 = (nI 0) then ok (m.A 49).length x3 ∧ (if ((m.A 49).getD (ix x3) 0) = (nI 16) then WH (d + 1) 156 165 [(0, .ref 42), (3, .int x3)] [] m K else WH (d + 1) 156 142 [(0, .ref 42), (2, .int (nI 0)), (3, .int (x3 + nI 1))] [] m K) else WH (d + 1) 156 165 [(0, .ref 42), (3, .int x3)] [] m K))) : WH (d + 1) 156 142 [(0, .ref 42), (2, .int x2), (3, .int x3)] [] m K := by
  intro lv0 el
  obtain ⟨e_0, e_2, e_3, _⟩ := el
  refine wl_ild_n (pc' := 143) rfl e_3 rfl ?_
  refine wl_ald_n (pc' := 144) rfl e_0 rfl ?_
  refine wp_get (v := .int (m.F 42 13)) (pc' := 147) rfl (hq_42 _) rfl rfl ?_
  refine wp_ic_ge (pc' := 150) rfl rfl (fun c1 => ?_) (fun c1 => ?_)
  · replace k := it_t (c := (m.F 42 13) ≤ x3) c1 k
    refine wl_ild_n (pc' := 178) rfl e_2 rfl ?_
    refine wp_if_eq (pc' := 181) rfl rfl (fun c2 => ?_) (fun c2 => ?_)
    · replace k := it_t (c := x2 = (nI 0)) c2 k
      exact k _ trivial
    · replace k := it_f (c := x2 = (nI 0)) c2 k
      refine wl_ald_n (pc' := 182) rfl e_0 rfl ?_
      refine wp_p (pc' := 184) (lv' := lv0) (st' := [.int (nI 93), .ref 42]) rfl rfl ?_
      refine wl_cv (As := [.ref 42, .int (nI 93)]) (r := []) (pc' := 187) rfl rfl rfl k ?_
      rintro _ m3 ⟨w4, rfl, k⟩
      show sm_wp (d + 1) 156 187 lv0 [.int w4] (hp m3) (WQ K)
      refine wp_if_ne (pc' := 190) rfl rfl (fun c5 => ?_) (fun c5 => ?_)
      · replace k := it_f (c := w4 = (nI 0)) c5 k
        exact k _ ⟨e_0, trivial⟩
      · replace k := it_t (c := w4 = (nI 0)) c5 k
        exact k _ trivial
  · replace k := it_f (c := (m.F 42 13) ≤ x3) c1 k
    refine wl_ild_n (pc' := 151) rfl e_2 rfl ?_
    refine wp_if_ne (pc' := 154) rfl rfl (fun c6 => ?_) (fun c6 => ?_)
    · replace k := it_f (c := x2 = (nI 0)) c6 k
      exact k _ ⟨e_0, e_3, trivial⟩
    · replace k := it_t (c := x2 = (nI 0)) c6 k
      refine wl_ald_n (pc' := 155) rfl e_0 rfl ?_
      refine wp_get (v := .ref 49) (pc' := 158) rfl (hq_42 _) rfl rfl ?_
      refine wl_ild_n (pc' := 159) rfl e_3 rfl ?_
      obtain ⟨k7, k⟩ := k
      refine wl_iaload (g := m.A 49) (pc' := 160) rfl (hq_49 _) k7 rfl ?_
      refine wp_p (pc' := 162) (lv' := lv0) (st' := [.int (nI 16), .int ((m.A 49).getD (ix x3) 0)]) rfl rfl ?_
      refine wp_ic_ne (pc' := 165) rfl rfl (fun c8 => ?_) (fun c8 => ?_)
      · replace k := it_f (c := ((m.A 49).getD (ix x3) 0) = (nI 16)) c8 k
        refine wp_p (pc' := 170) (lv' := lv0) (st' := [.int (nI 0)]) rfl rfl ?_
        refine wl_st1 (pc' := 171) (k0 := 2) (v := .int (nI 0)) (r := []) rfl rfl (fun lv9 e10 f11 => ?_)
        have e12 := f11 0 _ e_0 (by decide) rfl
        have e13 := f11 3 _ e_3 (by decide) rfl
        refine wl_iinc (pc' := 174) (v := x3 + nI 1) rfl e13 rfl rfl rfl (fun lv14 e15 f16 => ?_)
        have e17 := f16 0 _ e12 (by decide) rfl
        have e18 := f16 2 _ e10 (by decide) rfl
        refine wp_p (pc' := 142) (lv' := lv14) (st' := []) rfl rfl ?_
        exact k _ ⟨e17, e18, e15, trivial⟩
      · replace k := it_t (c := ((m.A 49).getD (ix x3) 0) = (nI 16)) c8 k
        exact k _ ⟨e_0, e_3, trivial⟩
set_option maxRecDepth 20000 in
theorem sg_156_66 {d : Nat} {m : Mm} {K : Option Value → Mm → Prop} (x1 : Int32) (k : (if (m.F 42 13) ≤ (nI 0) then WH d 156 116 [(0, .ref 42), (1, .int x1)] [] m K else ok (m.A 49).length ((m.F 42 13) - (nI 1)) ∧ (if ((m.A 49).getD (ix ((m.F 42 13) - (nI 1))) 0) = (nI 14) then WH d 156 109 [(0, .ref 42), (1, .int x1)] [] m K else (if x1 = (nI 0) then ok (m.A 49).length ((m.F 42 13) - (nI 1)) ∧ (if ((m.A 49).getD (ix ((m.F 42 13) - (nI 1))) 0) = (nI 15) then WH d 156 109 [(0, .ref 42), (1, .int x1)] [] m K else WH d 156 116 [(0, .ref 42), (1, .int x1)] [] m K) else WH d 156 116 [(0, .ref 42), (1, .int x1)] [] m K)))) : WH d 156 66 [(0, .ref 42), (1, .int x1)] [] m K := by
  intro lv0 el
  obtain ⟨e_0, e_1, _⟩ := el
  refine wl_ald_n (pc' := 67) rfl e_0 rfl ?_
  refine wp_get (v := .int (m.F 42 13)) (pc' := 70) rfl (hq_42 _) rfl rfl ?_
  refine wp_if_le (pc' := 73) rfl rfl (fun c1 => ?_) (fun c1 => ?_)
  · replace k := it_t (c := (m.F 42 13) ≤ (nI 0)) c1 k
    exact k _ ⟨e_0, e_1, trivial⟩
  · replace k := it_f (c := (m.F 42 13) ≤ (nI 0)) c1 k
    refine wl_ald_n (pc' := 74) rfl e_0 rfl ?_
    refine wp_get (v := .ref 49) (pc' := 77) rfl (hq_42 _) rfl rfl ?_
    refine wl_ald_n (pc' := 78) rfl e_0 rfl ?_
    refine wp_get (v := .int (m.F 42 13)) (pc' := 81) rfl (hq_42 _) rfl rfl ?_
    refine wp_p (pc' := 82) (lv' := lv0) (st' := [.int (nI 1), .int (m.F 42 13), .ref 49]) rfl rfl ?_
    refine wp_isub (v := (m.F 42 13) - (nI 1)) (pc' := 83) rfl rfl rfl ?_
    obtain ⟨k2, k⟩ := k
    refine wl_iaload (g := m.A 49) (pc' := 84) rfl (hq_49 _) k2 rfl ?_
    refine wp_p (pc' := 86) (lv' := lv0) (st' := [.int (nI 14), .int ((m.A 49).getD (ix ((m.F 42 13) - (nI 1))) 0)]) rfl rfl ?_
    refine wp_ic_eq (pc' := 89) rfl rfl (fun c3 => ?_) (fun c3 => ?_)
    · replace k := it_t (c := ((m.A 49).getD (ix ((m.F 42 13) - (nI 1))) 0) = (nI 14)) c3 k
      exact k _ ⟨e_0, e_1, trivial⟩
    · replace k := it_f (c := ((m.A 49).getD (ix ((m.F 42 13) - (nI 1))) 0) = (nI 14)) c3 k
      refine wl_ild_n (pc' := 90) rfl e_1 rfl ?_
      refine wp_if_ne (pc' := 93) rfl rfl (fun c4 => ?_) (fun c4 => ?_)
      · replace k := it_f (c := x1 = (nI 0)) c4 k
        exact k _ ⟨e_0, e_1, trivial⟩
      · replace k := it_t (c := x1 = (nI 0)) c4 k
        refine wl_ald_n (pc' := 94) rfl e_0 rfl ?_
        refine wp_get (v := .ref 49) (pc' := 97) rfl (hq_42 _) rfl rfl ?_
        refine wl_ald_n (pc' := 98) rfl e_0 rfl ?_
        refine wp_get (v := .int (m.F 42 13)) (pc' := 101) rfl (hq_42 _) rfl rfl ?_
        refine wp_p (pc' := 102) (lv' := lv0) (st' := [.int (nI 1), .int (m.F 42 13), .ref 49]) rfl rfl ?_
        refine wp_isub (v := (m.F 42 13) - (nI 1)) (pc' := 103) rfl rfl rfl ?_
        obtain ⟨k5, k⟩ := k
        refine wl_iaload (g := m.A 49) (pc' := 104) rfl (hq_49 _) k5 rfl ?_
        refine wp_p (pc' := 106) (lv' := lv0) (st' := [.int (nI 15), .int ((m.A 49).getD (ix ((m.F 42 13) - (nI 1))) 0)]) rfl rfl ?_
        refine wp_ic_ne (pc' := 109) rfl rfl (fun c6 => ?_) (fun c6 => ?_)
        · replace k := it_f (c := ((m.A 49).getD (ix ((m.F 42 13) - (nI 1))) 0) = (nI 15)) c6 k
          exact k _ ⟨e_0, e_1, trivial⟩
        · replace k := it_t (c := ((m.A 49).getD (ix ((m.F 42 13) - (nI 1))) 0) = (nI 15)) c6 k
          exact k _ ⟨e_0, e_1, trivial⟩
set_option maxRecDepth 20000 in
theorem sg_156_190 {d : Nat} {m : Mm} {K : Option Value → Mm → Prop} (k : K (some (.int (nI 0))) m) : WH d 156 190 [] [] m K := by
  intro lv0 el
  refine wp_p (pc' := 191) (lv' := lv0) (st' := [.int (nI 0)]) rfl rfl ?_
  exact wl_ret rfl rfl ⟨_, rfl, k⟩
set_option maxRecDepth 20000 in
theorem sg_156_192 {d : Nat} {m : Mm} {K : Option Value → Mm → Prop} (k : ok (m.A 49).length ((m.F 42 13) - (nI 1)) ∧ (if ((m.A 49).getD (ix ((m.F 42 13) - (nI 1))) 0) = (nI 16) then WP d 154 [.ref 42] ((m.uF 42 13 ((m.F 42 13) - (nI 1))).uF 42 15 ((m.F 42 15) - (nI 1))) (fun v m3 => v = none ∧ K (some (.int (nI 1))) m3) else WP d 152 [.ref 42] m (fun v m4 => v = none ∧ WH (d + 1) 156 192 [(0, .ref 42)] [] m4 K))) : WH (d + 1) 156 192 [(0, .ref 42)] [] m K := by
  intro lv0 el
  obtain ⟨e_0, _⟩ := el
  refine wl_ald_n (pc' := 193) rfl e_0 rfl ?_
  refine wp_get (v := .ref 49) (pc' := 196) rfl (hq_42 _) rfl rfl ?_
  refine wl_ald_n (pc' := 197) rfl e_0 rfl ?_
  refine wp_get (v := .int (m.F 42 13)) (pc' := 200) rfl (hq_42 _) rfl rfl ?_
  refine wp_p (pc' := 201) (lv' := lv0) (st' := [.int (nI 1), .int (m.F 42 13), .ref 49]) rfl rfl ?_
  refine wp_isub (v := (m.F 42 13) - (nI 1)) (pc' := 202) rfl rfl rfl ?_
  obtain ⟨k1, k⟩ := k
  refine wl_iaload (g := m.A 49) (pc' := 203) rfl (hq_49 _) k1 rfl ?_
  refine wp_p (pc' := 205) (lv' := lv0) (st' := [.int (nI 16), .int ((m.A 49).getD (ix ((m.F 42 13) - (nI 1))) 0)]) rfl rfl ?_
  refine wp_ic_eq (pc' := 208) rfl rfl (fun c2 => ?_) (fun c2 => ?_)
  · replace k := it_t (c := ((m.A 49).getD (ix ((m.F 42 13) - (nI 1))) 0) = (nI 16)) c2 k
    refine wl_ald_n (pc' := 216) rfl e_0 rfl ?_
    refine wp_p (pc' := 217) (lv' := lv0) (st' := [.ref 42, .ref 42]) rfl rfl ?_
    refine wp_get (v := .int (m.F 42 13)) (pc' := 220) rfl (hq_42 _) rfl rfl ?_
    refine wp_p (pc' := 221) (lv' := lv0) (st' := [.int (nI 1), .int (m.F 42 13), .ref 42]) rfl rfl ?_
    refine wp_isub (v := (m.F 42 13) - (nI 1)) (pc' := 222) rfl rfl rfl ?_
    refine wl_put (pc' := 225) (h2 := hp (m.uF 42 13 ((m.F 42 13) - (nI 1)))) rfl (hq_42 _) rfl rfl rfl (pf_42_13 _ _) ?_
    refine wl_ald_n (pc' := 226) rfl e_0 rfl ?_
    refine wp_p (pc' := 227) (lv' := lv0) (st' := [.ref 42, .ref 42]) rfl rfl ?_
    refine wp_get (v := .int (m.F 42 15)) (pc' := 230) rfl (hq_42 _) rfl rfl ?_
    refine wp_p (pc' := 231) (lv' := lv0) (st' := [.int (nI 1), .int (m.F 42 15), .ref 42]) rfl rfl ?_
    refine wp_isub (v := (m.F 42 15) - (nI 1)) (pc' := 232) rfl rfl rfl ?_
    refine wl_put (pc' := 235) (h2 := hp ((m.uF 42 13 ((m.F 42 13) - (nI 1))).uF 42 15 ((m.F 42 15) - (nI 1)))) rfl (hq_42 _) rfl rfl rfl (pf_42_15 _ _) ?_
    refine wl_ald_n (pc' := 236) rfl e_0 rfl ?_
    refine wl_cv (As := [.ref 42]) (r := []) (pc' := 239) rfl rfl rfl k ?_
    rintro _ m3 ⟨rfl, k⟩
    show sm_wp (d + 1) 156 239 lv0 [] (hp m3) (WQ K)
    refine wp_p (pc' := 240) (lv' := lv0) (st' := [.int (nI 1)]) rfl rfl ?_
    exact wl_ret rfl rfl ⟨_, rfl, k⟩
  · replace k := it_f (c := ((m.A 49).getD (ix ((m.F 42 13) - (nI 1))) 0) = (nI 16)) c2 k
    refine wl_ald_n (pc' := 209) rfl e_0 rfl ?_
    refine wl_cv (As := [.ref 42]) (r := []) (pc' := 212) rfl rfl rfl k ?_
    rintro _ m4 ⟨rfl, k⟩
    show sm_wp (d + 1) 156 212 lv0 [] (hp m4) (WQ K)
    refine wp_p (pc' := 192) (lv' := lv0) (st' := []) rfl rfl ?_
    exact k _ ⟨e_0, trivial⟩
set_option maxRecDepth 20000 in
theorem sg_156_165 {d : Nat} {m : Mm} {K : Option Value → Mm → Prop} (x3 : Int32) (k : WH d 156 142 [(0, .ref 42), (2, .int (nI 1)), (3, .int (x3 + nI 1))] [] m K) : WH d 156 165 [(0, .ref 42), (3, .int x3)] [] m K := by
  intro lv0 el
  obtain ⟨e_0, e_3, _⟩ := el
  refine wp_p (pc' := 166) (lv' := lv0) (st' := [.int (nI 1)]) rfl rfl ?_
  refine wp_p (pc' := 170) (lv' := lv0) (st' := [.int (nI 1)]) rfl rfl ?_
  refine wl_st1 (pc' := 171) (k0 := 2) (v := .int (nI 1)) (r := []) rfl rfl (fun lv1 e2 f3 => ?_)
  have e4 := f3 0 _ e_0 (by decide) rfl
  have e5 := f3 3 _ e_3 (by decide) rfl
  refine wl_iinc (pc' := 174) (v := x3 + nI 1) rfl e5 rfl rfl rfl (fun lv6 e7 f8 => ?_)
  have e9 := f8 0 _ e4 (by decide) rfl
  have e10 := f8 2 _ e2 (by decide) rfl
  refine wp_p (pc' := 142) (lv' := lv6) (st' := []) rfl rfl ?_
  exact k _ ⟨e9, e10, e7, trivial⟩
set_option maxRecDepth 20000 in
theorem sg_156_116 {d : Nat} {m : Mm} {K : Option Value → Mm → Prop} (x1 : Int32) (k : (if x1 = (nI 0) then WP d 153 [.ref 42, .int (nI 15)] m (fun v m2 => v = none ∧ K (some (.int (nI 1))) (m2.uF 42 16 (nI 1))) else WP d 153 [.ref 42, .int (nI 14)] m (fun v m3 => v = none ∧ K (some (.int (nI 1))) (m3.uF 42 16 (nI 1))))) : WH (d + 1) 156 116 [(0, .ref 42), (1, .int x1)] [] m K := by
  intro lv0 el
  obtain ⟨e_0, e_1, _⟩ := el
  refine wl_ald_n (pc' := 117) rfl e_0 rfl ?_
  refine wl_ild_n (pc' := 118) rfl e_1 rfl ?_
  refine wp_if_eq (pc' := 121) rfl rfl (fun c1 => ?_) (fun c1 => ?_)
  · replace k := it_t (c := x1 = (nI 0)) c1 k
    refine wp_p (pc' := 128) (lv' := lv0) (st' := [.int (nI 15), .ref 42]) rfl rfl ?_
    refine wl_cv (As := [.ref 42, .int (nI 15)]) (r := []) (pc' := 131) rfl rfl rfl k ?_
    rintro _ m2 ⟨rfl, k⟩
    show sm_wp (d + 1) 156 131 lv0 [] (hp m2) (WQ K)
    refine wl_ald_n (pc' := 132) rfl e_0 rfl ?_
    refine wp_p (pc' := 133) (lv' := lv0) (st' := [.int (nI 1), .ref 42]) rfl rfl ?_
    refine wl_put (pc' := 136) (h2 := hp (m2.uF 42 16 (nI 1))) rfl (hq_42 _) rfl rfl rfl (pf_42_16 _ _) ?_
    refine wp_p (pc' := 137) (lv' := lv0) (st' := [.int (nI 1)]) rfl rfl ?_
    exact wl_ret rfl rfl ⟨_, rfl, k⟩
  · replace k := it_f (c := x1 = (nI 0)) c1 k
    refine wp_p (pc' := 123) (lv' := lv0) (st' := [.int (nI 14), .ref 42]) rfl rfl ?_
    refine wp_p (pc' := 128) (lv' := lv0) (st' := [.int (nI 14), .ref 42]) rfl rfl ?_
    refine wl_cv (As := [.ref 42, .int (nI 14)]) (r := []) (pc' := 131) rfl rfl rfl k ?_
    rintro _ m3 ⟨rfl, k⟩
    show sm_wp (d + 1) 156 131 lv0 [] (hp m3) (WQ K)
    refine wl_ald_n (pc' := 132) rfl e_0 rfl ?_
    refine wp_p (pc' := 133) (lv' := lv0) (st' := [.int (nI 1), .ref 42]) rfl rfl ?_
    refine wl_put (pc' := 136) (h2 := hp (m3.uF 42 16 (nI 1))) rfl (hq_42 _) rfl rfl rfl (pf_42_16 _ _) ?_
    refine wp_p (pc' := 137) (lv' := lv0) (st' := [.int (nI 1)]) rfl rfl ?_
    exact wl_ret rfl rfl ⟨_, rfl, k⟩
set_option maxRecDepth 20000 in
theorem sg_156_109 {d : Nat} {m : Mm} {K : Option Value → Mm → Prop} (x1 : Int32) (k : WP d 152 [.ref 42] m (fun v m1 => v = none ∧ WH (d + 1) 156 66 [(0, .ref 42), (1, .int x1)] [] m1 K)) : WH (d + 1) 156 109 [(0, .ref 42), (1, .int x1)] [] m K := by
  intro lv0 el
  obtain ⟨e_0, e_1, _⟩ := el
  refine wl_ald_n (pc' := 110) rfl e_0 rfl ?_
  refine wl_cv (As := [.ref 42]) (r := []) (pc' := 113) rfl rfl rfl k ?_
  rintro _ m1 ⟨rfl, k⟩
  show sm_wp (d + 1) 156 113 lv0 [] (hp m1) (WQ K)
  refine wp_p (pc' := 66) (lv' := lv0) (st' := []) rfl rfl ?_
  exact k _ ⟨e_0, e_1, trivial⟩
/-! 157: QueryTablesModel.condition -/
set_option maxRecDepth 20000 in
theorem sp_157 {d : Nat} {m : Mm} {K : Option Value → Mm → Prop} (k : WH d 157 17 [(0, .ref 42), (1, .int (nI 1)), (2, .int (nI 1))] [] ((m.uF 42 25 (nI 1)).uF 42 26 (m.F 42 7)) K) : WP d 157 [.ref 42] m K := by
  have e_0 : sm_lk (lv_args 0 [.ref 42]) 0 = some (.ref 42) := rfl
  show sm_wp d 157 0 (lv_args 0 [.ref 42]) [] (hp m) (WQ K)
  generalize lv_args 0 [.ref 42] = lv0 at *
  refine wl_ald_n (pc' := 1) rfl e_0 rfl ?_
  refine wp_p (pc' := 2) (lv' := lv0) (st' := [.int (nI 1), .ref 42]) rfl rfl ?_
  refine wl_put (pc' := 5) (h2 := hp (m.uF 42 25 (nI 1))) rfl (hq_42 _) rfl rfl rfl (pf_42_25 _ _) ?_
  refine wl_ald_n (pc' := 6) rfl e_0 rfl ?_
  refine wl_ald_n (pc' := 7) rfl e_0 rfl ?_
  refine wp_get (v := .int (m.F 42 7)) (pc' := 10) rfl (hq_42 _) rfl rfl ?_
  refine wl_put (pc' := 13) (h2 := hp ((m.uF 42 25 (nI 1)).uF 42 26 (m.F 42 7))) rfl (hq_42 _) rfl rfl rfl (pf_42_26 _ _) ?_
  refine wp_p (pc' := 14) (lv' := lv0) (st' := [.int (nI 1)]) rfl rfl ?_
  refine wl_st1 (pc' := 15) (k0 := 1) (v := .int (nI 1)) (r := []) rfl rfl (fun lv1 e2 f3 => ?_)
  have e4 := f3 0 _ e_0 (by decide) rfl
  refine wp_p (pc' := 16) (lv' := lv1) (st' := [.int (nI 1)]) rfl rfl ?_
  refine wl_st1 (pc' := 17) (k0 := 2) (v := .int (nI 1)) (r := []) rfl rfl (fun lv5 e6 f7 => ?_)
  have e8 := f7 0 _ e4 (by decide) rfl
  have e9 := f7 1 _ e2 (by decide) rfl
  exact k _ ⟨e8, e9, e6, trivial⟩
set_option maxRecDepth 20000 in
theorem sg_157_17 {d : Nat} {m : Mm} {K : Option Value → Mm → Prop} (x1 : Int32) (x2 : Int32) (k : (if x1 = (nI 0) then WH (d + 1) 157 79 [(0, .ref 42)] [] m K else (if (m.F 42 6) = (nI 0) then (if x2 = (nI 0) then WP d 156 [.ref 42] (m.uF 42 16 (nI 0)) (fun v m4 => ∃ w5, v = some (.int w5) ∧ WH (d + 1) 157 17 [(0, .ref 42), (1, .int w5), (2, .int (m4.F 42 16))] [] m4 K) else (if (m.F 42 15) = (nI 0) then WP d 155 [.ref 42] (m.uF 42 38 (m.F 42 7)) (fun v m23 => v = none ∧ WH (d + 1) 157 17 [(0, .ref 42), (1, .int x1), (2, .int (m23.F 42 16))] [] m23 K) else WP d 155 [.ref 42] (m.uF 42 38 (m.F 42 38)) (fun v m17 => v = none ∧ WH (d + 1) 157 17 [(0, .ref 42), (1, .int x1), (2, .int (m17.F 42 16))] [] m17 K))) else WH (d + 1) 157 79 [(0, .ref 42)] [] m K))) : WH (d + 1) 157 17 [(0, .ref 42), (1, .int x1), (2, .int x2)] [] m K := by
  intro lv0 el
  obtain ⟨e_0, e_1, e_2, _⟩ := el
  refine wl_ild_n (pc' := 18) rfl e_1 rfl ?_
  refine wp_if_eq (pc' := 21) rfl rfl (fun c1 => ?_) (fun c1 => ?_)
  · replace k := it_t (c := x1 = (nI 0)) c1 k
    exact k _ ⟨e_0, trivial⟩
  · replace k := it_f (c := x1 = (nI 0)) c1 k
    refine wl_ald_n (pc' := 22) rfl e_0 rfl ?_
    refine wp_get (v := .int (m.F 42 6)) (pc' := 25) rfl (hq_42 _) rfl rfl ?_
    refine wp_if_ne (pc' := 28) rfl rfl (fun c2 => ?_) (fun c2 => ?_)
    · replace k := it_f (c := (m.F 42 6) = (nI 0)) c2 k
      exact k _ ⟨e_0, trivial⟩
    · replace k := it_t (c := (m.F 42 6) = (nI 0)) c2 k
      refine wl_ild_n (pc' := 29) rfl e_2 rfl ?_
      refine wp_if_eq (pc' := 32) rfl rfl (fun c3 => ?_) (fun c3 => ?_)
      · replace k := it_t (c := x2 = (nI 0)) c3 k
        refine wl_ald_n (pc' := 62) rfl e_0 rfl ?_
        refine wp_p (pc' := 63) (lv' := lv0) (st' := [.int (nI 0), .ref 42]) rfl rfl ?_
        refine wl_put (pc' := 66) (h2 := hp (m.uF 42 16 (nI 0))) rfl (hq_42 _) rfl rfl rfl (pf_42_16 _ _) ?_
        refine wl_ald_n (pc' := 67) rfl e_0 rfl ?_
        refine wl_cv (As := [.ref 42]) (r := []) (pc' := 70) rfl rfl rfl k ?_
        rintro _ m4 ⟨w5, rfl, k⟩
        show sm_wp (d + 1) 157 70 lv0 [.int w5] (hp m4) (WQ K)
        refine wl_st1 (pc' := 71) (k0 := 1) (v := .int w5) (r := []) rfl rfl (fun lv6 e7 f8 => ?_)
        have e9 := f8 0 _ e_0 (by decide) rfl
        have e10 := f8 2 _ e_2 (by decide) rfl
        refine wl_ald_n (pc' := 72) rfl e9 rfl ?_
        refine wp_get (v := .int (m4.F 42 16)) (pc' := 75) rfl (hq_42 _) rfl rfl ?_
        refine wl_st1 (pc' := 76) (k0 := 2) (v := .int (m4.F 42 16)) (r := []) rfl rfl (fun lv11 e12 f13 => ?_)
        have e14 := f13 0 _ e9 (by decide) rfl
        have e15 := f13 1 _ e7 (by decide) rfl
        refine wp_p (pc' := 17) (lv' := lv11) (st' := []) rfl rfl ?_
        exact k _ ⟨e14, e15, e12, trivial⟩
      · replace k := it_f (c := x2 = (nI 0)) c3 k
        refine wl_ald_n (pc' := 33) rfl e_0 rfl ?_
        refine wl_ald_n (pc' := 34) rfl e_0 rfl ?_
        refine wp_get (v := .int (m.F 42 15)) (pc' := 37) rfl (hq_42 _) rfl rfl ?_
        refine wp_if_ne (pc' := 40) rfl rfl (fun c16 => ?_) (fun c16 => ?_)
        · replace k := it_f (c := (m.F 42 15) = (nI 0)) c16 k
          refine wl_ald_n (pc' := 48) rfl e_0 rfl ?_
          refine wp_get (v := .int (m.F 42 38)) (pc' := 51) rfl (hq_42 _) rfl rfl ?_
          refine wl_put (pc' := 54) (h2 := hp (m.uF 42 38 (m.F 42 38))) rfl (hq_42 _) rfl rfl rfl (pf_42_38 _ _) ?_
          refine wl_ald_n (pc' := 55) rfl e_0 rfl ?_
          refine wl_cv (As := [.ref 42]) (r := []) (pc' := 58) rfl rfl rfl k ?_
          rintro _ m17 ⟨rfl, k⟩
          show sm_wp (d + 1) 157 58 lv0 [] (hp m17) (WQ K)
          refine wp_p (pc' := 71) (lv' := lv0) (st' := []) rfl rfl ?_
          refine wl_ald_n (pc' := 72) rfl e_0 rfl ?_
          refine wp_get (v := .int (m17.F 42 16)) (pc' := 75) rfl (hq_42 _) rfl rfl ?_
          refine wl_st1 (pc' := 76) (k0 := 2) (v := .int (m17.F 42 16)) (r := []) rfl rfl (fun lv18 e19 f20 => ?_)
          have e21 := f20 0 _ e_0 (by decide) rfl
          have e22 := f20 1 _ e_1 (by decide) rfl
          refine wp_p (pc' := 17) (lv' := lv18) (st' := []) rfl rfl ?_
          exact k _ ⟨e21, e22, e19, trivial⟩
        · replace k := it_t (c := (m.F 42 15) = (nI 0)) c16 k
          refine wl_ald_n (pc' := 41) rfl e_0 rfl ?_
          refine wp_get (v := .int (m.F 42 7)) (pc' := 44) rfl (hq_42 _) rfl rfl ?_
          refine wp_p (pc' := 51) (lv' := lv0) (st' := [.int (m.F 42 7), .ref 42]) rfl rfl ?_
          refine wl_put (pc' := 54) (h2 := hp (m.uF 42 38 (m.F 42 7))) rfl (hq_42 _) rfl rfl rfl (pf_42_38 _ _) ?_
          refine wl_ald_n (pc' := 55) rfl e_0 rfl ?_
          refine wl_cv (As := [.ref 42]) (r := []) (pc' := 58) rfl rfl rfl k ?_
          rintro _ m23 ⟨rfl, k⟩
          show sm_wp (d + 1) 157 58 lv0 [] (hp m23) (WQ K)
          refine wp_p (pc' := 71) (lv' := lv0) (st' := []) rfl rfl ?_
          refine wl_ald_n (pc' := 72) rfl e_0 rfl ?_
          refine wp_get (v := .int (m23.F 42 16)) (pc' := 75) rfl (hq_42 _) rfl rfl ?_
          refine wl_st1 (pc' := 76) (k0 := 2) (v := .int (m23.F 42 16)) (r := []) rfl rfl (fun lv24 e25 f26 => ?_)
          have e27 := f26 0 _ e_0 (by decide) rfl
          have e28 := f26 1 _ e_1 (by decide) rfl
          refine wp_p (pc' := 17) (lv' := lv24) (st' := []) rfl rfl ?_
          exact k _ ⟨e27, e28, e25, trivial⟩
set_option maxRecDepth 20000 in
theorem sg_157_79 {d : Nat} {m : Mm} {K : Option Value → Mm → Prop} (k : (if (m.F 42 13) ≤ (nI 0) then (if (m.F 42 34) = (nI 0) then K none ((m.uF 42 15 (nI 0)).uF 42 27 (m.F 42 7)) else ok (m.A 53).length (nI 0) ∧ ok (m.A 54).length (nI 0) ∧ ok (m.A 55).length (nI 0) ∧ K none ((((((m.uF 42 15 (nI 0)).uF 42 27 (m.F 42 7)).uF 42 33 (nI 1)).uA 53 ((m.A 53).set (ix (nI 0)) (m.F 42 26))).uA 54 ((m.A 54).set (ix (nI 0)) (m.F 42 7))).uA 55 ((m.A 55).set (ix (nI 0)) (-1)))) else (if (m.F 42 6) = (nI 0) then ok (m.A 49).length ((m.F 42 13) - (nI 1)) ∧ (if ((m.A 49).getD (ix ((m.F 42 13) - (nI 1))) 0) = (nI 16) then WP d 152 [.ref 42] (m.uF 42 6 (nI 1)) (fun v m11 => v = none ∧ WH (d + 1) 157 79 [(0, .ref 42)] [] m11 K) else WP d 152 [.ref 42] (m.uF 42 6 (nI 0)) (fun v m10 => v = none ∧ WH (d + 1) 157 79 [(0, .ref 42)] [] m10 K)) else WP d 152 [.ref 42] (m.uF 42 6 (nI 1)) (fun v m7 => v = none ∧ WH (d + 1) 157 79 [(0, .ref 42)] [] m7 K)))) : WH (d + 1) 157 79 [(0, .ref 42)] [] m K := by
  intro lv0 el
  obtain ⟨e_0, _⟩ := el
  refine wl_ald_n (pc' := 80) rfl e_0 rfl ?_
  refine wp_get (v := .int (m.F 42 13)) (pc' := 83) rfl (hq_42 _) rfl rfl ?_
  refine wp_if_le (pc' := 86) rfl rfl (fun c1 => ?_) (fun c1 => ?_)
  · replace k := it_t (c := (m.F 42 13) ≤ (nI 0)) c1 k
    refine wl_ald_n (pc' := 126) rfl e_0 rfl ?_
    refine wp_p (pc' := 127) (lv' := lv0) (st' := [.int (nI 0), .ref 42]) rfl rfl ?_
    refine wl_put (pc' := 130) (h2 := hp (m.uF 42 15 (nI 0))) rfl (hq_42 _) rfl rfl rfl (pf_42_15 _ _) ?_
    refine wl_ald_n (pc' := 131) rfl e_0 rfl ?_
    refine wl_ald_n (pc' := 132) rfl e_0 rfl ?_
    refine wp_get (v := .int (m.F 42 7)) (pc' := 135) rfl (hq_42 _) rfl rfl ?_
    refine wl_put (pc' := 138) (h2 := hp ((m.uF 42 15 (nI 0)).uF 42 27 (m.F 42 7))) rfl (hq_42 _) rfl rfl rfl (pf_42_27 _ _) ?_
    refine wl_ald_n (pc' := 139) rfl e_0 rfl ?_
    refine wp_get (v := .int (m.F 42 34)) (pc' := 142) rfl (hq_42 _) rfl rfl ?_
    refine wp_if_eq (pc' := 145) rfl rfl (fun c2 => ?_) (fun c2 => ?_)
    · replace k := it_t (c := (m.F 42 34) = (nI 0)) c2 k
      exact wp_r rfl rfl ⟨_, rfl, k⟩
    · replace k := it_f (c := (m.F 42 34) = (nI 0)) c2 k
      refine wl_ald_n (pc' := 146) rfl e_0 rfl ?_
      refine wp_p (pc' := 147) (lv' := lv0) (st' := [.int (nI 1), .ref 42]) rfl rfl ?_
      refine wl_put (pc' := 150) (h2 := hp (((m.uF 42 15 (nI 0)).uF 42 27 (m.F 42 7)).uF 42 33 (nI 1))) rfl (hq_42 _) rfl rfl rfl (pf_42_33 _ _) ?_
      refine wl_ald_n (pc' := 151) rfl e_0 rfl ?_
      refine wp_get (v := .ref 53) (pc' := 154) rfl (hq_42 _) rfl rfl ?_
      refine wp_p (pc' := 155) (lv' := lv0) (st' := [.int (nI 0), .ref 53]) rfl rfl ?_
      refine wl_ald_n (pc' := 156) rfl e_0 rfl ?_
      refine wp_get (v := .int (m.F 42 26)) (pc' := 159) rfl (hq_42 _) rfl rfl ?_
      obtain ⟨k3, k⟩ := k
      refine wl_iastore (g := m.A 53) (pc' := 160) (h2 := hp ((((m.uF 42 15 (nI 0)).uF 42 27 (m.F 42 7)).uF 42 33 (nI 1)).uA 53 ((m.A 53).set (ix (nI 0)) (m.F 42 26)))) rfl (hq_53 _) k3 rfl (pa_53 _ _) ?_
      refine wl_ald_n (pc' := 161) rfl e_0 rfl ?_
      refine wp_get (v := .ref 54) (pc' := 164) rfl (hq_42 _) rfl rfl ?_
      refine wp_p (pc' := 165) (lv' := lv0) (st' := [.int (nI 0), .ref 54]) rfl rfl ?_
      refine wl_ald_n (pc' := 166) rfl e_0 rfl ?_
      refine wp_get (v := .int (m.F 42 7)) (pc' := 169) rfl (hq_42 _) rfl rfl ?_
      obtain ⟨k4, k⟩ := k
      refine wl_iastore (g := m.A 54) (pc' := 170) (h2 := hp (((((m.uF 42 15 (nI 0)).uF 42 27 (m.F 42 7)).uF 42 33 (nI 1)).uA 53 ((m.A 53).set (ix (nI 0)) (m.F 42 26))).uA 54 ((m.A 54).set (ix (nI 0)) (m.F 42 7)))) rfl (hq_54 _) k4 rfl (pa_54 _ _) ?_
      refine wl_ald_n (pc' := 171) rfl e_0 rfl ?_
      refine wp_get (v := .ref 55) (pc' := 174) rfl (hq_42 _) rfl rfl ?_
      refine wp_p (pc' := 175) (lv' := lv0) (st' := [.int (nI 0), .ref 55]) rfl rfl ?_
      refine wp_p (pc' := 176) (lv' := lv0) (st' := [.int (-1), .int (nI 0), .ref 55]) rfl rfl ?_
      obtain ⟨k5, k⟩ := k
      refine wl_iastore (g := m.A 55) (pc' := 177) (h2 := hp ((((((m.uF 42 15 (nI 0)).uF 42 27 (m.F 42 7)).uF 42 33 (nI 1)).uA 53 ((m.A 53).set (ix (nI 0)) (m.F 42 26))).uA 54 ((m.A 54).set (ix (nI 0)) (m.F 42 7))).uA 55 ((m.A 55).set (ix (nI 0)) (-1)))) rfl (hq_55 _) k5 rfl (pa_55 _ _) ?_
      exact wp_r rfl rfl ⟨_, rfl, k⟩
  · replace k := it_f (c := (m.F 42 13) ≤ (nI 0)) c1 k
    refine wl_ald_n (pc' := 87) rfl e_0 rfl ?_
    refine wl_ald_n (pc' := 88) rfl e_0 rfl ?_
    refine wp_get (v := .int (m.F 42 6)) (pc' := 91) rfl (hq_42 _) rfl rfl ?_
    refine wp_if_ne (pc' := 94) rfl rfl (fun c6 => ?_) (fun c6 => ?_)
    · replace k := it_f (c := (m.F 42 6) = (nI 0)) c6 k
      refine wp_p (pc' := 111) (lv' := lv0) (st' := [.int (nI 1), .ref 42]) rfl rfl ?_
      refine wp_p (pc' := 115) (lv' := lv0) (st' := [.int (nI 1), .ref 42]) rfl rfl ?_
      refine wl_put (pc' := 118) (h2 := hp (m.uF 42 6 (nI 1))) rfl (hq_42 _) rfl rfl rfl (pf_42_6 _ _) ?_
      refine wl_ald_n (pc' := 119) rfl e_0 rfl ?_
      refine wl_cv (As := [.ref 42]) (r := []) (pc' := 122) rfl rfl rfl k ?_
      rintro _ m7 ⟨rfl, k⟩
      show sm_wp (d + 1) 157 122 lv0 [] (hp m7) (WQ K)
      refine wp_p (pc' := 79) (lv' := lv0) (st' := []) rfl rfl ?_
      exact k _ ⟨e_0, trivial⟩
    · replace k := it_t (c := (m.F 42 6) = (nI 0)) c6 k
      refine wl_ald_n (pc' := 95) rfl e_0 rfl ?_
      refine wp_get (v := .ref 49) (pc' := 98) rfl (hq_42 _) rfl rfl ?_
      refine wl_ald_n (pc' := 99) rfl e_0 rfl ?_
      refine wp_get (v := .int (m.F 42 13)) (pc' := 102) rfl (hq_42 _) rfl rfl ?_
      refine wp_p (pc' := 103) (lv' := lv0) (st' := [.int (nI 1), .int (m.F 42 13), .ref 49, .ref 42]) rfl rfl ?_
      refine wp_isub (v := (m.F 42 13) - (nI 1)) (pc' := 104) rfl rfl rfl ?_
      obtain ⟨k8, k⟩ := k
      refine wl_iaload (g := m.A 49) (pc' := 105) rfl (hq_49 _) k8 rfl ?_
      refine wp_p (pc' := 107) (lv' := lv0) (st' := [.int (nI 16), .int ((m.A 49).getD (ix ((m.F 42 13) - (nI 1))) 0), .ref 42]) rfl rfl ?_
      refine wp_ic_ne (pc' := 110) rfl rfl (fun c9 => ?_) (fun c9 => ?_)
      · replace k := it_f (c := ((m.A 49).getD (ix ((m.F 42 13) - (nI 1))) 0) = (nI 16)) c9 k
        refine wp_p (pc' := 115) (lv' := lv0) (st' := [.int (nI 0), .ref 42]) rfl rfl ?_
        refine wl_put (pc' := 118) (h2 := hp (m.uF 42 6 (nI 0))) rfl (hq_42 _) rfl rfl rfl (pf_42_6 _ _) ?_
        refine wl_ald_n (pc' := 119) rfl e_0 rfl ?_
        refine wl_cv (As := [.ref 42]) (r := []) (pc' := 122) rfl rfl rfl k ?_
        rintro _ m10 ⟨rfl, k⟩
        show sm_wp (d + 1) 157 122 lv0 [] (hp m10) (WQ K)
        refine wp_p (pc' := 79) (lv' := lv0) (st' := []) rfl rfl ?_
        exact k _ ⟨e_0, trivial⟩
      · replace k := it_t (c := ((m.A 49).getD (ix ((m.F 42 13) - (nI 1))) 0) = (nI 16)) c9 k
        refine wp_p (pc' := 111) (lv' := lv0) (st' := [.int (nI 1), .ref 42]) rfl rfl ?_
        refine wp_p (pc' := 115) (lv' := lv0) (st' := [.int (nI 1), .ref 42]) rfl rfl ?_
        refine wl_put (pc' := 118) (h2 := hp (m.uF 42 6 (nI 1))) rfl (hq_42 _) rfl rfl rfl (pf_42_6 _ _) ?_
        refine wl_ald_n (pc' := 119) rfl e_0 rfl ?_
        refine wl_cv (As := [.ref 42]) (r := []) (pc' := 122) rfl rfl rfl k ?_
        rintro _ m11 ⟨rfl, k⟩
        show sm_wp (d + 1) 157 122 lv0 [] (hp m11) (WQ K)
        refine wp_p (pc' := 79) (lv' := lv0) (st' := []) rfl rfl ?_
        exact k _ ⟨e_0, trivial⟩
/-! 158: QueryTablesModel.term -/
set_option maxRecDepth 20000 in
theorem sp_158 {d : Nat} {m : Mm} {K : Option Value → Mm → Prop} (k : WP d 151 [.ref 42] m (fun v m5 => v = none ∧ (if (nI 4) ≤ (m5.F 42 22) then K none (m5.uF 42 22 ((m5.F 42 22) + (nI 1))) else ok (m5.A 51).length (m5.F 42 22) ∧ ok (m5.A 52).length (m5.F 42 22) ∧ K none (((m5.uA 51 ((m5.A 51).set (ix (m5.F 42 22)) (m.F 42 7))).uA 52 ((m5.A 52).set (ix (m5.F 42 22)) (m5.F 42 7))).uF 42 22 ((m5.F 42 22) + (nI 1)))))) : WP (d + 1) 158 [.ref 42] m K := by
  have e_0 : sm_lk (lv_args 0 [.ref 42]) 0 = some (.ref 42) := rfl
  show sm_wp (d + 1) 158 0 (lv_args 0 [.ref 42]) [] (hp m) (WQ K)
  generalize lv_args 0 [.ref 42] = lv0 at *
  refine wl_ald_n (pc' := 1) rfl e_0 rfl ?_
  refine wp_get (v := .int (m.F 42 7)) (pc' := 4) rfl (hq_42 _) rfl rfl ?_
  refine wl_st1 (pc' := 5) (k0 := 1) (v := .int (m.F 42 7)) (r := []) rfl rfl (fun lv1 e2 f3 => ?_)
  have e4 := f3 0 _ e_0 (by decide) rfl
  refine wl_ald_n (pc' := 6) rfl e4 rfl ?_
  refine wl_cv (As := [.ref 42]) (r := []) (pc' := 9) rfl rfl rfl k ?_
  rintro _ m5 ⟨rfl, k⟩
  show sm_wp (d + 1) 158 9 lv1 [] (hp m5) (WQ K)
  refine wl_ald_n (pc' := 10) rfl e4 rfl ?_
  refine wp_get (v := .int (m5.F 42 22)) (pc' := 13) rfl (hq_42 _) rfl rfl ?_
  refine wp_p (pc' := 14) (lv' := lv1) (st' := [.int (nI 4), .int (m5.F 42 22)]) rfl rfl ?_
  refine wp_ic_ge (pc' := 17) rfl rfl (fun c6 => ?_) (fun c6 => ?_)
  · replace k := it_t (c := (nI 4) ≤ (m5.F 42 22)) c6 k
    refine wl_ald_n (pc' := 41) rfl e4 rfl ?_
    refine wp_p (pc' := 42) (lv' := lv1) (st' := [.ref 42, .ref 42]) rfl rfl ?_
    refine wp_get (v := .int (m5.F 42 22)) (pc' := 45) rfl (hq_42 _) rfl rfl ?_
    refine wp_p (pc' := 46) (lv' := lv1) (st' := [.int (nI 1), .int (m5.F 42 22), .ref 42]) rfl rfl ?_
    refine wp_iadd (v := (m5.F 42 22) + (nI 1)) (pc' := 47) rfl rfl rfl ?_
    refine wl_put (pc' := 50) (h2 := hp (m5.uF 42 22 ((m5.F 42 22) + (nI 1)))) rfl (hq_42 _) rfl rfl rfl (pf_42_22 _ _) ?_
    exact wp_r rfl rfl ⟨_, rfl, k⟩
  · replace k := it_f (c := (nI 4) ≤ (m5.F 42 22)) c6 k
    refine wl_ald_n (pc' := 18) rfl e4 rfl ?_
    refine wp_get (v := .ref 51) (pc' := 21) rfl (hq_42 _) rfl rfl ?_
    refine wl_ald_n (pc' := 22) rfl e4 rfl ?_
    refine wp_get (v := .int (m5.F 42 22)) (pc' := 25) rfl (hq_42 _) rfl rfl ?_
    refine wl_ild_n (pc' := 26) rfl e2 rfl ?_
    obtain ⟨k7, k⟩ := k
    refine wl_iastore (g := m5.A 51) (pc' := 27) (h2 := hp (m5.uA 51 ((m5.A 51).set (ix (m5.F 42 22)) (m.F 42 7)))) rfl (hq_51 _) k7 rfl (pa_51 _ _) ?_
    refine wl_ald_n (pc' := 28) rfl e4 rfl ?_
    refine wp_get (v := .ref 52) (pc' := 31) rfl (hq_42 _) rfl rfl ?_
    refine wl_ald_n (pc' := 32) rfl e4 rfl ?_
    refine wp_get (v := .int (m5.F 42 22)) (pc' := 35) rfl (hq_42 _) rfl rfl ?_
    refine wl_ald_n (pc' := 36) rfl e4 rfl ?_
    refine wp_get (v := .int (m5.F 42 7)) (pc' := 39) rfl (hq_42 _) rfl rfl ?_
    obtain ⟨k8, k⟩ := k
    refine wl_iastore (g := m5.A 52) (pc' := 40) (h2 := hp ((m5.uA 51 ((m5.A 51).set (ix (m5.F 42 22)) (m.F 42 7))).uA 52 ((m5.A 52).set (ix (m5.F 42 22)) (m5.F 42 7)))) rfl (hq_52 _) k8 rfl (pa_52 _ _) ?_
    refine wl_ald_n (pc' := 41) rfl e4 rfl ?_
    refine wp_p (pc' := 42) (lv' := lv1) (st' := [.ref 42, .ref 42]) rfl rfl ?_
    refine wp_get (v := .int (m5.F 42 22)) (pc' := 45) rfl (hq_42 _) rfl rfl ?_
    refine wp_p (pc' := 46) (lv' := lv1) (st' := [.int (nI 1), .int (m5.F 42 22), .ref 42]) rfl rfl ?_
    refine wp_iadd (v := (m5.F 42 22) + (nI 1)) (pc' := 47) rfl rfl rfl ?_
    refine wl_put (pc' := 50) (h2 := hp (((m5.uA 51 ((m5.A 51).set (ix (m5.F 42 22)) (m.F 42 7))).uA 52 ((m5.A 52).set (ix (m5.F 42 22)) (m5.F 42 7))).uF 42 22 ((m5.F 42 22) + (nI 1)))) rfl (hq_42 _) rfl rfl rfl (pf_42_22 _ _) ?_
    exact wp_r rfl rfl ⟨_, rfl, k⟩
/-! 159: QueryTablesModel.name -/
set_option maxRecDepth 20000 in
theorem sp_159 {d : Nat} {m : Mm} {K : Option Value → Mm → Prop} (k : WP d 143 [.ref 42, .int (nI 2)] m (fun v m1 => ∃ w2, v = some (.int w2) ∧ ok (m1.A 50).length (m.F 42 19) ∧ K none ((m1.uA 50 ((m1.A 50).set (ix (m.F 42 19)) w2)).uF 42 19 ((m1.F 42 19) + (nI 1))))) : WP (d + 1) 159 [.ref 42] m K := by
  have e_0 : sm_lk (lv_args 0 [.ref 42]) 0 = some (.ref 42) := rfl
  show sm_wp (d + 1) 159 0 (lv_args 0 [.ref 42]) [] (hp m) (WQ K)
  generalize lv_args 0 [.ref 42] = lv0 at *
  refine wl_ald_n (pc' := 1) rfl e_0 rfl ?_
  refine wp_get (v := .ref 50) (pc' := 4) rfl (hq_42 _) rfl rfl ?_
  refine wl_ald_n (pc' := 5) rfl e_0 rfl ?_
  refine wp_get (v := .int (m.F 42 19)) (pc' := 8) rfl (hq_42 _) rfl rfl ?_
  refine wl_ald_n (pc' := 9) rfl e_0 rfl ?_
  refine wp_p (pc' := 10) (lv' := lv0) (st' := [.int (nI 2), .ref 42, .int (m.F 42 19), .ref 50]) rfl rfl ?_
  refine wl_cv (As := [.ref 42, .int (nI 2)]) (r := [.int (m.F 42 19), .ref 50]) (pc' := 13) rfl rfl rfl k ?_
  rintro _ m1 ⟨w2, rfl, k⟩
  show sm_wp (d + 1) 159 13 lv0 [.int w2, .int (m.F 42 19), .ref 50] (hp m1) (WQ K)
  obtain ⟨k3, k⟩ := k
  refine wl_iastore (g := m1.A 50) (pc' := 14) (h2 := hp (m1.uA 50 ((m1.A 50).set (ix (m.F 42 19)) w2))) rfl (hq_50 _) k3 rfl (pa_50 _ _) ?_
  refine wl_ald_n (pc' := 15) rfl e_0 rfl ?_
  refine wp_p (pc' := 16) (lv' := lv0) (st' := [.ref 42, .ref 42]) rfl rfl ?_
  refine wp_get (v := .int (m1.F 42 19)) (pc' := 19) rfl (hq_42 _) rfl rfl ?_
  refine wp_p (pc' := 20) (lv' := lv0) (st' := [.int (nI 1), .int (m1.F 42 19), .ref 42]) rfl rfl ?_
  refine wp_iadd (v := (m1.F 42 19) + (nI 1)) (pc' := 21) rfl rfl rfl ?_
  refine wl_put (pc' := 24) (h2 := hp ((m1.uA 50 ((m1.A 50).set (ix (m.F 42 19)) w2)).uF 42 19 ((m1.F 42 19) + (nI 1)))) rfl (hq_42 _) rfl rfl rfl (pf_42_19 _ _) ?_
  exact wp_r rfl rfl ⟨_, rfl, k⟩
/-! 160: QueryTablesModel.begin -/
set_option maxRecDepth 20000 in
theorem sp_160 {d : Nat} {m : Mm} {K : Option Value → Mm → Prop} (k : K none (((((((((((((((((((m.uF 42 6 (nI 0)).uF 42 5 (nI 0)).uF 42 7 (nI 0)).uF 42 13 (nI 0)).uF 42 15 (nI 0)).uF 42 19 (nI 0)).uF 42 22 (nI 0)).uF 42 33 (nI 0)).uF 42 34 (nI 0)).uF 42 25 (nI 0)).uF 42 28 (nI 0)).uF 42 29 (nI 0)).uF 42 32 (nI 60)).uF 42 20 (nI 0)).uF 42 21 (nI 0)).uF 42 53 (nI 0)).uF 42 54 (nI 0)).uF 42 56 (nI 0)).uF 42 57 (nI 0))) : WP d 160 [.ref 42] m K := by
  have e_0 : sm_lk (lv_args 0 [.ref 42]) 0 = some (.ref 42) := rfl
  show sm_wp d 160 0 (lv_args 0 [.ref 42]) [] (hp m) (WQ K)
  generalize lv_args 0 [.ref 42] = lv0 at *
  refine wl_ald_n (pc' := 1) rfl e_0 rfl ?_
  refine wp_p (pc' := 2) (lv' := lv0) (st' := [.int (nI 0), .ref 42]) rfl rfl ?_
  refine wl_put (pc' := 5) (h2 := hp (m.uF 42 6 (nI 0))) rfl (hq_42 _) rfl rfl rfl (pf_42_6 _ _) ?_
  refine wl_ald_n (pc' := 6) rfl e_0 rfl ?_
  refine wp_p (pc' := 7) (lv' := lv0) (st' := [.int (nI 0), .ref 42]) rfl rfl ?_
  refine wl_put (pc' := 10) (h2 := hp ((m.uF 42 6 (nI 0)).uF 42 5 (nI 0))) rfl (hq_42 _) rfl rfl rfl (pf_42_5 _ _) ?_
  refine wl_ald_n (pc' := 11) rfl e_0 rfl ?_
  refine wp_p (pc' := 12) (lv' := lv0) (st' := [.int (nI 0), .ref 42]) rfl rfl ?_
  refine wl_put (pc' := 15) (h2 := hp (((m.uF 42 6 (nI 0)).uF 42 5 (nI 0)).uF 42 7 (nI 0))) rfl (hq_42 _) rfl rfl rfl (pf_42_7 _ _) ?_
  refine wl_ald_n (pc' := 16) rfl e_0 rfl ?_
  refine wp_p (pc' := 17) (lv' := lv0) (st' := [.int (nI 0), .ref 42]) rfl rfl ?_
  refine wl_put (pc' := 20) (h2 := hp ((((m.uF 42 6 (nI 0)).uF 42 5 (nI 0)).uF 42 7 (nI 0)).uF 42 13 (nI 0))) rfl (hq_42 _) rfl rfl rfl (pf_42_13 _ _) ?_
  refine wl_ald_n (pc' := 21) rfl e_0 rfl ?_
  refine wp_p (pc' := 22) (lv' := lv0) (st' := [.int (nI 0), .ref 42]) rfl rfl ?_
  refine wl_put (pc' := 25) (h2 := hp (((((m.uF 42 6 (nI 0)).uF 42 5 (nI 0)).uF 42 7 (nI 0)).uF 42 13 (nI 0)).uF 42 15 (nI 0))) rfl (hq_42 _) rfl rfl rfl (pf_42_15 _ _) ?_
  refine wl_ald_n (pc' := 26) rfl e_0 rfl ?_
  refine wp_p (pc' := 27) (lv' := lv0) (st' := [.int (nI 0), .ref 42]) rfl rfl ?_
  refine wl_put (pc' := 30) (h2 := hp ((((((m.uF 42 6 (nI 0)).uF 42 5 (nI 0)).uF 42 7 (nI 0)).uF 42 13 (nI 0)).uF 42 15 (nI 0)).uF 42 19 (nI 0))) rfl (hq_42 _) rfl rfl rfl (pf_42_19 _ _) ?_
  refine wl_ald_n (pc' := 31) rfl e_0 rfl ?_
  refine wp_p (pc' := 32) (lv' := lv0) (st' := [.int (nI 0), .ref 42]) rfl rfl ?_
  refine wl_put (pc' := 35) (h2 := hp (((((((m.uF 42 6 (nI 0)).uF 42 5 (nI 0)).uF 42 7 (nI 0)).uF 42 13 (nI 0)).uF 42 15 (nI 0)).uF 42 19 (nI 0)).uF 42 22 (nI 0))) rfl (hq_42 _) rfl rfl rfl (pf_42_22 _ _) ?_
  refine wl_ald_n (pc' := 36) rfl e_0 rfl ?_
  refine wp_p (pc' := 37) (lv' := lv0) (st' := [.int (nI 0), .ref 42]) rfl rfl ?_
  refine wl_put (pc' := 40) (h2 := hp ((((((((m.uF 42 6 (nI 0)).uF 42 5 (nI 0)).uF 42 7 (nI 0)).uF 42 13 (nI 0)).uF 42 15 (nI 0)).uF 42 19 (nI 0)).uF 42 22 (nI 0)).uF 42 33 (nI 0))) rfl (hq_42 _) rfl rfl rfl (pf_42_33 _ _) ?_
  refine wl_ald_n (pc' := 41) rfl e_0 rfl ?_
  refine wp_p (pc' := 42) (lv' := lv0) (st' := [.int (nI 0), .ref 42]) rfl rfl ?_
  refine wl_put (pc' := 45) (h2 := hp (((((((((m.uF 42 6 (nI 0)).uF 42 5 (nI 0)).uF 42 7 (nI 0)).uF 42 13 (nI 0)).uF 42 15 (nI 0)).uF 42 19 (nI 0)).uF 42 22 (nI 0)).uF 42 33 (nI 0)).uF 42 34 (nI 0))) rfl (hq_42 _) rfl rfl rfl (pf_42_34 _ _) ?_
  refine wl_ald_n (pc' := 46) rfl e_0 rfl ?_
  refine wp_p (pc' := 47) (lv' := lv0) (st' := [.int (nI 0), .ref 42]) rfl rfl ?_
  refine wl_put (pc' := 50) (h2 := hp ((((((((((m.uF 42 6 (nI 0)).uF 42 5 (nI 0)).uF 42 7 (nI 0)).uF 42 13 (nI 0)).uF 42 15 (nI 0)).uF 42 19 (nI 0)).uF 42 22 (nI 0)).uF 42 33 (nI 0)).uF 42 34 (nI 0)).uF 42 25 (nI 0))) rfl (hq_42 _) rfl rfl rfl (pf_42_25 _ _) ?_
  refine wl_ald_n (pc' := 51) rfl e_0 rfl ?_
  refine wp_p (pc' := 52) (lv' := lv0) (st' := [.int (nI 0), .ref 42]) rfl rfl ?_
  refine wl_put (pc' := 55) (h2 := hp (((((((((((m.uF 42 6 (nI 0)).uF 42 5 (nI 0)).uF 42 7 (nI 0)).uF 42 13 (nI 0)).uF 42 15 (nI 0)).uF 42 19 (nI 0)).uF 42 22 (nI 0)).uF 42 33 (nI 0)).uF 42 34 (nI 0)).uF 42 25 (nI 0)).uF 42 28 (nI 0))) rfl (hq_42 _) rfl rfl rfl (pf_42_28 _ _) ?_
  refine wl_ald_n (pc' := 56) rfl e_0 rfl ?_
  refine wp_p (pc' := 57) (lv' := lv0) (st' := [.int (nI 0), .ref 42]) rfl rfl ?_
  refine wl_put (pc' := 60) (h2 := hp ((((((((((((m.uF 42 6 (nI 0)).uF 42 5 (nI 0)).uF 42 7 (nI 0)).uF 42 13 (nI 0)).uF 42 15 (nI 0)).uF 42 19 (nI 0)).uF 42 22 (nI 0)).uF 42 33 (nI 0)).uF 42 34 (nI 0)).uF 42 25 (nI 0)).uF 42 28 (nI 0)).uF 42 29 (nI 0))) rfl (hq_42 _) rfl rfl rfl (pf_42_29 _ _) ?_
  refine wl_ald_n (pc' := 61) rfl e_0 rfl ?_
  refine wp_p (pc' := 63) (lv' := lv0) (st' := [.int (nI 60), .ref 42]) rfl rfl ?_
  refine wl_put (pc' := 66) (h2 := hp (((((((((((((m.uF 42 6 (nI 0)).uF 42 5 (nI 0)).uF 42 7 (nI 0)).uF 42 13 (nI 0)).uF 42 15 (nI 0)).uF 42 19 (nI 0)).uF 42 22 (nI 0)).uF 42 33 (nI 0)).uF 42 34 (nI 0)).uF 42 25 (nI 0)).uF 42 28 (nI 0)).uF 42 29 (nI 0)).uF 42 32 (nI 60))) rfl (hq_42 _) rfl rfl rfl (pf_42_32 _ _) ?_
  refine wl_ald_n (pc' := 67) rfl e_0 rfl ?_
  refine wp_p (pc' := 68) (lv' := lv0) (st' := [.int (nI 0), .ref 42]) rfl rfl ?_
  refine wl_put (pc' := 71) (h2 := hp ((((((((((((((m.uF 42 6 (nI 0)).uF 42 5 (nI 0)).uF 42 7 (nI 0)).uF 42 13 (nI 0)).uF 42 15 (nI 0)).uF 42 19 (nI 0)).uF 42 22 (nI 0)).uF 42 33 (nI 0)).uF 42 34 (nI 0)).uF 42 25 (nI 0)).uF 42 28 (nI 0)).uF 42 29 (nI 0)).uF 42 32 (nI 60)).uF 42 20 (nI 0))) rfl (hq_42 _) rfl rfl rfl (pf_42_20 _ _) ?_
  refine wl_ald_n (pc' := 72) rfl e_0 rfl ?_
  refine wp_p (pc' := 73) (lv' := lv0) (st' := [.int (nI 0), .ref 42]) rfl rfl ?_
  refine wl_put (pc' := 76) (h2 := hp (((((((((((((((m.uF 42 6 (nI 0)).uF 42 5 (nI 0)).uF 42 7 (nI 0)).uF 42 13 (nI 0)).uF 42 15 (nI 0)).uF 42 19 (nI 0)).uF 42 22 (nI 0)).uF 42 33 (nI 0)).uF 42 34 (nI 0)).uF 42 25 (nI 0)).uF 42 28 (nI 0)).uF 42 29 (nI 0)).uF 42 32 (nI 60)).uF 42 20 (nI 0)).uF 42 21 (nI 0))) rfl (hq_42 _) rfl rfl rfl (pf_42_21 _ _) ?_
  refine wl_ald_n (pc' := 77) rfl e_0 rfl ?_
  refine wp_p (pc' := 78) (lv' := lv0) (st' := [.int (nI 0), .ref 42]) rfl rfl ?_
  refine wl_put (pc' := 81) (h2 := hp ((((((((((((((((m.uF 42 6 (nI 0)).uF 42 5 (nI 0)).uF 42 7 (nI 0)).uF 42 13 (nI 0)).uF 42 15 (nI 0)).uF 42 19 (nI 0)).uF 42 22 (nI 0)).uF 42 33 (nI 0)).uF 42 34 (nI 0)).uF 42 25 (nI 0)).uF 42 28 (nI 0)).uF 42 29 (nI 0)).uF 42 32 (nI 60)).uF 42 20 (nI 0)).uF 42 21 (nI 0)).uF 42 53 (nI 0))) rfl (hq_42 _) rfl rfl rfl (pf_42_53 _ _) ?_
  refine wl_ald_n (pc' := 82) rfl e_0 rfl ?_
  refine wp_p (pc' := 83) (lv' := lv0) (st' := [.int (nI 0), .ref 42]) rfl rfl ?_
  refine wl_put (pc' := 86) (h2 := hp (((((((((((((((((m.uF 42 6 (nI 0)).uF 42 5 (nI 0)).uF 42 7 (nI 0)).uF 42 13 (nI 0)).uF 42 15 (nI 0)).uF 42 19 (nI 0)).uF 42 22 (nI 0)).uF 42 33 (nI 0)).uF 42 34 (nI 0)).uF 42 25 (nI 0)).uF 42 28 (nI 0)).uF 42 29 (nI 0)).uF 42 32 (nI 60)).uF 42 20 (nI 0)).uF 42 21 (nI 0)).uF 42 53 (nI 0)).uF 42 54 (nI 0))) rfl (hq_42 _) rfl rfl rfl (pf_42_54 _ _) ?_
  refine wl_ald_n (pc' := 87) rfl e_0 rfl ?_
  refine wp_p (pc' := 88) (lv' := lv0) (st' := [.int (nI 0), .ref 42]) rfl rfl ?_
  refine wl_put (pc' := 91) (h2 := hp ((((((((((((((((((m.uF 42 6 (nI 0)).uF 42 5 (nI 0)).uF 42 7 (nI 0)).uF 42 13 (nI 0)).uF 42 15 (nI 0)).uF 42 19 (nI 0)).uF 42 22 (nI 0)).uF 42 33 (nI 0)).uF 42 34 (nI 0)).uF 42 25 (nI 0)).uF 42 28 (nI 0)).uF 42 29 (nI 0)).uF 42 32 (nI 60)).uF 42 20 (nI 0)).uF 42 21 (nI 0)).uF 42 53 (nI 0)).uF 42 54 (nI 0)).uF 42 56 (nI 0))) rfl (hq_42 _) rfl rfl rfl (pf_42_56 _ _) ?_
  refine wl_ald_n (pc' := 92) rfl e_0 rfl ?_
  refine wp_p (pc' := 93) (lv' := lv0) (st' := [.int (nI 0), .ref 42]) rfl rfl ?_
  refine wl_put (pc' := 96) (h2 := hp (((((((((((((((((((m.uF 42 6 (nI 0)).uF 42 5 (nI 0)).uF 42 7 (nI 0)).uF 42 13 (nI 0)).uF 42 15 (nI 0)).uF 42 19 (nI 0)).uF 42 22 (nI 0)).uF 42 33 (nI 0)).uF 42 34 (nI 0)).uF 42 25 (nI 0)).uF 42 28 (nI 0)).uF 42 29 (nI 0)).uF 42 32 (nI 60)).uF 42 20 (nI 0)).uF 42 21 (nI 0)).uF 42 53 (nI 0)).uF 42 54 (nI 0)).uF 42 56 (nI 0)).uF 42 57 (nI 0))) rfl (hq_42 _) rfl rfl rfl (pf_42_57 _ _) ?_
  exact wp_r rfl rfl ⟨_, rfl, k⟩
/-! 161: QueryTablesModel.perhapsWhere -/
set_option maxRecDepth 20000 in
theorem sp_161 {d : Nat} {m : Mm} {K : Option Value → Mm → Prop} (k : (if (m.F 42 6) = (nI 0) then WP d 139 [.int (nI 119), .int (nI 104), .int (nI 101), .int (nI 114), .int (nI 101), .int (nI 0)] m (fun v m2 => ∃ w3, v = some (.int w3) ∧ WP d 142 [.ref 42, .int w3] m2 (fun v m4 => ∃ w5, v = some (.int w5) ∧ (if w5 = (nI 0) then K none m4 else WP d 157 [.ref 42] m4 (fun v m7 => v = none ∧ K none m7)))) else K none m)) : WP (d + 1) 161 [.ref 42] m K := by
  have e_0 : sm_lk (lv_args 0 [.ref 42]) 0 = some (.ref 42) := rfl
  show sm_wp (d + 1) 161 0 (lv_args 0 [.ref 42]) [] (hp m) (WQ K)
  generalize lv_args 0 [.ref 42] = lv0 at *
  refine wl_ald_n (pc' := 1) rfl e_0 rfl ?_
  refine wp_get (v := .int (m.F 42 6)) (pc' := 4) rfl (hq_42 _) rfl rfl ?_
  refine wp_if_ne (pc' := 7) rfl rfl (fun c1 => ?_) (fun c1 => ?_)
  · replace k := it_f (c := (m.F 42 6) = (nI 0)) c1 k
    exact wp_r rfl rfl ⟨_, rfl, k⟩
  · replace k := it_t (c := (m.F 42 6) = (nI 0)) c1 k
    refine wl_ald_n (pc' := 8) rfl e_0 rfl ?_
    refine wp_p (pc' := 10) (lv' := lv0) (st' := [.int (nI 119), .ref 42]) rfl rfl ?_
    refine wp_p (pc' := 12) (lv' := lv0) (st' := [.int (nI 104), .int (nI 119), .ref 42]) rfl rfl ?_
    refine wp_p (pc' := 14) (lv' := lv0) (st' := [.int (nI 101), .int (nI 104), .int (nI 119), .ref 42]) rfl rfl ?_
    refine wp_p (pc' := 16) (lv' := lv0) (st' := [.int (nI 114), .int (nI 101), .int (nI 104), .int (nI 119), .ref 42]) rfl rfl ?_
    refine wp_p (pc' := 18) (lv' := lv0) (st' := [.int (nI 101), .int (nI 114), .int (nI 101), .int (nI 104), .int (nI 119), .ref 42]) rfl rfl ?_
    refine wp_p (pc' := 19) (lv' := lv0) (st' := [.int (nI 0), .int (nI 101), .int (nI 114), .int (nI 101), .int (nI 104), .int (nI 119), .ref 42]) rfl rfl ?_
    refine wl_cs (As := [.int (nI 119), .int (nI 104), .int (nI 101), .int (nI 114), .int (nI 101), .int (nI 0)]) (r := [.ref 42]) (pc' := 22) rfl rfl rfl rfl k ?_
    rintro _ m2 ⟨w3, rfl, k⟩
    show sm_wp (d + 1) 161 22 lv0 [.int w3, .ref 42] (hp m2) (WQ K)
    refine wl_cv (As := [.ref 42, .int w3]) (r := []) (pc' := 25) rfl rfl rfl k ?_
    rintro _ m4 ⟨w5, rfl, k⟩
    show sm_wp (d + 1) 161 25 lv0 [.int w5] (hp m4) (WQ K)
    refine wp_if_eq (pc' := 28) rfl rfl (fun c6 => ?_) (fun c6 => ?_)
    · replace k := it_t (c := w5 = (nI 0)) c6 k
      exact wp_r rfl rfl ⟨_, rfl, k⟩
    · replace k := it_f (c := w5 = (nI 0)) c6 k
      refine wl_ald_n (pc' := 29) rfl e_0 rfl ?_
      refine wl_cv (As := [.ref 42]) (r := []) (pc' := 32) rfl rfl rfl k ?_
      rintro _ m7 ⟨rfl, k⟩
      show sm_wp (d + 1) 161 32 lv0 [] (hp m7) (WQ K)
      exact wp_r rfl rfl ⟨_, rfl, k⟩
