/-! one call on new objects: the law's own way -/
set_option maxRecDepth 20000 in
theorem lw_pre {sc : sm_X} {w : Option Value × sm_H} (k : sm_run sc 60 0 18 [(3, .int 0), (2, .ref 42), (1, .ref 0), (0, .float 0)] [] hp0 w) : sm_run sc 60 0 0 [(0, .float 0)] [] [] w := by
  refine rn_n (r := []) (x := .inr (0, [.null, .null, .null, .null, .null, .null, .null, .null, .null, .null, .int 0, .int 0, .int 0, .int 0, .int 0])) (pc' := 3) rfl rfl rfl ?_
  refine rn_p (pc' := 4) (lv' := [(0, .float 0)]) (st' := [.ref 0, .ref 0]) rfl rfl ?_
  refine rn_ci (As := [.ref 0]) (r := [.ref 0]) (v := none) (g := hpx) (st2 := [.ref 0]) (pc' := 7) rfl rfl rfl rfl rfl (sm_run.to ⟨400, ev_x⟩ (by decide)) ?_
  refine rn_p (pc' := 8) (lv' := [(1, .ref 0), (0, .float 0)]) (st' := []) rfl rfl ?_
  refine rn_n (r := []) (x := .inr (10, [.null, .int 0, .int 0, .null, .null, .int 0, .int 0, .int 0, .null, .null, .int 0, .null, .int 0, .int 0, .null, .int 0, .int 0, .int 0, .null, .int 0, .int 0, .int 0, .int 0, .null, .null, .int 0, .int 0, .int 0, .int 0, .int 0, .int 0, .int 0, .int 0, .int 0, .int 0, .null, .null, .null, .int 0, .int 0, .null, .null, .null, .null, .null, .null, .null, .null, .int 0, .null, .null, .null, .null, .int 0, .int 0, .null, .int 0, .int 0, .int 0])) (pc' := 11) rfl rfl rfl ?_
  refine rn_p (pc' := 12) (lv' := [(1, .ref 0), (0, .float 0)]) (st' := [.ref 42, .ref 42]) rfl rfl ?_
  refine rn_ci (As := [.ref 42]) (r := [.ref 42]) (v := none) (g := hp0) (st2 := [.ref 42]) (pc' := 15) rfl rfl rfl rfl rfl (sm_run.to ⟨400, ev_m⟩ (by decide)) ?_
  refine rn_p (pc' := 16) (lv' := [(2, .ref 42), (1, .ref 0), (0, .float 0)]) (st' := []) rfl rfl ?_
  refine rn_p (pc' := 17) (lv' := [(2, .ref 42), (1, .ref 0), (0, .float 0)]) (st' := [.int 0]) rfl rfl ?_
  refine rn_p (pc' := 18) (lv' := [(3, .int 0), (2, .ref 42), (1, .ref 0), (0, .float 0)]) (st' := []) rfl rfl ?_
  exact k
set_option maxRecDepth 20000 in
theorem lw_len0 (xs : Nat → Int32) : sm_run (some (0, xs)) 60 0 18 [(3, .int 0), (2, .ref 42), (1, .ref 0), (0, .float 0)] [] hp0 (some (.int 1), hp0) := by
  refine rn_p (pc' := 19) (lv' := [(3, .int 0), (2, .ref 42), (1, .ref 0), (0, .float 0)]) (st' := [.int 0]) rfl rfl ?_
  refine rn_p (pc' := 20) (lv' := [(3, .int 0), (2, .ref 42), (1, .ref 0), (0, .float 0)]) (st' := [.float 0, .int 0]) rfl rfl ?_
  refine rn_p (pc' := 21) (lv' := [(3, .int 0), (2, .ref 42), (1, .ref 0), (0, .float 0)]) (st' := [.int 0, .int 0]) rfl rfl ?_
  refine rn_p (pc' := 22) (lv' := [(3, .int 0), (2, .ref 42), (1, .ref 0), (0, .float 0)]) (st' := [.int 5, .int 0, .int 0]) rfl rfl ?_
  refine rn_isub (v := (-5)) (pc' := 23) rfl (by decide) rfl ?_
  refine rn_p (pc' := 456) (lv' := [(3, .int 0), (2, .ref 42), (1, .ref 0), (0, .float 0)]) (st' := []) rfl rfl ?_
  refine rn_p (pc' := 457) (lv' := [(3, .int 0), (2, .ref 42), (1, .ref 0), (0, .float 0)]) (st' := [.int 1]) rfl rfl ?_
  exact rn_r rfl rfl
set_option maxRecDepth 20000 in
theorem lw_len1 (xs : Nat → Int32) : sm_run (some (1, xs)) 60 0 18 [(3, .int 0), (2, .ref 42), (1, .ref 0), (0, .float 0)] [] hp0 (some (.int 1), hp0) := by
  refine rn_p (pc' := 19) (lv' := [(3, .int 0), (2, .ref 42), (1, .ref 0), (0, .float 0)]) (st' := [.int 0]) rfl rfl ?_
  refine rn_p (pc' := 20) (lv' := [(3, .int 0), (2, .ref 42), (1, .ref 0), (0, .float 0)]) (st' := [.float 0, .int 0]) rfl rfl ?_
  refine rn_p (pc' := 21) (lv' := [(3, .int 0), (2, .ref 42), (1, .ref 0), (0, .float 0)]) (st' := [.int 1, .int 0]) rfl rfl ?_
  refine rn_p (pc' := 22) (lv' := [(3, .int 0), (2, .ref 42), (1, .ref 0), (0, .float 0)]) (st' := [.int 5, .int 1, .int 0]) rfl rfl ?_
  refine rn_isub (v := (-4)) (pc' := 23) rfl (by decide) rfl ?_
  refine rn_p (pc' := 456) (lv' := [(3, .int 0), (2, .ref 42), (1, .ref 0), (0, .float 0)]) (st' := []) rfl rfl ?_
  refine rn_p (pc' := 457) (lv' := [(3, .int 0), (2, .ref 42), (1, .ref 0), (0, .float 0)]) (st' := [.int 1]) rfl rfl ?_
  exact rn_r rfl rfl
set_option maxRecDepth 20000 in
theorem lw_len2 (xs : Nat → Int32) : sm_run (some (2, xs)) 60 0 18 [(3, .int 0), (2, .ref 42), (1, .ref 0), (0, .float 0)] [] hp0 (some (.int 1), hp0) := by
  refine rn_p (pc' := 19) (lv' := [(3, .int 0), (2, .ref 42), (1, .ref 0), (0, .float 0)]) (st' := [.int 0]) rfl rfl ?_
  refine rn_p (pc' := 20) (lv' := [(3, .int 0), (2, .ref 42), (1, .ref 0), (0, .float 0)]) (st' := [.float 0, .int 0]) rfl rfl ?_
  refine rn_p (pc' := 21) (lv' := [(3, .int 0), (2, .ref 42), (1, .ref 0), (0, .float 0)]) (st' := [.int 2, .int 0]) rfl rfl ?_
  refine rn_p (pc' := 22) (lv' := [(3, .int 0), (2, .ref 42), (1, .ref 0), (0, .float 0)]) (st' := [.int 5, .int 2, .int 0]) rfl rfl ?_
  refine rn_isub (v := (-3)) (pc' := 23) rfl (by decide) rfl ?_
  refine rn_p (pc' := 456) (lv' := [(3, .int 0), (2, .ref 42), (1, .ref 0), (0, .float 0)]) (st' := []) rfl rfl ?_
  refine rn_p (pc' := 457) (lv' := [(3, .int 0), (2, .ref 42), (1, .ref 0), (0, .float 0)]) (st' := [.int 1]) rfl rfl ?_
  exact rn_r rfl rfl
set_option maxRecDepth 20000 in
theorem lw_len3 (xs : Nat → Int32) : sm_run (some (3, xs)) 60 0 18 [(3, .int 0), (2, .ref 42), (1, .ref 0), (0, .float 0)] [] hp0 (some (.int 1), hp0) := by
  refine rn_p (pc' := 19) (lv' := [(3, .int 0), (2, .ref 42), (1, .ref 0), (0, .float 0)]) (st' := [.int 0]) rfl rfl ?_
  refine rn_p (pc' := 20) (lv' := [(3, .int 0), (2, .ref 42), (1, .ref 0), (0, .float 0)]) (st' := [.float 0, .int 0]) rfl rfl ?_
  refine rn_p (pc' := 21) (lv' := [(3, .int 0), (2, .ref 42), (1, .ref 0), (0, .float 0)]) (st' := [.int 3, .int 0]) rfl rfl ?_
  refine rn_p (pc' := 22) (lv' := [(3, .int 0), (2, .ref 42), (1, .ref 0), (0, .float 0)]) (st' := [.int 5, .int 3, .int 0]) rfl rfl ?_
  refine rn_isub (v := (-2)) (pc' := 23) rfl (by decide) rfl ?_
  refine rn_p (pc' := 456) (lv' := [(3, .int 0), (2, .ref 42), (1, .ref 0), (0, .float 0)]) (st' := []) rfl rfl ?_
  refine rn_p (pc' := 457) (lv' := [(3, .int 0), (2, .ref 42), (1, .ref 0), (0, .float 0)]) (st' := [.int 1]) rfl rfl ?_
  exact rn_r rfl rfl
set_option maxRecDepth 20000 in
theorem lw_len4 (xs : Nat → Int32) : sm_run (some (4, xs)) 60 0 18 [(3, .int 0), (2, .ref 42), (1, .ref 0), (0, .float 0)] [] hp0 (some (.int 1), hp0) := by
  refine rn_p (pc' := 19) (lv' := [(3, .int 0), (2, .ref 42), (1, .ref 0), (0, .float 0)]) (st' := [.int 0]) rfl rfl ?_
  refine rn_p (pc' := 20) (lv' := [(3, .int 0), (2, .ref 42), (1, .ref 0), (0, .float 0)]) (st' := [.float 0, .int 0]) rfl rfl ?_
  refine rn_p (pc' := 21) (lv' := [(3, .int 0), (2, .ref 42), (1, .ref 0), (0, .float 0)]) (st' := [.int 4, .int 0]) rfl rfl ?_
  refine rn_p (pc' := 22) (lv' := [(3, .int 0), (2, .ref 42), (1, .ref 0), (0, .float 0)]) (st' := [.int 5, .int 4, .int 0]) rfl rfl ?_
  refine rn_isub (v := (-1)) (pc' := 23) rfl (by decide) rfl ?_
  refine rn_p (pc' := 456) (lv' := [(3, .int 0), (2, .ref 42), (1, .ref 0), (0, .float 0)]) (st' := []) rfl rfl ?_
  refine rn_p (pc' := 457) (lv' := [(3, .int 0), (2, .ref 42), (1, .ref 0), (0, .float 0)]) (st' := [.int 1]) rfl rfl ?_
  exact rn_r rfl rfl
set_option maxRecDepth 20000 in
theorem lw_end (xs : Nat → Int32) (H : sm_H) : sm_run (some (5, xs)) 60 0 450 [(3, .int 0), (2, .ref 42), (1, .ref 0), (0, .float 0)] [] H (some (.int 1), H) := by
  refine rn_p (pc' := 453) (lv' := [(3, .int 5), (2, .ref 42), (1, .ref 0), (0, .float 0)]) (st' := []) rfl rfl ?_
  refine rn_p (pc' := 18) (lv' := [(3, .int 5), (2, .ref 42), (1, .ref 0), (0, .float 0)]) (st' := []) rfl rfl ?_
  refine rn_p (pc' := 19) (lv' := [(3, .int 5), (2, .ref 42), (1, .ref 0), (0, .float 0)]) (st' := [.int 5]) rfl rfl ?_
  refine rn_p (pc' := 20) (lv' := [(3, .int 5), (2, .ref 42), (1, .ref 0), (0, .float 0)]) (st' := [.float 0, .int 5]) rfl rfl ?_
  refine rn_p (pc' := 21) (lv' := [(3, .int 5), (2, .ref 42), (1, .ref 0), (0, .float 0)]) (st' := [.int 5, .int 5]) rfl rfl ?_
  refine rn_p (pc' := 22) (lv' := [(3, .int 5), (2, .ref 42), (1, .ref 0), (0, .float 0)]) (st' := [.int 5, .int 5, .int 5]) rfl rfl ?_
  refine rn_isub (v := 0) (pc' := 23) rfl (by decide) rfl ?_
  refine rn_p (pc' := 456) (lv' := [(3, .int 5), (2, .ref 42), (1, .ref 0), (0, .float 0)]) (st' := []) rfl rfl ?_
  refine rn_p (pc' := 457) (lv' := [(3, .int 5), (2, .ref 42), (1, .ref 0), (0, .float 0)]) (st' := [.int 1]) rfl rfl ?_
  exact rn_r rfl rfl
set_option maxRecDepth 20000 in
theorem lw_c0a (xs : Nat → Int32) (h0 : xs 0 &&& 15 = 0) (h1 : ((xs 1).toUInt32 % 65536).toInt32 < 32) : sm_run (some (5, xs)) 60 0 18 [(3, .int 0), (2, .ref 42), (1, .ref 0), (0, .float 0)] [] hp0 (some (.int 1), hp0) := by
  refine rn_p (pc' := 19) (lv' := [(3, .int 0), (2, .ref 42), (1, .ref 0), (0, .float 0)]) (st' := [.int 0]) rfl rfl ?_
  refine rn_p (pc' := 20) (lv' := [(3, .int 0), (2, .ref 42), (1, .ref 0), (0, .float 0)]) (st' := [.float 0, .int 0]) rfl rfl ?_
  refine rn_p (pc' := 21) (lv' := [(3, .int 0), (2, .ref 42), (1, .ref 0), (0, .float 0)]) (st' := [.int 5, .int 0]) rfl rfl ?_
  refine rn_p (pc' := 22) (lv' := [(3, .int 0), (2, .ref 42), (1, .ref 0), (0, .float 0)]) (st' := [.int 5, .int 5, .int 0]) rfl rfl ?_
  refine rn_isub (v := 0) (pc' := 23) rfl (by decide) rfl ?_
  refine rn_p (pc' := 26) (lv' := [(3, .int 0), (2, .ref 42), (1, .ref 0), (0, .float 0)]) (st' := []) rfl rfl ?_
  refine rn_p (pc' := 27) (lv' := [(3, .int 0), (2, .ref 42), (1, .ref 0), (0, .float 0)]) (st' := [.float 0]) rfl rfl ?_
  refine rn_p (pc' := 28) (lv' := [(3, .int 0), (2, .ref 42), (1, .ref 0), (0, .float 0)]) (st' := [.int 0, .float 0]) rfl rfl ?_
  refine rn_x (j := 0) (pc' := 29) rfl rfl (by decide) (by decide) rfl ?_
  refine rn_p (pc' := 31) (lv' := [(3, .int 0), (2, .ref 42), (1, .ref 0), (0, .float 0)]) (st' := [.int 15, .int (xs 0)]) rfl rfl ?_
  refine rn_iand (v := 0) (pc' := 32) rfl h0 rfl ?_
  refine rn_ts (off := 72) (pc' := 104) rfl (by decide) (by decide) (by decide) ?_
  refine rn_p (pc' := 105) (lv' := [(3, .int 0), (2, .ref 42), (1, .ref 0), (0, .float 0)]) (st' := [.ref 0]) rfl rfl ?_
  refine rn_p (pc' := 106) (lv' := [(3, .int 0), (2, .ref 42), (1, .ref 0), (0, .float 0)]) (st' := [.float 0, .ref 0]) rfl rfl ?_
  refine rn_p (pc' := 107) (lv' := [(3, .int 0), (2, .ref 42), (1, .ref 0), (0, .float 0)]) (st' := [.int 0, .float 0, .ref 0]) rfl rfl ?_
  refine rn_p (pc' := 108) (lv' := [(3, .int 0), (2, .ref 42), (1, .ref 0), (0, .float 0)]) (st' := [.int 1, .int 0, .float 0, .ref 0]) rfl rfl ?_
  refine rn_iadd (v := 1) (pc' := 109) rfl (by decide) rfl ?_
  refine rn_x (j := 1) (pc' := 110) rfl rfl (by decide) (by decide) rfl ?_
  refine rn_p (pc' := 111) (lv' := [(3, .int 0), (2, .ref 42), (1, .ref 0), (0, .float 0)]) (st' := [.int (((xs 1).toUInt32 % 65536).toInt32), .ref 0]) rfl rfl ?_
  refine rn_cv (As := [.ref 0, .int (((xs 1).toUInt32 % 65536).toInt32)]) (r := []) (v := (some (.int 0))) (g := hp0) (st2 := [.int 0]) (pc' := 114) rfl rfl rfl rfl (sm_run.to (fx_type_1 (((xs 1).toUInt32 % 65536).toInt32) h1) (by decide)) ?_
  refine rn_p (pc' := 115) (lv' := [(3, .int 0), (2, .ref 42), (1, .ref 0), (0, .float 0)]) (st' := [.ref 42, .int 0]) rfl rfl ?_
  refine rn_p (pc' := 116) (lv' := [(3, .int 0), (2, .ref 42), (1, .ref 0), (0, .float 0)]) (st' := [.float 0, .ref 42, .int 0]) rfl rfl ?_
  refine rn_p (pc' := 117) (lv' := [(3, .int 0), (2, .ref 42), (1, .ref 0), (0, .float 0)]) (st' := [.int 0, .float 0, .ref 42, .int 0]) rfl rfl ?_
  refine rn_p (pc' := 118) (lv' := [(3, .int 0), (2, .ref 42), (1, .ref 0), (0, .float 0)]) (st' := [.int 1, .int 0, .float 0, .ref 42, .int 0]) rfl rfl ?_
  refine rn_iadd (v := 1) (pc' := 119) rfl (by decide) rfl ?_
  refine rn_x (j := 1) (pc' := 120) rfl rfl (by decide) (by decide) rfl ?_
  refine rn_p (pc' := 121) (lv' := [(3, .int 0), (2, .ref 42), (1, .ref 0), (0, .float 0)]) (st' := [.int (((xs 1).toUInt32 % 65536).toInt32), .ref 42, .int 0]) rfl rfl ?_
  refine rn_cv (As := [.ref 42, .int (((xs 1).toUInt32 % 65536).toInt32)]) (r := [.int 0]) (v := (some (.int 0))) (g := hp0) (st2 := [.int 0, .int 0]) (pc' := 124) rfl rfl rfl rfl (sm_run.to (fm_type_1 (((xs 1).toUInt32 % 65536).toInt32) h1) (by decide)) ?_
  refine rn_p (pc' := 450) (lv' := [(3, .int 0), (2, .ref 42), (1, .ref 0), (0, .float 0)]) (st' := []) rfl rfl ?_
  exact lw_end xs _
set_option maxRecDepth 20000 in
theorem lw_c0b (xs : Nat → Int32) (h0 : xs 0 &&& 15 = 0) (h1 : ¬ ((xs 1).toUInt32 % 65536).toInt32 < 32) (h2 : 126 < ((xs 1).toUInt32 % 65536).toInt32) : sm_run (some (5, xs)) 60 0 18 [(3, .int 0), (2, .ref 42), (1, .ref 0), (0, .float 0)] [] hp0 (some (.int 1), hp0) := by
  refine rn_p (pc' := 19) (lv' := [(3, .int 0), (2, .ref 42), (1, .ref 0), (0, .float 0)]) (st' := [.int 0]) rfl rfl ?_
  refine rn_p (pc' := 20) (lv' := [(3, .int 0), (2, .ref 42), (1, .ref 0), (0, .float 0)]) (st' := [.float 0, .int 0]) rfl rfl ?_
  refine rn_p (pc' := 21) (lv' := [(3, .int 0), (2, .ref 42), (1, .ref 0), (0, .float 0)]) (st' := [.int 5, .int 0]) rfl rfl ?_
  refine rn_p (pc' := 22) (lv' := [(3, .int 0), (2, .ref 42), (1, .ref 0), (0, .float 0)]) (st' := [.int 5, .int 5, .int 0]) rfl rfl ?_
  refine rn_isub (v := 0) (pc' := 23) rfl (by decide) rfl ?_
  refine rn_p (pc' := 26) (lv' := [(3, .int 0), (2, .ref 42), (1, .ref 0), (0, .float 0)]) (st' := []) rfl rfl ?_
  refine rn_p (pc' := 27) (lv' := [(3, .int 0), (2, .ref 42), (1, .ref 0), (0, .float 0)]) (st' := [.float 0]) rfl rfl ?_
  refine rn_p (pc' := 28) (lv' := [(3, .int 0), (2, .ref 42), (1, .ref 0), (0, .float 0)]) (st' := [.int 0, .float 0]) rfl rfl ?_
  refine rn_x (j := 0) (pc' := 29) rfl rfl (by decide) (by decide) rfl ?_
  refine rn_p (pc' := 31) (lv' := [(3, .int 0), (2, .ref 42), (1, .ref 0), (0, .float 0)]) (st' := [.int 15, .int (xs 0)]) rfl rfl ?_
  refine rn_iand (v := 0) (pc' := 32) rfl h0 rfl ?_
  refine rn_ts (off := 72) (pc' := 104) rfl (by decide) (by decide) (by decide) ?_
  refine rn_p (pc' := 105) (lv' := [(3, .int 0), (2, .ref 42), (1, .ref 0), (0, .float 0)]) (st' := [.ref 0]) rfl rfl ?_
  refine rn_p (pc' := 106) (lv' := [(3, .int 0), (2, .ref 42), (1, .ref 0), (0, .float 0)]) (st' := [.float 0, .ref 0]) rfl rfl ?_
  refine rn_p (pc' := 107) (lv' := [(3, .int 0), (2, .ref 42), (1, .ref 0), (0, .float 0)]) (st' := [.int 0, .float 0, .ref 0]) rfl rfl ?_
  refine rn_p (pc' := 108) (lv' := [(3, .int 0), (2, .ref 42), (1, .ref 0), (0, .float 0)]) (st' := [.int 1, .int 0, .float 0, .ref 0]) rfl rfl ?_
  refine rn_iadd (v := 1) (pc' := 109) rfl (by decide) rfl ?_
  refine rn_x (j := 1) (pc' := 110) rfl rfl (by decide) (by decide) rfl ?_
  refine rn_p (pc' := 111) (lv' := [(3, .int 0), (2, .ref 42), (1, .ref 0), (0, .float 0)]) (st' := [.int (((xs 1).toUInt32 % 65536).toInt32), .ref 0]) rfl rfl ?_
  refine rn_cv (As := [.ref 0, .int (((xs 1).toUInt32 % 65536).toInt32)]) (r := []) (v := (some (.int 0))) (g := hp0) (st2 := [.int 0]) (pc' := 114) rfl rfl rfl rfl (sm_run.to (fx_type_2 (((xs 1).toUInt32 % 65536).toInt32) h1 h2) (by decide)) ?_
  refine rn_p (pc' := 115) (lv' := [(3, .int 0), (2, .ref 42), (1, .ref 0), (0, .float 0)]) (st' := [.ref 42, .int 0]) rfl rfl ?_
  refine rn_p (pc' := 116) (lv' := [(3, .int 0), (2, .ref 42), (1, .ref 0), (0, .float 0)]) (st' := [.float 0, .ref 42, .int 0]) rfl rfl ?_
  refine rn_p (pc' := 117) (lv' := [(3, .int 0), (2, .ref 42), (1, .ref 0), (0, .float 0)]) (st' := [.int 0, .float 0, .ref 42, .int 0]) rfl rfl ?_
  refine rn_p (pc' := 118) (lv' := [(3, .int 0), (2, .ref 42), (1, .ref 0), (0, .float 0)]) (st' := [.int 1, .int 0, .float 0, .ref 42, .int 0]) rfl rfl ?_
  refine rn_iadd (v := 1) (pc' := 119) rfl (by decide) rfl ?_
  refine rn_x (j := 1) (pc' := 120) rfl rfl (by decide) (by decide) rfl ?_
  refine rn_p (pc' := 121) (lv' := [(3, .int 0), (2, .ref 42), (1, .ref 0), (0, .float 0)]) (st' := [.int (((xs 1).toUInt32 % 65536).toInt32), .ref 42, .int 0]) rfl rfl ?_
  refine rn_cv (As := [.ref 42, .int (((xs 1).toUInt32 % 65536).toInt32)]) (r := [.int 0]) (v := (some (.int 0))) (g := hp0) (st2 := [.int 0, .int 0]) (pc' := 124) rfl rfl rfl rfl (sm_run.to (fm_type_2 (((xs 1).toUInt32 % 65536).toInt32) h1 h2) (by decide)) ?_
  refine rn_p (pc' := 450) (lv' := [(3, .int 0), (2, .ref 42), (1, .ref 0), (0, .float 0)]) (st' := []) rfl rfl ?_
  exact lw_end xs _
set_option maxRecDepth 20000 in
theorem lw_c0c (xs : Nat → Int32) (h0 : xs 0 &&& 15 = 0) (h1 : ¬ ((xs 1).toUInt32 % 65536).toInt32 < 32) (h2 : ¬ 126 < ((xs 1).toUInt32 % 65536).toInt32) : sm_run (some (5, xs)) 60 0 18 [(3, .int 0), (2, .ref 42), (1, .ref 0), (0, .float 0)] [] hp0 (some (.int 1), ((((hp0.set 1 (.inl (2, .inl ((List.replicate 80 0).set (0 : Int32).toNatClampNeg (vp_nar .char (((xs 1).toUInt32 % 65536).toInt32)))))).set 0 (.inr (0, [.ref 1, .ref 2, .ref 12, .ref 17, .ref 23, .ref 25, .ref 29, .ref 30, .ref 40, .ref 41, .int 1, .int 0, .int 0, .int 0, .int 0]))).set 43 (.inl (2, .inl ((List.replicate 100 0).set (0 : Int32).toNatClampNeg (vp_nar .char (((xs 1).toUInt32 % 65536).toInt32)))))).set 42 (.inr (10, [.ref 43, .int 1, .int 0, .ref 44, .ref 45, .int 0, .int 0, .int 0, .ref 46, .ref 47, .int 0, .ref 48, .int 0, .int 0, .ref 49, .int 0, .int 0, .int 0, .ref 50, .int 0, .int 0, .int 0, .int 0, .ref 51, .ref 52, .int 0, .int 0, .int 0, .int 0, .int 0, .int 0, .int 0, .int 0, .int 0, .int 0, .ref 53, .ref 54, .ref 55, .int 0, .int 0, .ref 56, .ref 57, .ref 58, .ref 59, .ref 60, .ref 61, .ref 62, .ref 63, .int 0, .ref 64, .ref 65, .ref 66, .ref 67, .int 0, .int 0, .ref 68, .int 0, .int 0, .int 0])))) := by
  refine rn_p (pc' := 19) (lv' := [(3, .int 0), (2, .ref 42), (1, .ref 0), (0, .float 0)]) (st' := [.int 0]) rfl rfl ?_
  refine rn_p (pc' := 20) (lv' := [(3, .int 0), (2, .ref 42), (1, .ref 0), (0, .float 0)]) (st' := [.float 0, .int 0]) rfl rfl ?_
  refine rn_p (pc' := 21) (lv' := [(3, .int 0), (2, .ref 42), (1, .ref 0), (0, .float 0)]) (st' := [.int 5, .int 0]) rfl rfl ?_
  refine rn_p (pc' := 22) (lv' := [(3, .int 0), (2, .ref 42), (1, .ref 0), (0, .float 0)]) (st' := [.int 5, .int 5, .int 0]) rfl rfl ?_
  refine rn_isub (v := 0) (pc' := 23) rfl (by decide) rfl ?_
  refine rn_p (pc' := 26) (lv' := [(3, .int 0), (2, .ref 42), (1, .ref 0), (0, .float 0)]) (st' := []) rfl rfl ?_
  refine rn_p (pc' := 27) (lv' := [(3, .int 0), (2, .ref 42), (1, .ref 0), (0, .float 0)]) (st' := [.float 0]) rfl rfl ?_
  refine rn_p (pc' := 28) (lv' := [(3, .int 0), (2, .ref 42), (1, .ref 0), (0, .float 0)]) (st' := [.int 0, .float 0]) rfl rfl ?_
  refine rn_x (j := 0) (pc' := 29) rfl rfl (by decide) (by decide) rfl ?_
  refine rn_p (pc' := 31) (lv' := [(3, .int 0), (2, .ref 42), (1, .ref 0), (0, .float 0)]) (st' := [.int 15, .int (xs 0)]) rfl rfl ?_
  refine rn_iand (v := 0) (pc' := 32) rfl h0 rfl ?_
  refine rn_ts (off := 72) (pc' := 104) rfl (by decide) (by decide) (by decide) ?_
  refine rn_p (pc' := 105) (lv' := [(3, .int 0), (2, .ref 42), (1, .ref 0), (0, .float 0)]) (st' := [.ref 0]) rfl rfl ?_
  refine rn_p (pc' := 106) (lv' := [(3, .int 0), (2, .ref 42), (1, .ref 0), (0, .float 0)]) (st' := [.float 0, .ref 0]) rfl rfl ?_
  refine rn_p (pc' := 107) (lv' := [(3, .int 0), (2, .ref 42), (1, .ref 0), (0, .float 0)]) (st' := [.int 0, .float 0, .ref 0]) rfl rfl ?_
  refine rn_p (pc' := 108) (lv' := [(3, .int 0), (2, .ref 42), (1, .ref 0), (0, .float 0)]) (st' := [.int 1, .int 0, .float 0, .ref 0]) rfl rfl ?_
  refine rn_iadd (v := 1) (pc' := 109) rfl (by decide) rfl ?_
  refine rn_x (j := 1) (pc' := 110) rfl rfl (by decide) (by decide) rfl ?_
  refine rn_p (pc' := 111) (lv' := [(3, .int 0), (2, .ref 42), (1, .ref 0), (0, .float 0)]) (st' := [.int (((xs 1).toUInt32 % 65536).toInt32), .ref 0]) rfl rfl ?_
  refine rn_cv (As := [.ref 0, .int (((xs 1).toUInt32 % 65536).toInt32)]) (r := []) (v := (some (.int 1))) (g := ((hp0.set 1 (.inl (2, .inl ((List.replicate 80 0).set (0 : Int32).toNatClampNeg (vp_nar .char (((xs 1).toUInt32 % 65536).toInt32)))))).set 0 (.inr (0, [.ref 1, .ref 2, .ref 12, .ref 17, .ref 23, .ref 25, .ref 29, .ref 30, .ref 40, .ref 41, .int 1, .int 0, .int 0, .int 0, .int 0])))) (st2 := [.int 1]) (pc' := 114) rfl rfl rfl rfl (sm_run.to (fx_type_3 (((xs 1).toUInt32 % 65536).toInt32) h1 h2) (by decide)) ?_
  refine rn_p (pc' := 115) (lv' := [(3, .int 0), (2, .ref 42), (1, .ref 0), (0, .float 0)]) (st' := [.ref 42, .int 1]) rfl rfl ?_
  refine rn_p (pc' := 116) (lv' := [(3, .int 0), (2, .ref 42), (1, .ref 0), (0, .float 0)]) (st' := [.float 0, .ref 42, .int 1]) rfl rfl ?_
  refine rn_p (pc' := 117) (lv' := [(3, .int 0), (2, .ref 42), (1, .ref 0), (0, .float 0)]) (st' := [.int 0, .float 0, .ref 42, .int 1]) rfl rfl ?_
  refine rn_p (pc' := 118) (lv' := [(3, .int 0), (2, .ref 42), (1, .ref 0), (0, .float 0)]) (st' := [.int 1, .int 0, .float 0, .ref 42, .int 1]) rfl rfl ?_
  refine rn_iadd (v := 1) (pc' := 119) rfl (by decide) rfl ?_
  refine rn_x (j := 1) (pc' := 120) rfl rfl (by decide) (by decide) rfl ?_
  refine rn_p (pc' := 121) (lv' := [(3, .int 0), (2, .ref 42), (1, .ref 0), (0, .float 0)]) (st' := [.int (((xs 1).toUInt32 % 65536).toInt32), .ref 42, .int 1]) rfl rfl ?_
  refine rn_cv (As := [.ref 42, .int (((xs 1).toUInt32 % 65536).toInt32)]) (r := [.int 1]) (v := (some (.int 1))) (g := ((((hp0.set 1 (.inl (2, .inl ((List.replicate 80 0).set (0 : Int32).toNatClampNeg (vp_nar .char (((xs 1).toUInt32 % 65536).toInt32)))))).set 0 (.inr (0, [.ref 1, .ref 2, .ref 12, .ref 17, .ref 23, .ref 25, .ref 29, .ref 30, .ref 40, .ref 41, .int 1, .int 0, .int 0, .int 0, .int 0]))).set 43 (.inl (2, .inl ((List.replicate 100 0).set (0 : Int32).toNatClampNeg (vp_nar .char (((xs 1).toUInt32 % 65536).toInt32)))))).set 42 (.inr (10, [.ref 43, .int 1, .int 0, .ref 44, .ref 45, .int 0, .int 0, .int 0, .ref 46, .ref 47, .int 0, .ref 48, .int 0, .int 0, .ref 49, .int 0, .int 0, .int 0, .ref 50, .int 0, .int 0, .int 0, .int 0, .ref 51, .ref 52, .int 0, .int 0, .int 0, .int 0, .int 0, .int 0, .int 0, .int 0, .int 0, .int 0, .ref 53, .ref 54, .ref 55, .int 0, .int 0, .ref 56, .ref 57, .ref 58, .ref 59, .ref 60, .ref 61, .ref 62, .ref 63, .int 0, .ref 64, .ref 65, .ref 66, .ref 67, .int 0, .int 0, .ref 68, .int 0, .int 0, .int 0])))) (st2 := [.int 1, .int 1]) (pc' := 124) rfl rfl rfl rfl (sm_run.to (fm_type_3 (((xs 1).toUInt32 % 65536).toInt32) h1 h2) (by decide)) ?_
  refine rn_p (pc' := 450) (lv' := [(3, .int 0), (2, .ref 42), (1, .ref 0), (0, .float 0)]) (st' := []) rfl rfl ?_
  exact lw_end xs _
set_option maxRecDepth 20000 in
theorem lw_c1 (xs : Nat → Int32) (h0 : xs 0 &&& 15 = 1)  : sm_run (some (5, xs)) 60 0 18 [(3, .int 0), (2, .ref 42), (1, .ref 0), (0, .float 0)] [] hp0 (some (.int 1), hp0) := by
  refine rn_p (pc' := 19) (lv' := [(3, .int 0), (2, .ref 42), (1, .ref 0), (0, .float 0)]) (st' := [.int 0]) rfl rfl ?_
  refine rn_p (pc' := 20) (lv' := [(3, .int 0), (2, .ref 42), (1, .ref 0), (0, .float 0)]) (st' := [.float 0, .int 0]) rfl rfl ?_
  refine rn_p (pc' := 21) (lv' := [(3, .int 0), (2, .ref 42), (1, .ref 0), (0, .float 0)]) (st' := [.int 5, .int 0]) rfl rfl ?_
  refine rn_p (pc' := 22) (lv' := [(3, .int 0), (2, .ref 42), (1, .ref 0), (0, .float 0)]) (st' := [.int 5, .int 5, .int 0]) rfl rfl ?_
  refine rn_isub (v := 0) (pc' := 23) rfl (by decide) rfl ?_
  refine rn_p (pc' := 26) (lv' := [(3, .int 0), (2, .ref 42), (1, .ref 0), (0, .float 0)]) (st' := []) rfl rfl ?_
  refine rn_p (pc' := 27) (lv' := [(3, .int 0), (2, .ref 42), (1, .ref 0), (0, .float 0)]) (st' := [.float 0]) rfl rfl ?_
  refine rn_p (pc' := 28) (lv' := [(3, .int 0), (2, .ref 42), (1, .ref 0), (0, .float 0)]) (st' := [.int 0, .float 0]) rfl rfl ?_
  refine rn_x (j := 0) (pc' := 29) rfl rfl (by decide) (by decide) rfl ?_
  refine rn_p (pc' := 31) (lv' := [(3, .int 0), (2, .ref 42), (1, .ref 0), (0, .float 0)]) (st' := [.int 15, .int (xs 0)]) rfl rfl ?_
  refine rn_iand (v := 1) (pc' := 32) rfl h0 rfl ?_
  refine rn_ts (off := 97) (pc' := 129) rfl (by decide) (by decide) (by decide) ?_
  refine rn_p (pc' := 130) (lv' := [(3, .int 0), (2, .ref 42), (1, .ref 0), (0, .float 0)]) (st' := [.ref 0]) rfl rfl ?_
  refine rn_cv (As := [.ref 0]) (r := []) (v := (some (.int 0))) (g := hp0) (st2 := [.int 0]) (pc' := 133) rfl rfl rfl rfl (sm_run.to ⟨100, ev_3⟩ (by decide)) ?_
  refine rn_p (pc' := 134) (lv' := [(3, .int 0), (2, .ref 42), (1, .ref 0), (0, .float 0)]) (st' := [.ref 42, .int 0]) rfl rfl ?_
  refine rn_cv (As := [.ref 42]) (r := [.int 0]) (v := (some (.int 0))) (g := hp0) (st2 := [.int 0, .int 0]) (pc' := 137) rfl rfl rfl rfl (sm_run.to ⟨100, ev_133⟩ (by decide)) ?_
  refine rn_p (pc' := 450) (lv' := [(3, .int 0), (2, .ref 42), (1, .ref 0), (0, .float 0)]) (st' := []) rfl rfl ?_
  exact lw_end xs _
set_option maxRecDepth 20000 in
theorem lw_c2 (xs : Nat → Int32) (h0 : xs 0 &&& 15 = 2)  : sm_run (some (5, xs)) 60 0 18 [(3, .int 0), (2, .ref 42), (1, .ref 0), (0, .float 0)] [] hp0 (some (.int 1), hr2) := by
  refine rn_p (pc' := 19) (lv' := [(3, .int 0), (2, .ref 42), (1, .ref 0), (0, .float 0)]) (st' := [.int 0]) rfl rfl ?_
  refine rn_p (pc' := 20) (lv' := [(3, .int 0), (2, .ref 42), (1, .ref 0), (0, .float 0)]) (st' := [.float 0, .int 0]) rfl rfl ?_
  refine rn_p (pc' := 21) (lv' := [(3, .int 0), (2, .ref 42), (1, .ref 0), (0, .float 0)]) (st' := [.int 5, .int 0]) rfl rfl ?_
  refine rn_p (pc' := 22) (lv' := [(3, .int 0), (2, .ref 42), (1, .ref 0), (0, .float 0)]) (st' := [.int 5, .int 5, .int 0]) rfl rfl ?_
  refine rn_isub (v := 0) (pc' := 23) rfl (by decide) rfl ?_
  refine rn_p (pc' := 26) (lv' := [(3, .int 0), (2, .ref 42), (1, .ref 0), (0, .float 0)]) (st' := []) rfl rfl ?_
  refine rn_p (pc' := 27) (lv' := [(3, .int 0), (2, .ref 42), (1, .ref 0), (0, .float 0)]) (st' := [.float 0]) rfl rfl ?_
  refine rn_p (pc' := 28) (lv' := [(3, .int 0), (2, .ref 42), (1, .ref 0), (0, .float 0)]) (st' := [.int 0, .float 0]) rfl rfl ?_
  refine rn_x (j := 0) (pc' := 29) rfl rfl (by decide) (by decide) rfl ?_
  refine rn_p (pc' := 31) (lv' := [(3, .int 0), (2, .ref 42), (1, .ref 0), (0, .float 0)]) (st' := [.int 15, .int (xs 0)]) rfl rfl ?_
  refine rn_iand (v := 2) (pc' := 32) rfl h0 rfl ?_
  refine rn_ts (off := 110) (pc' := 142) rfl (by decide) (by decide) (by decide) ?_
  refine rn_p (pc' := 143) (lv' := [(3, .int 0), (2, .ref 42), (1, .ref 0), (0, .float 0)]) (st' := [.ref 0]) rfl rfl ?_
  refine rn_cv (As := [.ref 0]) (r := []) (v := (some (.int 1))) (g := hr1) (st2 := [.int 1]) (pc' := 146) rfl rfl rfl rfl (sm_run.to ⟨400, ev_4⟩ (by decide)) ?_
  refine rn_p (pc' := 147) (lv' := [(3, .int 0), (2, .ref 42), (1, .ref 0), (0, .float 0)]) (st' := [.ref 42, .int 1]) rfl rfl ?_
  refine rn_cv (As := [.ref 42]) (r := [.int 1]) (v := (some (.int 1))) (g := hr2) (st2 := [.int 1, .int 1]) (pc' := 150) rfl rfl rfl rfl (sm_run.to ⟨400, ev_166⟩ (by decide)) ?_
  refine rn_p (pc' := 450) (lv' := [(3, .int 0), (2, .ref 42), (1, .ref 0), (0, .float 0)]) (st' := []) rfl rfl ?_
  exact lw_end xs _
set_option maxRecDepth 20000 in
theorem lw_c3 (xs : Nat → Int32) (h0 : xs 0 &&& 15 = 3)  : sm_run (some (5, xs)) 60 0 18 [(3, .int 0), (2, .ref 42), (1, .ref 0), (0, .float 0)] [] hp0 (some (.int 1), hp0) := by
  refine rn_p (pc' := 19) (lv' := [(3, .int 0), (2, .ref 42), (1, .ref 0), (0, .float 0)]) (st' := [.int 0]) rfl rfl ?_
  refine rn_p (pc' := 20) (lv' := [(3, .int 0), (2, .ref 42), (1, .ref 0), (0, .float 0)]) (st' := [.float 0, .int 0]) rfl rfl ?_
  refine rn_p (pc' := 21) (lv' := [(3, .int 0), (2, .ref 42), (1, .ref 0), (0, .float 0)]) (st' := [.int 5, .int 0]) rfl rfl ?_
  refine rn_p (pc' := 22) (lv' := [(3, .int 0), (2, .ref 42), (1, .ref 0), (0, .float 0)]) (st' := [.int 5, .int 5, .int 0]) rfl rfl ?_
  refine rn_isub (v := 0) (pc' := 23) rfl (by decide) rfl ?_
  refine rn_p (pc' := 26) (lv' := [(3, .int 0), (2, .ref 42), (1, .ref 0), (0, .float 0)]) (st' := []) rfl rfl ?_
  refine rn_p (pc' := 27) (lv' := [(3, .int 0), (2, .ref 42), (1, .ref 0), (0, .float 0)]) (st' := [.float 0]) rfl rfl ?_
  refine rn_p (pc' := 28) (lv' := [(3, .int 0), (2, .ref 42), (1, .ref 0), (0, .float 0)]) (st' := [.int 0, .float 0]) rfl rfl ?_
  refine rn_x (j := 0) (pc' := 29) rfl rfl (by decide) (by decide) rfl ?_
  refine rn_p (pc' := 31) (lv' := [(3, .int 0), (2, .ref 42), (1, .ref 0), (0, .float 0)]) (st' := [.int 15, .int (xs 0)]) rfl rfl ?_
  refine rn_iand (v := 3) (pc' := 32) rfl h0 rfl ?_
  refine rn_ts (off := 123) (pc' := 155) rfl (by decide) (by decide) (by decide) ?_
  refine rn_p (pc' := 156) (lv' := [(3, .int 0), (2, .ref 42), (1, .ref 0), (0, .float 0)]) (st' := [.ref 0]) rfl rfl ?_
  refine rn_cv (As := [.ref 0]) (r := []) (v := (some (.int 0))) (g := hp0) (st2 := [.int 0]) (pc' := 159) rfl rfl rfl rfl (sm_run.to ⟨100, ev_5⟩ (by decide)) ?_
  refine rn_p (pc' := 160) (lv' := [(3, .int 0), (2, .ref 42), (1, .ref 0), (0, .float 0)]) (st' := [.ref 42, .int 0]) rfl rfl ?_
  refine rn_cv (As := [.ref 42]) (r := [.int 0]) (v := (some (.int 0))) (g := hp0) (st2 := [.int 0, .int 0]) (pc' := 163) rfl rfl rfl rfl (sm_run.to ⟨100, ev_134⟩ (by decide)) ?_
  refine rn_p (pc' := 450) (lv' := [(3, .int 0), (2, .ref 42), (1, .ref 0), (0, .float 0)]) (st' := []) rfl rfl ?_
  exact lw_end xs _
set_option maxRecDepth 20000 in
theorem lw_c4 (xs : Nat → Int32) (h0 : xs 0 &&& 15 = 4)  : sm_run (some (5, xs)) 60 0 18 [(3, .int 0), (2, .ref 42), (1, .ref 0), (0, .float 0)] [] hp0 (some (.int 1), hp0) := by
  refine rn_p (pc' := 19) (lv' := [(3, .int 0), (2, .ref 42), (1, .ref 0), (0, .float 0)]) (st' := [.int 0]) rfl rfl ?_
  refine rn_p (pc' := 20) (lv' := [(3, .int 0), (2, .ref 42), (1, .ref 0), (0, .float 0)]) (st' := [.float 0, .int 0]) rfl rfl ?_
  refine rn_p (pc' := 21) (lv' := [(3, .int 0), (2, .ref 42), (1, .ref 0), (0, .float 0)]) (st' := [.int 5, .int 0]) rfl rfl ?_
  refine rn_p (pc' := 22) (lv' := [(3, .int 0), (2, .ref 42), (1, .ref 0), (0, .float 0)]) (st' := [.int 5, .int 5, .int 0]) rfl rfl ?_
  refine rn_isub (v := 0) (pc' := 23) rfl (by decide) rfl ?_
  refine rn_p (pc' := 26) (lv' := [(3, .int 0), (2, .ref 42), (1, .ref 0), (0, .float 0)]) (st' := []) rfl rfl ?_
  refine rn_p (pc' := 27) (lv' := [(3, .int 0), (2, .ref 42), (1, .ref 0), (0, .float 0)]) (st' := [.float 0]) rfl rfl ?_
  refine rn_p (pc' := 28) (lv' := [(3, .int 0), (2, .ref 42), (1, .ref 0), (0, .float 0)]) (st' := [.int 0, .float 0]) rfl rfl ?_
  refine rn_x (j := 0) (pc' := 29) rfl rfl (by decide) (by decide) rfl ?_
  refine rn_p (pc' := 31) (lv' := [(3, .int 0), (2, .ref 42), (1, .ref 0), (0, .float 0)]) (st' := [.int 15, .int (xs 0)]) rfl rfl ?_
  refine rn_iand (v := 4) (pc' := 32) rfl h0 rfl ?_
  refine rn_ts (off := 136) (pc' := 168) rfl (by decide) (by decide) (by decide) ?_
  refine rn_p (pc' := 169) (lv' := [(3, .int 0), (2, .ref 42), (1, .ref 0), (0, .float 0)]) (st' := [.ref 0]) rfl rfl ?_
  refine rn_cv (As := [.ref 0]) (r := []) (v := (some (.int 0))) (g := hp0) (st2 := [.int 0]) (pc' := 172) rfl rfl rfl rfl (sm_run.to ⟨100, ev_6⟩ (by decide)) ?_
  refine rn_p (pc' := 173) (lv' := [(3, .int 0), (2, .ref 42), (1, .ref 0), (0, .float 0)]) (st' := [.ref 42, .int 0]) rfl rfl ?_
  refine rn_cv (As := [.ref 42]) (r := [.int 0]) (v := (some (.int 0))) (g := hp0) (st2 := [.int 0, .int 0]) (pc' := 176) rfl rfl rfl rfl (sm_run.to ⟨100, ev_187⟩ (by decide)) ?_
  refine rn_p (pc' := 450) (lv' := [(3, .int 0), (2, .ref 42), (1, .ref 0), (0, .float 0)]) (st' := []) rfl rfl ?_
  exact lw_end xs _
set_option maxRecDepth 20000 in
theorem lw_c5 (xs : Nat → Int32) (h0 : xs 0 &&& 15 = 5)  : sm_run (some (5, xs)) 60 0 18 [(3, .int 0), (2, .ref 42), (1, .ref 0), (0, .float 0)] [] hp0 (some (.int 1), hp0) := by
  refine rn_p (pc' := 19) (lv' := [(3, .int 0), (2, .ref 42), (1, .ref 0), (0, .float 0)]) (st' := [.int 0]) rfl rfl ?_
  refine rn_p (pc' := 20) (lv' := [(3, .int 0), (2, .ref 42), (1, .ref 0), (0, .float 0)]) (st' := [.float 0, .int 0]) rfl rfl ?_
  refine rn_p (pc' := 21) (lv' := [(3, .int 0), (2, .ref 42), (1, .ref 0), (0, .float 0)]) (st' := [.int 5, .int 0]) rfl rfl ?_
  refine rn_p (pc' := 22) (lv' := [(3, .int 0), (2, .ref 42), (1, .ref 0), (0, .float 0)]) (st' := [.int 5, .int 5, .int 0]) rfl rfl ?_
  refine rn_isub (v := 0) (pc' := 23) rfl (by decide) rfl ?_
  refine rn_p (pc' := 26) (lv' := [(3, .int 0), (2, .ref 42), (1, .ref 0), (0, .float 0)]) (st' := []) rfl rfl ?_
  refine rn_p (pc' := 27) (lv' := [(3, .int 0), (2, .ref 42), (1, .ref 0), (0, .float 0)]) (st' := [.float 0]) rfl rfl ?_
  refine rn_p (pc' := 28) (lv' := [(3, .int 0), (2, .ref 42), (1, .ref 0), (0, .float 0)]) (st' := [.int 0, .float 0]) rfl rfl ?_
  refine rn_x (j := 0) (pc' := 29) rfl rfl (by decide) (by decide) rfl ?_
  refine rn_p (pc' := 31) (lv' := [(3, .int 0), (2, .ref 42), (1, .ref 0), (0, .float 0)]) (st' := [.int 15, .int (xs 0)]) rfl rfl ?_
  refine rn_iand (v := 5) (pc' := 32) rfl h0 rfl ?_
  refine rn_ts (off := 149) (pc' := 181) rfl (by decide) (by decide) (by decide) ?_
  refine rn_p (pc' := 182) (lv' := [(3, .int 0), (2, .ref 42), (1, .ref 0), (0, .float 0)]) (st' := [.ref 0]) rfl rfl ?_
  refine rn_cv (As := [.ref 0]) (r := []) (v := (some (.int 0))) (g := hp0) (st2 := [.int 0]) (pc' := 185) rfl rfl rfl rfl (sm_run.to ⟨100, ev_7⟩ (by decide)) ?_
  refine rn_p (pc' := 186) (lv' := [(3, .int 0), (2, .ref 42), (1, .ref 0), (0, .float 0)]) (st' := [.ref 42, .int 0]) rfl rfl ?_
  refine rn_cv (As := [.ref 42]) (r := [.int 0]) (v := (some (.int 0))) (g := hp0) (st2 := [.int 0, .int 0]) (pc' := 189) rfl rfl rfl rfl (sm_run.to ⟨100, ev_188⟩ (by decide)) ?_
  refine rn_p (pc' := 450) (lv' := [(3, .int 0), (2, .ref 42), (1, .ref 0), (0, .float 0)]) (st' := []) rfl rfl ?_
  exact lw_end xs _
set_option maxRecDepth 20000 in
theorem lw_c6 (xs : Nat → Int32) (h0 : xs 0 &&& 15 = 6)  : sm_run (some (5, xs)) 60 0 18 [(3, .int 0), (2, .ref 42), (1, .ref 0), (0, .float 0)] [] hp0 (some (.int 1), hp0) := by
  refine rn_p (pc' := 19) (lv' := [(3, .int 0), (2, .ref 42), (1, .ref 0), (0, .float 0)]) (st' := [.int 0]) rfl rfl ?_
  refine rn_p (pc' := 20) (lv' := [(3, .int 0), (2, .ref 42), (1, .ref 0), (0, .float 0)]) (st' := [.float 0, .int 0]) rfl rfl ?_
  refine rn_p (pc' := 21) (lv' := [(3, .int 0), (2, .ref 42), (1, .ref 0), (0, .float 0)]) (st' := [.int 5, .int 0]) rfl rfl ?_
  refine rn_p (pc' := 22) (lv' := [(3, .int 0), (2, .ref 42), (1, .ref 0), (0, .float 0)]) (st' := [.int 5, .int 5, .int 0]) rfl rfl ?_
  refine rn_isub (v := 0) (pc' := 23) rfl (by decide) rfl ?_
  refine rn_p (pc' := 26) (lv' := [(3, .int 0), (2, .ref 42), (1, .ref 0), (0, .float 0)]) (st' := []) rfl rfl ?_
  refine rn_p (pc' := 27) (lv' := [(3, .int 0), (2, .ref 42), (1, .ref 0), (0, .float 0)]) (st' := [.float 0]) rfl rfl ?_
  refine rn_p (pc' := 28) (lv' := [(3, .int 0), (2, .ref 42), (1, .ref 0), (0, .float 0)]) (st' := [.int 0, .float 0]) rfl rfl ?_
  refine rn_x (j := 0) (pc' := 29) rfl rfl (by decide) (by decide) rfl ?_
  refine rn_p (pc' := 31) (lv' := [(3, .int 0), (2, .ref 42), (1, .ref 0), (0, .float 0)]) (st' := [.int 15, .int (xs 0)]) rfl rfl ?_
  refine rn_iand (v := 6) (pc' := 32) rfl h0 rfl ?_
  refine rn_ts (off := 162) (pc' := 194) rfl (by decide) (by decide) (by decide) ?_
  refine rn_p (pc' := 195) (lv' := [(3, .int 0), (2, .ref 42), (1, .ref 0), (0, .float 0)]) (st' := [.ref 0]) rfl rfl ?_
  refine rn_p (pc' := 196) (lv' := [(3, .int 0), (2, .ref 42), (1, .ref 0), (0, .float 0)]) (st' := [.float 0, .ref 0]) rfl rfl ?_
  refine rn_p (pc' := 197) (lv' := [(3, .int 0), (2, .ref 42), (1, .ref 0), (0, .float 0)]) (st' := [.int 0, .float 0, .ref 0]) rfl rfl ?_
  refine rn_p (pc' := 198) (lv' := [(3, .int 0), (2, .ref 42), (1, .ref 0), (0, .float 0)]) (st' := [.int 1, .int 0, .float 0, .ref 0]) rfl rfl ?_
  refine rn_iadd (v := 1) (pc' := 199) rfl (by decide) rfl ?_
  refine rn_x (j := 1) (pc' := 200) rfl rfl (by decide) (by decide) rfl ?_
  refine rn_p (pc' := 201) (lv' := [(3, .int 0), (2, .ref 42), (1, .ref 0), (0, .float 0)]) (st' := [.float 0, .int (xs 1), .ref 0]) rfl rfl ?_
  refine rn_p (pc' := 202) (lv' := [(3, .int 0), (2, .ref 42), (1, .ref 0), (0, .float 0)]) (st' := [.int 0, .float 0, .int (xs 1), .ref 0]) rfl rfl ?_
  refine rn_p (pc' := 203) (lv' := [(3, .int 0), (2, .ref 42), (1, .ref 0), (0, .float 0)]) (st' := [.int 2, .int 0, .float 0, .int (xs 1), .ref 0]) rfl rfl ?_
  refine rn_iadd (v := 2) (pc' := 204) rfl (by decide) rfl ?_
  refine rn_x (j := 2) (pc' := 205) rfl rfl (by decide) (by decide) rfl ?_
  refine rn_cv (As := [.ref 0, .int (xs 1), .int (xs 2)]) (r := []) (v := (some (.long 2199023255552))) (g := hp0) (st2 := [.long 2199023255552]) (pc' := 208) rfl rfl rfl rfl (sm_run.to (fx_value (xs 1) (xs 2)) (by decide)) ?_
  refine rn_p (pc' := 209) (lv' := [(3, .int 0), (2, .ref 42), (1, .ref 0), (0, .float 0)]) (st' := [.ref 42, .long 2199023255552]) rfl rfl ?_
  refine rn_p (pc' := 210) (lv' := [(3, .int 0), (2, .ref 42), (1, .ref 0), (0, .float 0)]) (st' := [.float 0, .ref 42, .long 2199023255552]) rfl rfl ?_
  refine rn_p (pc' := 211) (lv' := [(3, .int 0), (2, .ref 42), (1, .ref 0), (0, .float 0)]) (st' := [.int 0, .float 0, .ref 42, .long 2199023255552]) rfl rfl ?_
  refine rn_p (pc' := 212) (lv' := [(3, .int 0), (2, .ref 42), (1, .ref 0), (0, .float 0)]) (st' := [.int 1, .int 0, .float 0, .ref 42, .long 2199023255552]) rfl rfl ?_
  refine rn_iadd (v := 1) (pc' := 213) rfl (by decide) rfl ?_
  refine rn_x (j := 1) (pc' := 214) rfl rfl (by decide) (by decide) rfl ?_
  refine rn_p (pc' := 215) (lv' := [(3, .int 0), (2, .ref 42), (1, .ref 0), (0, .float 0)]) (st' := [.float 0, .int (xs 1), .ref 42, .long 2199023255552]) rfl rfl ?_
  refine rn_p (pc' := 216) (lv' := [(3, .int 0), (2, .ref 42), (1, .ref 0), (0, .float 0)]) (st' := [.int 0, .float 0, .int (xs 1), .ref 42, .long 2199023255552]) rfl rfl ?_
  refine rn_p (pc' := 217) (lv' := [(3, .int 0), (2, .ref 42), (1, .ref 0), (0, .float 0)]) (st' := [.int 2, .int 0, .float 0, .int (xs 1), .ref 42, .long 2199023255552]) rfl rfl ?_
  refine rn_iadd (v := 2) (pc' := 218) rfl (by decide) rfl ?_
  refine rn_x (j := 2) (pc' := 219) rfl rfl (by decide) (by decide) rfl ?_
  refine rn_cv (As := [.ref 42, .int (xs 1), .int (xs 2)]) (r := [.long 2199023255552]) (v := (some (.long 2199023255552))) (g := hp0) (st2 := [.long 2199023255552, .long 2199023255552]) (pc' := 222) rfl rfl rfl rfl (sm_run.to (fm_value (xs 1) (xs 2)) (by decide)) ?_
  refine rn_lcmp (v := 0) (pc' := 223) rfl (by decide) rfl ?_
  refine rn_p (pc' := 450) (lv' := [(3, .int 0), (2, .ref 42), (1, .ref 0), (0, .float 0)]) (st' := []) rfl rfl ?_
  exact lw_end xs _
set_option maxRecDepth 20000 in
theorem lw_c7 (xs : Nat → Int32) (h0 : xs 0 &&& 15 = 7)  : sm_run (some (5, xs)) 60 0 18 [(3, .int 0), (2, .ref 42), (1, .ref 0), (0, .float 0)] [] hp0 (some (.int 1), hp0) := by
  refine rn_p (pc' := 19) (lv' := [(3, .int 0), (2, .ref 42), (1, .ref 0), (0, .float 0)]) (st' := [.int 0]) rfl rfl ?_
  refine rn_p (pc' := 20) (lv' := [(3, .int 0), (2, .ref 42), (1, .ref 0), (0, .float 0)]) (st' := [.float 0, .int 0]) rfl rfl ?_
  refine rn_p (pc' := 21) (lv' := [(3, .int 0), (2, .ref 42), (1, .ref 0), (0, .float 0)]) (st' := [.int 5, .int 0]) rfl rfl ?_
  refine rn_p (pc' := 22) (lv' := [(3, .int 0), (2, .ref 42), (1, .ref 0), (0, .float 0)]) (st' := [.int 5, .int 5, .int 0]) rfl rfl ?_
  refine rn_isub (v := 0) (pc' := 23) rfl (by decide) rfl ?_
  refine rn_p (pc' := 26) (lv' := [(3, .int 0), (2, .ref 42), (1, .ref 0), (0, .float 0)]) (st' := []) rfl rfl ?_
  refine rn_p (pc' := 27) (lv' := [(3, .int 0), (2, .ref 42), (1, .ref 0), (0, .float 0)]) (st' := [.float 0]) rfl rfl ?_
  refine rn_p (pc' := 28) (lv' := [(3, .int 0), (2, .ref 42), (1, .ref 0), (0, .float 0)]) (st' := [.int 0, .float 0]) rfl rfl ?_
  refine rn_x (j := 0) (pc' := 29) rfl rfl (by decide) (by decide) rfl ?_
  refine rn_p (pc' := 31) (lv' := [(3, .int 0), (2, .ref 42), (1, .ref 0), (0, .float 0)]) (st' := [.int 15, .int (xs 0)]) rfl rfl ?_
  refine rn_iand (v := 7) (pc' := 32) rfl h0 rfl ?_
  refine rn_ts (off := 196) (pc' := 228) rfl (by decide) (by decide) (by decide) ?_
  refine rn_p (pc' := 229) (lv' := [(3, .int 0), (2, .ref 42), (1, .ref 0), (0, .float 0)]) (st' := [.ref 0]) rfl rfl ?_
  refine rn_cv (As := [.ref 0]) (r := []) (v := (some (.int 0))) (g := hp0) (st2 := [.int 0]) (pc' := 232) rfl rfl rfl rfl (sm_run.to ⟨100, ev_9⟩ (by decide)) ?_
  refine rn_p (pc' := 233) (lv' := [(3, .int 0), (2, .ref 42), (1, .ref 0), (0, .float 0)]) (st' := [.ref 42, .int 0]) rfl rfl ?_
  refine rn_cv (As := [.ref 42]) (r := [.int 0]) (v := (some (.int 0))) (g := hp0) (st2 := [.int 0, .int 0]) (pc' := 236) rfl rfl rfl rfl (sm_run.to ⟨100, ev_190⟩ (by decide)) ?_
  refine rn_p (pc' := 450) (lv' := [(3, .int 0), (2, .ref 42), (1, .ref 0), (0, .float 0)]) (st' := []) rfl rfl ?_
  exact lw_end xs _
set_option maxRecDepth 20000 in
theorem lw_c8 (xs : Nat → Int32) (h0 : xs 0 &&& 15 = 8)  : sm_run (some (5, xs)) 60 0 18 [(3, .int 0), (2, .ref 42), (1, .ref 0), (0, .float 0)] [] hp0 (some (.int 1), hp0) := by
  refine rn_p (pc' := 19) (lv' := [(3, .int 0), (2, .ref 42), (1, .ref 0), (0, .float 0)]) (st' := [.int 0]) rfl rfl ?_
  refine rn_p (pc' := 20) (lv' := [(3, .int 0), (2, .ref 42), (1, .ref 0), (0, .float 0)]) (st' := [.float 0, .int 0]) rfl rfl ?_
  refine rn_p (pc' := 21) (lv' := [(3, .int 0), (2, .ref 42), (1, .ref 0), (0, .float 0)]) (st' := [.int 5, .int 0]) rfl rfl ?_
  refine rn_p (pc' := 22) (lv' := [(3, .int 0), (2, .ref 42), (1, .ref 0), (0, .float 0)]) (st' := [.int 5, .int 5, .int 0]) rfl rfl ?_
  refine rn_isub (v := 0) (pc' := 23) rfl (by decide) rfl ?_
  refine rn_p (pc' := 26) (lv' := [(3, .int 0), (2, .ref 42), (1, .ref 0), (0, .float 0)]) (st' := []) rfl rfl ?_
  refine rn_p (pc' := 27) (lv' := [(3, .int 0), (2, .ref 42), (1, .ref 0), (0, .float 0)]) (st' := [.float 0]) rfl rfl ?_
  refine rn_p (pc' := 28) (lv' := [(3, .int 0), (2, .ref 42), (1, .ref 0), (0, .float 0)]) (st' := [.int 0, .float 0]) rfl rfl ?_
  refine rn_x (j := 0) (pc' := 29) rfl rfl (by decide) (by decide) rfl ?_
  refine rn_p (pc' := 31) (lv' := [(3, .int 0), (2, .ref 42), (1, .ref 0), (0, .float 0)]) (st' := [.int 15, .int (xs 0)]) rfl rfl ?_
  refine rn_iand (v := 8) (pc' := 32) rfl h0 rfl ?_
  refine rn_ts (off := 209) (pc' := 241) rfl (by decide) (by decide) (by decide) ?_
  refine rn_p (pc' := 242) (lv' := [(3, .int 0), (2, .ref 42), (1, .ref 0), (0, .float 0)]) (st' := [.ref 0]) rfl rfl ?_
  refine rn_cv (As := [.ref 0]) (r := []) (v := (some (.int 0))) (g := hp0) (st2 := [.int 0]) (pc' := 245) rfl rfl rfl rfl (sm_run.to ⟨100, ev_10⟩ (by decide)) ?_
  refine rn_p (pc' := 246) (lv' := [(3, .int 0), (2, .ref 42), (1, .ref 0), (0, .float 0)]) (st' := [.ref 42, .int 0]) rfl rfl ?_
  refine rn_cv (As := [.ref 42]) (r := [.int 0]) (v := (some (.int 0))) (g := hp0) (st2 := [.int 0, .int 0]) (pc' := 249) rfl rfl rfl rfl (sm_run.to ⟨100, ev_191⟩ (by decide)) ?_
  refine rn_p (pc' := 450) (lv' := [(3, .int 0), (2, .ref 42), (1, .ref 0), (0, .float 0)]) (st' := []) rfl rfl ?_
  exact lw_end xs _
set_option maxRecDepth 20000 in
theorem lw_c9 (xs : Nat → Int32) (h0 : xs 0 &&& 15 = 9)  : sm_run (some (5, xs)) 60 0 18 [(3, .int 0), (2, .ref 42), (1, .ref 0), (0, .float 0)] [] hp0 (some (.int 1), hp0) := by
  refine rn_p (pc' := 19) (lv' := [(3, .int 0), (2, .ref 42), (1, .ref 0), (0, .float 0)]) (st' := [.int 0]) rfl rfl ?_
  refine rn_p (pc' := 20) (lv' := [(3, .int 0), (2, .ref 42), (1, .ref 0), (0, .float 0)]) (st' := [.float 0, .int 0]) rfl rfl ?_
  refine rn_p (pc' := 21) (lv' := [(3, .int 0), (2, .ref 42), (1, .ref 0), (0, .float 0)]) (st' := [.int 5, .int 0]) rfl rfl ?_
  refine rn_p (pc' := 22) (lv' := [(3, .int 0), (2, .ref 42), (1, .ref 0), (0, .float 0)]) (st' := [.int 5, .int 5, .int 0]) rfl rfl ?_
  refine rn_isub (v := 0) (pc' := 23) rfl (by decide) rfl ?_
  refine rn_p (pc' := 26) (lv' := [(3, .int 0), (2, .ref 42), (1, .ref 0), (0, .float 0)]) (st' := []) rfl rfl ?_
  refine rn_p (pc' := 27) (lv' := [(3, .int 0), (2, .ref 42), (1, .ref 0), (0, .float 0)]) (st' := [.float 0]) rfl rfl ?_
  refine rn_p (pc' := 28) (lv' := [(3, .int 0), (2, .ref 42), (1, .ref 0), (0, .float 0)]) (st' := [.int 0, .float 0]) rfl rfl ?_
  refine rn_x (j := 0) (pc' := 29) rfl rfl (by decide) (by decide) rfl ?_
  refine rn_p (pc' := 31) (lv' := [(3, .int 0), (2, .ref 42), (1, .ref 0), (0, .float 0)]) (st' := [.int 15, .int (xs 0)]) rfl rfl ?_
  refine rn_iand (v := 9) (pc' := 32) rfl h0 rfl ?_
  refine rn_ts (off := 222) (pc' := 254) rfl (by decide) (by decide) (by decide) ?_
  refine rn_p (pc' := 255) (lv' := [(3, .int 0), (2, .ref 42), (1, .ref 0), (0, .float 0)]) (st' := [.ref 0]) rfl rfl ?_
  refine rn_p (pc' := 256) (lv' := [(3, .int 0), (2, .ref 42), (1, .ref 0), (0, .float 0)]) (st' := [.float 0, .ref 0]) rfl rfl ?_
  refine rn_p (pc' := 257) (lv' := [(3, .int 0), (2, .ref 42), (1, .ref 0), (0, .float 0)]) (st' := [.int 0, .float 0, .ref 0]) rfl rfl ?_
  refine rn_p (pc' := 258) (lv' := [(3, .int 0), (2, .ref 42), (1, .ref 0), (0, .float 0)]) (st' := [.int 1, .int 0, .float 0, .ref 0]) rfl rfl ?_
  refine rn_iadd (v := 1) (pc' := 259) rfl (by decide) rfl ?_
  refine rn_x (j := 1) (pc' := 260) rfl rfl (by decide) (by decide) rfl ?_
  refine rn_cv (As := [.ref 0, .int (xs 1)]) (r := []) (v := (some (.int 0))) (g := hp0) (st2 := [.int 0]) (pc' := 263) rfl rfl rfl rfl (sm_run.to (fx_columns (xs 1)) (by decide)) ?_
  refine rn_p (pc' := 264) (lv' := [(3, .int 0), (2, .ref 42), (1, .ref 0), (0, .float 0)]) (st' := [.ref 42, .int 0]) rfl rfl ?_
  refine rn_p (pc' := 265) (lv' := [(3, .int 0), (2, .ref 42), (1, .ref 0), (0, .float 0)]) (st' := [.float 0, .ref 42, .int 0]) rfl rfl ?_
  refine rn_p (pc' := 266) (lv' := [(3, .int 0), (2, .ref 42), (1, .ref 0), (0, .float 0)]) (st' := [.int 0, .float 0, .ref 42, .int 0]) rfl rfl ?_
  refine rn_p (pc' := 267) (lv' := [(3, .int 0), (2, .ref 42), (1, .ref 0), (0, .float 0)]) (st' := [.int 1, .int 0, .float 0, .ref 42, .int 0]) rfl rfl ?_
  refine rn_iadd (v := 1) (pc' := 268) rfl (by decide) rfl ?_
  refine rn_x (j := 1) (pc' := 269) rfl rfl (by decide) (by decide) rfl ?_
  refine rn_cv (As := [.ref 42, .int (xs 1)]) (r := [.int 0]) (v := (some (.int 0))) (g := hp0) (st2 := [.int 0, .int 0]) (pc' := 272) rfl rfl rfl rfl (sm_run.to (fm_columns (xs 1)) (by decide)) ?_
  refine rn_p (pc' := 450) (lv' := [(3, .int 0), (2, .ref 42), (1, .ref 0), (0, .float 0)]) (st' := []) rfl rfl ?_
  exact lw_end xs _
set_option maxRecDepth 20000 in
theorem lw_c10 (xs : Nat → Int32) (h0 : xs 0 &&& 15 = 10)  : sm_run (some (5, xs)) 60 0 18 [(3, .int 0), (2, .ref 42), (1, .ref 0), (0, .float 0)] [] hp0 (some (.int 1), hp0) := by
  refine rn_p (pc' := 19) (lv' := [(3, .int 0), (2, .ref 42), (1, .ref 0), (0, .float 0)]) (st' := [.int 0]) rfl rfl ?_
  refine rn_p (pc' := 20) (lv' := [(3, .int 0), (2, .ref 42), (1, .ref 0), (0, .float 0)]) (st' := [.float 0, .int 0]) rfl rfl ?_
  refine rn_p (pc' := 21) (lv' := [(3, .int 0), (2, .ref 42), (1, .ref 0), (0, .float 0)]) (st' := [.int 5, .int 0]) rfl rfl ?_
  refine rn_p (pc' := 22) (lv' := [(3, .int 0), (2, .ref 42), (1, .ref 0), (0, .float 0)]) (st' := [.int 5, .int 5, .int 0]) rfl rfl ?_
  refine rn_isub (v := 0) (pc' := 23) rfl (by decide) rfl ?_
  refine rn_p (pc' := 26) (lv' := [(3, .int 0), (2, .ref 42), (1, .ref 0), (0, .float 0)]) (st' := []) rfl rfl ?_
  refine rn_p (pc' := 27) (lv' := [(3, .int 0), (2, .ref 42), (1, .ref 0), (0, .float 0)]) (st' := [.float 0]) rfl rfl ?_
  refine rn_p (pc' := 28) (lv' := [(3, .int 0), (2, .ref 42), (1, .ref 0), (0, .float 0)]) (st' := [.int 0, .float 0]) rfl rfl ?_
  refine rn_x (j := 0) (pc' := 29) rfl rfl (by decide) (by decide) rfl ?_
  refine rn_p (pc' := 31) (lv' := [(3, .int 0), (2, .ref 42), (1, .ref 0), (0, .float 0)]) (st' := [.int 15, .int (xs 0)]) rfl rfl ?_
  refine rn_iand (v := 10) (pc' := 32) rfl h0 rfl ?_
  refine rn_ts (off := 245) (pc' := 277) rfl (by decide) (by decide) (by decide) ?_
  refine rn_p (pc' := 278) (lv' := [(3, .int 0), (2, .ref 42), (1, .ref 0), (0, .float 0)]) (st' := [.ref 0]) rfl rfl ?_
  refine rn_p (pc' := 279) (lv' := [(3, .int 0), (2, .ref 42), (1, .ref 0), (0, .float 0)]) (st' := [.float 0, .ref 0]) rfl rfl ?_
  refine rn_p (pc' := 280) (lv' := [(3, .int 0), (2, .ref 42), (1, .ref 0), (0, .float 0)]) (st' := [.int 0, .float 0, .ref 0]) rfl rfl ?_
  refine rn_p (pc' := 281) (lv' := [(3, .int 0), (2, .ref 42), (1, .ref 0), (0, .float 0)]) (st' := [.int 1, .int 0, .float 0, .ref 0]) rfl rfl ?_
  refine rn_iadd (v := 1) (pc' := 282) rfl (by decide) rfl ?_
  refine rn_x (j := 1) (pc' := 283) rfl rfl (by decide) (by decide) rfl ?_
  refine rn_cv (As := [.ref 0, .int (xs 1)]) (r := []) (v := (some (.int 0))) (g := hp0) (st2 := [.int 0]) (pc' := 286) rfl rfl rfl rfl (sm_run.to (fx_size (xs 1)) (by decide)) ?_
  refine rn_p (pc' := 287) (lv' := [(3, .int 0), (2, .ref 42), (1, .ref 0), (0, .float 0)]) (st' := [.ref 42, .int 0]) rfl rfl ?_
  refine rn_p (pc' := 288) (lv' := [(3, .int 0), (2, .ref 42), (1, .ref 0), (0, .float 0)]) (st' := [.float 0, .ref 42, .int 0]) rfl rfl ?_
  refine rn_p (pc' := 289) (lv' := [(3, .int 0), (2, .ref 42), (1, .ref 0), (0, .float 0)]) (st' := [.int 0, .float 0, .ref 42, .int 0]) rfl rfl ?_
  refine rn_p (pc' := 290) (lv' := [(3, .int 0), (2, .ref 42), (1, .ref 0), (0, .float 0)]) (st' := [.int 1, .int 0, .float 0, .ref 42, .int 0]) rfl rfl ?_
  refine rn_iadd (v := 1) (pc' := 291) rfl (by decide) rfl ?_
  refine rn_x (j := 1) (pc' := 292) rfl rfl (by decide) (by decide) rfl ?_
  refine rn_cv (As := [.ref 42, .int (xs 1)]) (r := [.int 0]) (v := (some (.int 0))) (g := hp0) (st2 := [.int 0, .int 0]) (pc' := 295) rfl rfl rfl rfl (sm_run.to (fm_size (xs 1)) (by decide)) ?_
  refine rn_p (pc' := 450) (lv' := [(3, .int 0), (2, .ref 42), (1, .ref 0), (0, .float 0)]) (st' := []) rfl rfl ?_
  exact lw_end xs _
set_option maxRecDepth 20000 in
theorem lw_c11 (xs : Nat → Int32) (h0 : xs 0 &&& 15 = 11)  : sm_run (some (5, xs)) 60 0 18 [(3, .int 0), (2, .ref 42), (1, .ref 0), (0, .float 0)] [] hp0 (some (.int 1), hp0) := by
  refine rn_p (pc' := 19) (lv' := [(3, .int 0), (2, .ref 42), (1, .ref 0), (0, .float 0)]) (st' := [.int 0]) rfl rfl ?_
  refine rn_p (pc' := 20) (lv' := [(3, .int 0), (2, .ref 42), (1, .ref 0), (0, .float 0)]) (st' := [.float 0, .int 0]) rfl rfl ?_
  refine rn_p (pc' := 21) (lv' := [(3, .int 0), (2, .ref 42), (1, .ref 0), (0, .float 0)]) (st' := [.int 5, .int 0]) rfl rfl ?_
  refine rn_p (pc' := 22) (lv' := [(3, .int 0), (2, .ref 42), (1, .ref 0), (0, .float 0)]) (st' := [.int 5, .int 5, .int 0]) rfl rfl ?_
  refine rn_isub (v := 0) (pc' := 23) rfl (by decide) rfl ?_
  refine rn_p (pc' := 26) (lv' := [(3, .int 0), (2, .ref 42), (1, .ref 0), (0, .float 0)]) (st' := []) rfl rfl ?_
  refine rn_p (pc' := 27) (lv' := [(3, .int 0), (2, .ref 42), (1, .ref 0), (0, .float 0)]) (st' := [.float 0]) rfl rfl ?_
  refine rn_p (pc' := 28) (lv' := [(3, .int 0), (2, .ref 42), (1, .ref 0), (0, .float 0)]) (st' := [.int 0, .float 0]) rfl rfl ?_
  refine rn_x (j := 0) (pc' := 29) rfl rfl (by decide) (by decide) rfl ?_
  refine rn_p (pc' := 31) (lv' := [(3, .int 0), (2, .ref 42), (1, .ref 0), (0, .float 0)]) (st' := [.int 15, .int (xs 0)]) rfl rfl ?_
  refine rn_iand (v := 11) (pc' := 32) rfl h0 rfl ?_
  refine rn_ts (off := 268) (pc' := 300) rfl (by decide) (by decide) (by decide) ?_
  refine rn_p (pc' := 301) (lv' := [(3, .int 0), (2, .ref 42), (1, .ref 0), (0, .float 0)]) (st' := [.ref 0]) rfl rfl ?_
  refine rn_p (pc' := 302) (lv' := [(3, .int 0), (2, .ref 42), (1, .ref 0), (0, .float 0)]) (st' := [.float 0, .ref 0]) rfl rfl ?_
  refine rn_p (pc' := 303) (lv' := [(3, .int 0), (2, .ref 42), (1, .ref 0), (0, .float 0)]) (st' := [.int 0, .float 0, .ref 0]) rfl rfl ?_
  refine rn_p (pc' := 304) (lv' := [(3, .int 0), (2, .ref 42), (1, .ref 0), (0, .float 0)]) (st' := [.int 1, .int 0, .float 0, .ref 0]) rfl rfl ?_
  refine rn_iadd (v := 1) (pc' := 305) rfl (by decide) rfl ?_
  refine rn_x (j := 1) (pc' := 306) rfl rfl (by decide) (by decide) rfl ?_
  refine rn_p (pc' := 307) (lv' := [(3, .int 0), (2, .ref 42), (1, .ref 0), (0, .float 0)]) (st' := [.float 0, .int (xs 1), .ref 0]) rfl rfl ?_
  refine rn_p (pc' := 308) (lv' := [(3, .int 0), (2, .ref 42), (1, .ref 0), (0, .float 0)]) (st' := [.int 0, .float 0, .int (xs 1), .ref 0]) rfl rfl ?_
  refine rn_p (pc' := 309) (lv' := [(3, .int 0), (2, .ref 42), (1, .ref 0), (0, .float 0)]) (st' := [.int 2, .int 0, .float 0, .int (xs 1), .ref 0]) rfl rfl ?_
  refine rn_iadd (v := 2) (pc' := 310) rfl (by decide) rfl ?_
  refine rn_x (j := 2) (pc' := 311) rfl rfl (by decide) (by decide) rfl ?_
  refine rn_cv (As := [.ref 0, .int (xs 1), .int (xs 2)]) (r := []) (v := (some (.int 0))) (g := hp0) (st2 := [.int 0]) (pc' := 314) rfl rfl rfl rfl (sm_run.to (fx_indexed (xs 1) (xs 2)) (by decide)) ?_
  refine rn_p (pc' := 315) (lv' := [(3, .int 0), (2, .ref 42), (1, .ref 0), (0, .float 0)]) (st' := [.ref 42, .int 0]) rfl rfl ?_
  refine rn_p (pc' := 316) (lv' := [(3, .int 0), (2, .ref 42), (1, .ref 0), (0, .float 0)]) (st' := [.float 0, .ref 42, .int 0]) rfl rfl ?_
  refine rn_p (pc' := 317) (lv' := [(3, .int 0), (2, .ref 42), (1, .ref 0), (0, .float 0)]) (st' := [.int 0, .float 0, .ref 42, .int 0]) rfl rfl ?_
  refine rn_p (pc' := 318) (lv' := [(3, .int 0), (2, .ref 42), (1, .ref 0), (0, .float 0)]) (st' := [.int 1, .int 0, .float 0, .ref 42, .int 0]) rfl rfl ?_
  refine rn_iadd (v := 1) (pc' := 319) rfl (by decide) rfl ?_
  refine rn_x (j := 1) (pc' := 320) rfl rfl (by decide) (by decide) rfl ?_
  refine rn_p (pc' := 321) (lv' := [(3, .int 0), (2, .ref 42), (1, .ref 0), (0, .float 0)]) (st' := [.float 0, .int (xs 1), .ref 42, .int 0]) rfl rfl ?_
  refine rn_p (pc' := 322) (lv' := [(3, .int 0), (2, .ref 42), (1, .ref 0), (0, .float 0)]) (st' := [.int 0, .float 0, .int (xs 1), .ref 42, .int 0]) rfl rfl ?_
  refine rn_p (pc' := 323) (lv' := [(3, .int 0), (2, .ref 42), (1, .ref 0), (0, .float 0)]) (st' := [.int 2, .int 0, .float 0, .int (xs 1), .ref 42, .int 0]) rfl rfl ?_
  refine rn_iadd (v := 2) (pc' := 324) rfl (by decide) rfl ?_
  refine rn_x (j := 2) (pc' := 325) rfl rfl (by decide) (by decide) rfl ?_
  refine rn_cv (As := [.ref 42, .int (xs 1), .int (xs 2)]) (r := [.int 0]) (v := (some (.int 0))) (g := hp0) (st2 := [.int 0, .int 0]) (pc' := 328) rfl rfl rfl rfl (sm_run.to (fm_indexed (xs 1) (xs 2)) (by decide)) ?_
  refine rn_p (pc' := 450) (lv' := [(3, .int 0), (2, .ref 42), (1, .ref 0), (0, .float 0)]) (st' := []) rfl rfl ?_
  exact lw_end xs _
set_option maxRecDepth 20000 in
theorem lw_c12 (xs : Nat → Int32) (h0 : xs 0 &&& 15 = 12)  : sm_run (some (5, xs)) 60 0 18 [(3, .int 0), (2, .ref 42), (1, .ref 0), (0, .float 0)] [] hp0 (some (.int 1), hp0) := by
  refine rn_p (pc' := 19) (lv' := [(3, .int 0), (2, .ref 42), (1, .ref 0), (0, .float 0)]) (st' := [.int 0]) rfl rfl ?_
  refine rn_p (pc' := 20) (lv' := [(3, .int 0), (2, .ref 42), (1, .ref 0), (0, .float 0)]) (st' := [.float 0, .int 0]) rfl rfl ?_
  refine rn_p (pc' := 21) (lv' := [(3, .int 0), (2, .ref 42), (1, .ref 0), (0, .float 0)]) (st' := [.int 5, .int 0]) rfl rfl ?_
  refine rn_p (pc' := 22) (lv' := [(3, .int 0), (2, .ref 42), (1, .ref 0), (0, .float 0)]) (st' := [.int 5, .int 5, .int 0]) rfl rfl ?_
  refine rn_isub (v := 0) (pc' := 23) rfl (by decide) rfl ?_
  refine rn_p (pc' := 26) (lv' := [(3, .int 0), (2, .ref 42), (1, .ref 0), (0, .float 0)]) (st' := []) rfl rfl ?_
  refine rn_p (pc' := 27) (lv' := [(3, .int 0), (2, .ref 42), (1, .ref 0), (0, .float 0)]) (st' := [.float 0]) rfl rfl ?_
  refine rn_p (pc' := 28) (lv' := [(3, .int 0), (2, .ref 42), (1, .ref 0), (0, .float 0)]) (st' := [.int 0, .float 0]) rfl rfl ?_
  refine rn_x (j := 0) (pc' := 29) rfl rfl (by decide) (by decide) rfl ?_
  refine rn_p (pc' := 31) (lv' := [(3, .int 0), (2, .ref 42), (1, .ref 0), (0, .float 0)]) (st' := [.int 15, .int (xs 0)]) rfl rfl ?_
  refine rn_iand (v := 12) (pc' := 32) rfl h0 rfl ?_
  refine rn_ts (off := 301) (pc' := 333) rfl (by decide) (by decide) (by decide) ?_
  refine rn_p (pc' := 334) (lv' := [(3, .int 0), (2, .ref 42), (1, .ref 0), (0, .float 0)]) (st' := [.ref 0]) rfl rfl ?_
  refine rn_p (pc' := 335) (lv' := [(3, .int 0), (2, .ref 42), (1, .ref 0), (0, .float 0)]) (st' := [.float 0, .ref 0]) rfl rfl ?_
  refine rn_p (pc' := 336) (lv' := [(3, .int 0), (2, .ref 42), (1, .ref 0), (0, .float 0)]) (st' := [.int 0, .float 0, .ref 0]) rfl rfl ?_
  refine rn_p (pc' := 337) (lv' := [(3, .int 0), (2, .ref 42), (1, .ref 0), (0, .float 0)]) (st' := [.int 1, .int 0, .float 0, .ref 0]) rfl rfl ?_
  refine rn_iadd (v := 1) (pc' := 338) rfl (by decide) rfl ?_
  refine rn_x (j := 1) (pc' := 339) rfl rfl (by decide) (by decide) rfl ?_
  refine rn_p (pc' := 340) (lv' := [(3, .int 0), (2, .ref 42), (1, .ref 0), (0, .float 0)]) (st' := [.float 0, .int (xs 1), .ref 0]) rfl rfl ?_
  refine rn_p (pc' := 341) (lv' := [(3, .int 0), (2, .ref 42), (1, .ref 0), (0, .float 0)]) (st' := [.int 0, .float 0, .int (xs 1), .ref 0]) rfl rfl ?_
  refine rn_p (pc' := 342) (lv' := [(3, .int 0), (2, .ref 42), (1, .ref 0), (0, .float 0)]) (st' := [.int 2, .int 0, .float 0, .int (xs 1), .ref 0]) rfl rfl ?_
  refine rn_iadd (v := 2) (pc' := 343) rfl (by decide) rfl ?_
  refine rn_x (j := 2) (pc' := 344) rfl rfl (by decide) (by decide) rfl ?_
  refine rn_p (pc' := 345) (lv' := [(3, .int 0), (2, .ref 42), (1, .ref 0), (0, .float 0)]) (st' := [.float 0, .int (xs 2), .int (xs 1), .ref 0]) rfl rfl ?_
  refine rn_p (pc' := 346) (lv' := [(3, .int 0), (2, .ref 42), (1, .ref 0), (0, .float 0)]) (st' := [.int 0, .float 0, .int (xs 2), .int (xs 1), .ref 0]) rfl rfl ?_
  refine rn_p (pc' := 347) (lv' := [(3, .int 0), (2, .ref 42), (1, .ref 0), (0, .float 0)]) (st' := [.int 3, .int 0, .float 0, .int (xs 2), .int (xs 1), .ref 0]) rfl rfl ?_
  refine rn_iadd (v := 3) (pc' := 348) rfl (by decide) rfl ?_
  refine rn_x (j := 3) (pc' := 349) rfl rfl (by decide) (by decide) rfl ?_
  refine rn_cv (As := [.ref 0, .int (xs 1), .int (xs 2), .int (xs 3)]) (r := []) (v := (some (.long 2199023255552))) (g := hp0) (st2 := [.long 2199023255552]) (pc' := 352) rfl rfl rfl rfl (sm_run.to (fx_cell (xs 1) (xs 2) (xs 3)) (by decide)) ?_
  refine rn_p (pc' := 353) (lv' := [(3, .int 0), (2, .ref 42), (1, .ref 0), (0, .float 0)]) (st' := [.ref 42, .long 2199023255552]) rfl rfl ?_
  refine rn_p (pc' := 354) (lv' := [(3, .int 0), (2, .ref 42), (1, .ref 0), (0, .float 0)]) (st' := [.float 0, .ref 42, .long 2199023255552]) rfl rfl ?_
  refine rn_p (pc' := 355) (lv' := [(3, .int 0), (2, .ref 42), (1, .ref 0), (0, .float 0)]) (st' := [.int 0, .float 0, .ref 42, .long 2199023255552]) rfl rfl ?_
  refine rn_p (pc' := 356) (lv' := [(3, .int 0), (2, .ref 42), (1, .ref 0), (0, .float 0)]) (st' := [.int 1, .int 0, .float 0, .ref 42, .long 2199023255552]) rfl rfl ?_
  refine rn_iadd (v := 1) (pc' := 357) rfl (by decide) rfl ?_
  refine rn_x (j := 1) (pc' := 358) rfl rfl (by decide) (by decide) rfl ?_
  refine rn_p (pc' := 359) (lv' := [(3, .int 0), (2, .ref 42), (1, .ref 0), (0, .float 0)]) (st' := [.float 0, .int (xs 1), .ref 42, .long 2199023255552]) rfl rfl ?_
  refine rn_p (pc' := 360) (lv' := [(3, .int 0), (2, .ref 42), (1, .ref 0), (0, .float 0)]) (st' := [.int 0, .float 0, .int (xs 1), .ref 42, .long 2199023255552]) rfl rfl ?_
  refine rn_p (pc' := 361) (lv' := [(3, .int 0), (2, .ref 42), (1, .ref 0), (0, .float 0)]) (st' := [.int 2, .int 0, .float 0, .int (xs 1), .ref 42, .long 2199023255552]) rfl rfl ?_
  refine rn_iadd (v := 2) (pc' := 362) rfl (by decide) rfl ?_
  refine rn_x (j := 2) (pc' := 363) rfl rfl (by decide) (by decide) rfl ?_
  refine rn_p (pc' := 364) (lv' := [(3, .int 0), (2, .ref 42), (1, .ref 0), (0, .float 0)]) (st' := [.float 0, .int (xs 2), .int (xs 1), .ref 42, .long 2199023255552]) rfl rfl ?_
  refine rn_p (pc' := 365) (lv' := [(3, .int 0), (2, .ref 42), (1, .ref 0), (0, .float 0)]) (st' := [.int 0, .float 0, .int (xs 2), .int (xs 1), .ref 42, .long 2199023255552]) rfl rfl ?_
  refine rn_p (pc' := 366) (lv' := [(3, .int 0), (2, .ref 42), (1, .ref 0), (0, .float 0)]) (st' := [.int 3, .int 0, .float 0, .int (xs 2), .int (xs 1), .ref 42, .long 2199023255552]) rfl rfl ?_
  refine rn_iadd (v := 3) (pc' := 367) rfl (by decide) rfl ?_
  refine rn_x (j := 3) (pc' := 368) rfl rfl (by decide) (by decide) rfl ?_
  refine rn_cv (As := [.ref 42, .int (xs 1), .int (xs 2), .int (xs 3)]) (r := [.long 2199023255552]) (v := (some (.long 2199023255552))) (g := hp0) (st2 := [.long 2199023255552, .long 2199023255552]) (pc' := 371) rfl rfl rfl rfl (sm_run.to (fm_cell (xs 1) (xs 2) (xs 3)) (by decide)) ?_
  refine rn_lcmp (v := 0) (pc' := 372) rfl (by decide) rfl ?_
  refine rn_p (pc' := 450) (lv' := [(3, .int 0), (2, .ref 42), (1, .ref 0), (0, .float 0)]) (st' := []) rfl rfl ?_
  exact lw_end xs _
set_option maxRecDepth 20000 in
theorem lw_c13 (xs : Nat → Int32) (h0 : xs 0 &&& 15 = 13)  : sm_run (some (5, xs)) 60 0 18 [(3, .int 0), (2, .ref 42), (1, .ref 0), (0, .float 0)] [] hp0 (some (.int 1), hp0) := by
  refine rn_p (pc' := 19) (lv' := [(3, .int 0), (2, .ref 42), (1, .ref 0), (0, .float 0)]) (st' := [.int 0]) rfl rfl ?_
  refine rn_p (pc' := 20) (lv' := [(3, .int 0), (2, .ref 42), (1, .ref 0), (0, .float 0)]) (st' := [.float 0, .int 0]) rfl rfl ?_
  refine rn_p (pc' := 21) (lv' := [(3, .int 0), (2, .ref 42), (1, .ref 0), (0, .float 0)]) (st' := [.int 5, .int 0]) rfl rfl ?_
  refine rn_p (pc' := 22) (lv' := [(3, .int 0), (2, .ref 42), (1, .ref 0), (0, .float 0)]) (st' := [.int 5, .int 5, .int 0]) rfl rfl ?_
  refine rn_isub (v := 0) (pc' := 23) rfl (by decide) rfl ?_
  refine rn_p (pc' := 26) (lv' := [(3, .int 0), (2, .ref 42), (1, .ref 0), (0, .float 0)]) (st' := []) rfl rfl ?_
  refine rn_p (pc' := 27) (lv' := [(3, .int 0), (2, .ref 42), (1, .ref 0), (0, .float 0)]) (st' := [.float 0]) rfl rfl ?_
  refine rn_p (pc' := 28) (lv' := [(3, .int 0), (2, .ref 42), (1, .ref 0), (0, .float 0)]) (st' := [.int 0, .float 0]) rfl rfl ?_
  refine rn_x (j := 0) (pc' := 29) rfl rfl (by decide) (by decide) rfl ?_
  refine rn_p (pc' := 31) (lv' := [(3, .int 0), (2, .ref 42), (1, .ref 0), (0, .float 0)]) (st' := [.int 15, .int (xs 0)]) rfl rfl ?_
  refine rn_iand (v := 13) (pc' := 32) rfl h0 rfl ?_
  refine rn_ts (off := 345) (pc' := 377) rfl (by decide) (by decide) (by decide) ?_
  refine rn_p (pc' := 378) (lv' := [(3, .int 0), (2, .ref 42), (1, .ref 0), (0, .float 0)]) (st' := [.ref 0]) rfl rfl ?_
  refine rn_p (pc' := 379) (lv' := [(3, .int 0), (2, .ref 42), (1, .ref 0), (0, .float 0)]) (st' := [.float 0, .ref 0]) rfl rfl ?_
  refine rn_p (pc' := 380) (lv' := [(3, .int 0), (2, .ref 42), (1, .ref 0), (0, .float 0)]) (st' := [.int 0, .float 0, .ref 0]) rfl rfl ?_
  refine rn_p (pc' := 381) (lv' := [(3, .int 0), (2, .ref 42), (1, .ref 0), (0, .float 0)]) (st' := [.int 1, .int 0, .float 0, .ref 0]) rfl rfl ?_
  refine rn_iadd (v := 1) (pc' := 382) rfl (by decide) rfl ?_
  refine rn_x (j := 1) (pc' := 383) rfl rfl (by decide) (by decide) rfl ?_
  refine rn_p (pc' := 384) (lv' := [(3, .int 0), (2, .ref 42), (1, .ref 0), (0, .float 0)]) (st' := [.float 0, .int (xs 1), .ref 0]) rfl rfl ?_
  refine rn_p (pc' := 385) (lv' := [(3, .int 0), (2, .ref 42), (1, .ref 0), (0, .float 0)]) (st' := [.int 0, .float 0, .int (xs 1), .ref 0]) rfl rfl ?_
  refine rn_p (pc' := 386) (lv' := [(3, .int 0), (2, .ref 42), (1, .ref 0), (0, .float 0)]) (st' := [.int 2, .int 0, .float 0, .int (xs 1), .ref 0]) rfl rfl ?_
  refine rn_iadd (v := 2) (pc' := 387) rfl (by decide) rfl ?_
  refine rn_x (j := 2) (pc' := 388) rfl rfl (by decide) (by decide) rfl ?_
  refine rn_p (pc' := 389) (lv' := [(3, .int 0), (2, .ref 42), (1, .ref 0), (0, .float 0)]) (st' := [.float 0, .int (xs 2), .int (xs 1), .ref 0]) rfl rfl ?_
  refine rn_p (pc' := 390) (lv' := [(3, .int 0), (2, .ref 42), (1, .ref 0), (0, .float 0)]) (st' := [.int 0, .float 0, .int (xs 2), .int (xs 1), .ref 0]) rfl rfl ?_
  refine rn_p (pc' := 391) (lv' := [(3, .int 0), (2, .ref 42), (1, .ref 0), (0, .float 0)]) (st' := [.int 3, .int 0, .float 0, .int (xs 2), .int (xs 1), .ref 0]) rfl rfl ?_
  refine rn_iadd (v := 3) (pc' := 392) rfl (by decide) rfl ?_
  refine rn_x (j := 3) (pc' := 393) rfl rfl (by decide) (by decide) rfl ?_
  refine rn_p (pc' := 394) (lv' := [(3, .int 0), (2, .ref 42), (1, .ref 0), (0, .float 0)]) (st' := [.long ((xs 3).toInt64), .int (xs 2), .int (xs 1), .ref 0]) rfl rfl ?_
  refine rn_p (pc' := 396) (lv' := [(3, .int 0), (2, .ref 42), (1, .ref 0), (0, .float 0)]) (st' := [.int 32, .long ((xs 3).toInt64), .int (xs 2), .int (xs 1), .ref 0]) rfl rfl ?_
  refine rn_p (pc' := 397) (lv' := [(3, .int 0), (2, .ref 42), (1, .ref 0), (0, .float 0)]) (st' := [.long (((xs 3).toInt64) <<< ((32 : Int32).toInt64 &&& 63)), .int (xs 2), .int (xs 1), .ref 0]) rfl rfl ?_
  refine rn_p (pc' := 398) (lv' := [(3, .int 0), (2, .ref 42), (1, .ref 0), (0, .float 0)]) (st' := [.float 0, .long (((xs 3).toInt64) <<< ((32 : Int32).toInt64 &&& 63)), .int (xs 2), .int (xs 1), .ref 0]) rfl rfl ?_
  refine rn_p (pc' := 399) (lv' := [(3, .int 0), (2, .ref 42), (1, .ref 0), (0, .float 0)]) (st' := [.int 0, .float 0, .long (((xs 3).toInt64) <<< ((32 : Int32).toInt64 &&& 63)), .int (xs 2), .int (xs 1), .ref 0]) rfl rfl ?_
  refine rn_p (pc' := 400) (lv' := [(3, .int 0), (2, .ref 42), (1, .ref 0), (0, .float 0)]) (st' := [.int 4, .int 0, .float 0, .long (((xs 3).toInt64) <<< ((32 : Int32).toInt64 &&& 63)), .int (xs 2), .int (xs 1), .ref 0]) rfl rfl ?_
  refine rn_iadd (v := 4) (pc' := 401) rfl (by decide) rfl ?_
  refine rn_x (j := 4) (pc' := 402) rfl rfl (by decide) (by decide) rfl ?_
  refine rn_p (pc' := 403) (lv' := [(3, .int 0), (2, .ref 42), (1, .ref 0), (0, .float 0)]) (st' := [.long ((xs 4).toInt64), .long (((xs 3).toInt64) <<< ((32 : Int32).toInt64 &&& 63)), .int (xs 2), .int (xs 1), .ref 0]) rfl rfl ?_
  refine rn_p (pc' := 406) (lv' := [(3, .int 0), (2, .ref 42), (1, .ref 0), (0, .float 0)]) (st' := [.long 4294967295, .long ((xs 4).toInt64), .long (((xs 3).toInt64) <<< ((32 : Int32).toInt64 &&& 63)), .int (xs 2), .int (xs 1), .ref 0]) rfl rfl ?_
  refine rn_p (pc' := 407) (lv' := [(3, .int 0), (2, .ref 42), (1, .ref 0), (0, .float 0)]) (st' := [.long (((xs 4).toInt64) &&& 4294967295), .long (((xs 3).toInt64) <<< ((32 : Int32).toInt64 &&& 63)), .int (xs 2), .int (xs 1), .ref 0]) rfl rfl ?_
  refine rn_p (pc' := 408) (lv' := [(3, .int 0), (2, .ref 42), (1, .ref 0), (0, .float 0)]) (st' := [.long ((((xs 3).toInt64) <<< ((32 : Int32).toInt64 &&& 63)) ||| (((xs 4).toInt64) &&& 4294967295)), .int (xs 2), .int (xs 1), .ref 0]) rfl rfl ?_
  refine rn_cv (As := [.ref 0, .int (xs 1), .int (xs 2), .long ((((xs 3).toInt64) <<< ((32 : Int32).toInt64 &&& 63)) ||| (((xs 4).toInt64) &&& 4294967295))]) (r := []) (v := (some (.int 0))) (g := hp0) (st2 := [.int 0]) (pc' := 411) rfl rfl rfl rfl (sm_run.to (fx_count (xs 1) (xs 2) ((((xs 3).toInt64) <<< ((32 : Int32).toInt64 &&& 63)) ||| (((xs 4).toInt64) &&& 4294967295))) (by decide)) ?_
  refine rn_p (pc' := 412) (lv' := [(3, .int 0), (2, .ref 42), (1, .ref 0), (0, .float 0)]) (st' := [.ref 42, .int 0]) rfl rfl ?_
  refine rn_p (pc' := 413) (lv' := [(3, .int 0), (2, .ref 42), (1, .ref 0), (0, .float 0)]) (st' := [.float 0, .ref 42, .int 0]) rfl rfl ?_
  refine rn_p (pc' := 414) (lv' := [(3, .int 0), (2, .ref 42), (1, .ref 0), (0, .float 0)]) (st' := [.int 0, .float 0, .ref 42, .int 0]) rfl rfl ?_
  refine rn_p (pc' := 415) (lv' := [(3, .int 0), (2, .ref 42), (1, .ref 0), (0, .float 0)]) (st' := [.int 1, .int 0, .float 0, .ref 42, .int 0]) rfl rfl ?_
  refine rn_iadd (v := 1) (pc' := 416) rfl (by decide) rfl ?_
  refine rn_x (j := 1) (pc' := 417) rfl rfl (by decide) (by decide) rfl ?_
  refine rn_p (pc' := 418) (lv' := [(3, .int 0), (2, .ref 42), (1, .ref 0), (0, .float 0)]) (st' := [.float 0, .int (xs 1), .ref 42, .int 0]) rfl rfl ?_
  refine rn_p (pc' := 419) (lv' := [(3, .int 0), (2, .ref 42), (1, .ref 0), (0, .float 0)]) (st' := [.int 0, .float 0, .int (xs 1), .ref 42, .int 0]) rfl rfl ?_
  refine rn_p (pc' := 420) (lv' := [(3, .int 0), (2, .ref 42), (1, .ref 0), (0, .float 0)]) (st' := [.int 2, .int 0, .float 0, .int (xs 1), .ref 42, .int 0]) rfl rfl ?_
  refine rn_iadd (v := 2) (pc' := 421) rfl (by decide) rfl ?_
  refine rn_x (j := 2) (pc' := 422) rfl rfl (by decide) (by decide) rfl ?_
  refine rn_p (pc' := 423) (lv' := [(3, .int 0), (2, .ref 42), (1, .ref 0), (0, .float 0)]) (st' := [.float 0, .int (xs 2), .int (xs 1), .ref 42, .int 0]) rfl rfl ?_
  refine rn_p (pc' := 424) (lv' := [(3, .int 0), (2, .ref 42), (1, .ref 0), (0, .float 0)]) (st' := [.int 0, .float 0, .int (xs 2), .int (xs 1), .ref 42, .int 0]) rfl rfl ?_
  refine rn_p (pc' := 425) (lv' := [(3, .int 0), (2, .ref 42), (1, .ref 0), (0, .float 0)]) (st' := [.int 3, .int 0, .float 0, .int (xs 2), .int (xs 1), .ref 42, .int 0]) rfl rfl ?_
  refine rn_iadd (v := 3) (pc' := 426) rfl (by decide) rfl ?_
  refine rn_x (j := 3) (pc' := 427) rfl rfl (by decide) (by decide) rfl ?_
  refine rn_p (pc' := 428) (lv' := [(3, .int 0), (2, .ref 42), (1, .ref 0), (0, .float 0)]) (st' := [.long ((xs 3).toInt64), .int (xs 2), .int (xs 1), .ref 42, .int 0]) rfl rfl ?_
  refine rn_p (pc' := 430) (lv' := [(3, .int 0), (2, .ref 42), (1, .ref 0), (0, .float 0)]) (st' := [.int 32, .long ((xs 3).toInt64), .int (xs 2), .int (xs 1), .ref 42, .int 0]) rfl rfl ?_
  refine rn_p (pc' := 431) (lv' := [(3, .int 0), (2, .ref 42), (1, .ref 0), (0, .float 0)]) (st' := [.long (((xs 3).toInt64) <<< ((32 : Int32).toInt64 &&& 63)), .int (xs 2), .int (xs 1), .ref 42, .int 0]) rfl rfl ?_
  refine rn_p (pc' := 432) (lv' := [(3, .int 0), (2, .ref 42), (1, .ref 0), (0, .float 0)]) (st' := [.float 0, .long (((xs 3).toInt64) <<< ((32 : Int32).toInt64 &&& 63)), .int (xs 2), .int (xs 1), .ref 42, .int 0]) rfl rfl ?_
  refine rn_p (pc' := 433) (lv' := [(3, .int 0), (2, .ref 42), (1, .ref 0), (0, .float 0)]) (st' := [.int 0, .float 0, .long (((xs 3).toInt64) <<< ((32 : Int32).toInt64 &&& 63)), .int (xs 2), .int (xs 1), .ref 42, .int 0]) rfl rfl ?_
  refine rn_p (pc' := 434) (lv' := [(3, .int 0), (2, .ref 42), (1, .ref 0), (0, .float 0)]) (st' := [.int 4, .int 0, .float 0, .long (((xs 3).toInt64) <<< ((32 : Int32).toInt64 &&& 63)), .int (xs 2), .int (xs 1), .ref 42, .int 0]) rfl rfl ?_
  refine rn_iadd (v := 4) (pc' := 435) rfl (by decide) rfl ?_
  refine rn_x (j := 4) (pc' := 436) rfl rfl (by decide) (by decide) rfl ?_
  refine rn_p (pc' := 437) (lv' := [(3, .int 0), (2, .ref 42), (1, .ref 0), (0, .float 0)]) (st' := [.long ((xs 4).toInt64), .long (((xs 3).toInt64) <<< ((32 : Int32).toInt64 &&& 63)), .int (xs 2), .int (xs 1), .ref 42, .int 0]) rfl rfl ?_
  refine rn_p (pc' := 440) (lv' := [(3, .int 0), (2, .ref 42), (1, .ref 0), (0, .float 0)]) (st' := [.long 4294967295, .long ((xs 4).toInt64), .long (((xs 3).toInt64) <<< ((32 : Int32).toInt64 &&& 63)), .int (xs 2), .int (xs 1), .ref 42, .int 0]) rfl rfl ?_
  refine rn_p (pc' := 441) (lv' := [(3, .int 0), (2, .ref 42), (1, .ref 0), (0, .float 0)]) (st' := [.long (((xs 4).toInt64) &&& 4294967295), .long (((xs 3).toInt64) <<< ((32 : Int32).toInt64 &&& 63)), .int (xs 2), .int (xs 1), .ref 42, .int 0]) rfl rfl ?_
  refine rn_p (pc' := 442) (lv' := [(3, .int 0), (2, .ref 42), (1, .ref 0), (0, .float 0)]) (st' := [.long ((((xs 3).toInt64) <<< ((32 : Int32).toInt64 &&& 63)) ||| (((xs 4).toInt64) &&& 4294967295)), .int (xs 2), .int (xs 1), .ref 42, .int 0]) rfl rfl ?_
  refine rn_cv (As := [.ref 42, .int (xs 1), .int (xs 2), .long ((((xs 3).toInt64) <<< ((32 : Int32).toInt64 &&& 63)) ||| (((xs 4).toInt64) &&& 4294967295))]) (r := [.int 0]) (v := (some (.int 0))) (g := hp0) (st2 := [.int 0, .int 0]) (pc' := 445) rfl rfl rfl rfl (sm_run.to (fm_count (xs 1) (xs 2) ((((xs 3).toInt64) <<< ((32 : Int32).toInt64 &&& 63)) ||| (((xs 4).toInt64) &&& 4294967295))) (by decide)) ?_
  refine rn_p (pc' := 450) (lv' := [(3, .int 0), (2, .ref 42), (1, .ref 0), (0, .float 0)]) (st' := []) rfl rfl ?_
  exact lw_end xs _
set_option maxRecDepth 20000 in
theorem lw_c14 (xs : Nat → Int32) (h0 : xs 0 &&& 15 = 14)  : sm_run (some (5, xs)) 60 0 18 [(3, .int 0), (2, .ref 42), (1, .ref 0), (0, .float 0)] [] hp0 (some (.int 1), hp0) := by
  refine rn_p (pc' := 19) (lv' := [(3, .int 0), (2, .ref 42), (1, .ref 0), (0, .float 0)]) (st' := [.int 0]) rfl rfl ?_
  refine rn_p (pc' := 20) (lv' := [(3, .int 0), (2, .ref 42), (1, .ref 0), (0, .float 0)]) (st' := [.float 0, .int 0]) rfl rfl ?_
  refine rn_p (pc' := 21) (lv' := [(3, .int 0), (2, .ref 42), (1, .ref 0), (0, .float 0)]) (st' := [.int 5, .int 0]) rfl rfl ?_
  refine rn_p (pc' := 22) (lv' := [(3, .int 0), (2, .ref 42), (1, .ref 0), (0, .float 0)]) (st' := [.int 5, .int 5, .int 0]) rfl rfl ?_
  refine rn_isub (v := 0) (pc' := 23) rfl (by decide) rfl ?_
  refine rn_p (pc' := 26) (lv' := [(3, .int 0), (2, .ref 42), (1, .ref 0), (0, .float 0)]) (st' := []) rfl rfl ?_
  refine rn_p (pc' := 27) (lv' := [(3, .int 0), (2, .ref 42), (1, .ref 0), (0, .float 0)]) (st' := [.float 0]) rfl rfl ?_
  refine rn_p (pc' := 28) (lv' := [(3, .int 0), (2, .ref 42), (1, .ref 0), (0, .float 0)]) (st' := [.int 0, .float 0]) rfl rfl ?_
  refine rn_x (j := 0) (pc' := 29) rfl rfl (by decide) (by decide) rfl ?_
  refine rn_p (pc' := 31) (lv' := [(3, .int 0), (2, .ref 42), (1, .ref 0), (0, .float 0)]) (st' := [.int 15, .int (xs 0)]) rfl rfl ?_
  refine rn_iand (v := 14) (pc' := 32) rfl h0 rfl ?_
  refine rn_td (pc' := 450) rfl (by decide) (by decide) ?_
  exact lw_end xs _
set_option maxRecDepth 20000 in
theorem lw_c15 (xs : Nat → Int32) (h0 : xs 0 &&& 15 = 15)  : sm_run (some (5, xs)) 60 0 18 [(3, .int 0), (2, .ref 42), (1, .ref 0), (0, .float 0)] [] hp0 (some (.int 1), hp0) := by
  refine rn_p (pc' := 19) (lv' := [(3, .int 0), (2, .ref 42), (1, .ref 0), (0, .float 0)]) (st' := [.int 0]) rfl rfl ?_
  refine rn_p (pc' := 20) (lv' := [(3, .int 0), (2, .ref 42), (1, .ref 0), (0, .float 0)]) (st' := [.float 0, .int 0]) rfl rfl ?_
  refine rn_p (pc' := 21) (lv' := [(3, .int 0), (2, .ref 42), (1, .ref 0), (0, .float 0)]) (st' := [.int 5, .int 0]) rfl rfl ?_
  refine rn_p (pc' := 22) (lv' := [(3, .int 0), (2, .ref 42), (1, .ref 0), (0, .float 0)]) (st' := [.int 5, .int 5, .int 0]) rfl rfl ?_
  refine rn_isub (v := 0) (pc' := 23) rfl (by decide) rfl ?_
  refine rn_p (pc' := 26) (lv' := [(3, .int 0), (2, .ref 42), (1, .ref 0), (0, .float 0)]) (st' := []) rfl rfl ?_
  refine rn_p (pc' := 27) (lv' := [(3, .int 0), (2, .ref 42), (1, .ref 0), (0, .float 0)]) (st' := [.float 0]) rfl rfl ?_
  refine rn_p (pc' := 28) (lv' := [(3, .int 0), (2, .ref 42), (1, .ref 0), (0, .float 0)]) (st' := [.int 0, .float 0]) rfl rfl ?_
  refine rn_x (j := 0) (pc' := 29) rfl rfl (by decide) (by decide) rfl ?_
  refine rn_p (pc' := 31) (lv' := [(3, .int 0), (2, .ref 42), (1, .ref 0), (0, .float 0)]) (st' := [.int 15, .int (xs 0)]) rfl rfl ?_
  refine rn_iand (v := 15) (pc' := 32) rfl h0 rfl ?_
  refine rn_td (pc' := 450) rfl (by decide) (by decide) ?_
  exact lw_end xs _
theorem sm_ss_set {h : sm_H} {q : Nat} {x y : sm_E} (hy : h[q]? = some y) (hs : sm_sz y = sm_sz x) : sm_ss (h.set q x) = sm_ss h := by
  unfold sm_ss
  rw [List.map_set]
  congr 1
  apply List.ext_getElem?
  intro j
  rw [List.getElem?_set]
  by_cases hj : q = j
  · subst hj
    rw [if_pos rfl, List.length_map, List.getElem?_map, hy]
    have hl : q < h.length := (List.getElem?_eq_some_iff.mp hy).1
    rw [if_pos hl, ← hs]; rfl
  · rw [if_neg hj]
theorem sz_hp0 : hp0.length ≤ 600000 ∧ sm_ss hp0 ≤ 7302250 := by decide +kernel
theorem sz_hr2 : hr2.length ≤ 600000 ∧ sm_ss hr2 ≤ 7302250 := by decide +kernel
theorem sz_type (c : Int32) : (((((hp0.set 1 (.inl (2, .inl ((List.replicate 80 0).set (0 : Int32).toNatClampNeg (vp_nar .char c))))).set 0 (.inr (0, [.ref 1, .ref 2, .ref 12, .ref 17, .ref 23, .ref 25, .ref 29, .ref 30, .ref 40, .ref 41, .int 1, .int 0, .int 0, .int 0, .int 0]))).set 43 (.inl (2, .inl ((List.replicate 100 0).set (0 : Int32).toNatClampNeg (vp_nar .char c))))).set 42 (.inr (10, [.ref 43, .int 1, .int 0, .ref 44, .ref 45, .int 0, .int 0, .int 0, .ref 46, .ref 47, .int 0, .ref 48, .int 0, .int 0, .ref 49, .int 0, .int 0, .int 0, .ref 50, .int 0, .int 0, .int 0, .int 0, .ref 51, .ref 52, .int 0, .int 0, .int 0, .int 0, .int 0, .int 0, .int 0, .int 0, .int 0, .int 0, .ref 53, .ref 54, .ref 55, .int 0, .int 0, .ref 56, .ref 57, .ref 58, .ref 59, .ref 60, .ref 61, .ref 62, .ref 63, .int 0, .ref 64, .ref 65, .ref 66, .ref 67, .int 0, .int 0, .ref 68, .int 0, .int 0, .int 0])))).length ≤ 600000 ∧ sm_ss (((((hp0.set 1 (.inl (2, .inl ((List.replicate 80 0).set (0 : Int32).toNatClampNeg (vp_nar .char c))))).set 0 (.inr (0, [.ref 1, .ref 2, .ref 12, .ref 17, .ref 23, .ref 25, .ref 29, .ref 30, .ref 40, .ref 41, .int 1, .int 0, .int 0, .int 0, .int 0]))).set 43 (.inl (2, .inl ((List.replicate 100 0).set (0 : Int32).toNatClampNeg (vp_nar .char c))))).set 42 (.inr (10, [.ref 43, .int 1, .int 0, .ref 44, .ref 45, .int 0, .int 0, .int 0, .ref 46, .ref 47, .int 0, .ref 48, .int 0, .int 0, .ref 49, .int 0, .int 0, .int 0, .ref 50, .int 0, .int 0, .int 0, .int 0, .ref 51, .ref 52, .int 0, .int 0, .int 0, .int 0, .int 0, .int 0, .int 0, .int 0, .int 0, .int 0, .ref 53, .ref 54, .ref 55, .int 0, .int 0, .ref 56, .ref 57, .ref 58, .ref 59, .ref 60, .ref 61, .ref 62, .ref 63, .int 0, .ref 64, .ref 65, .ref 66, .ref 67, .int 0, .int 0, .ref 68, .int 0, .int 0, .int 0])))) ≤ 7302250 := by
  refine ⟨by simp only [List.length_set]; exact sz_hp0.1, ?_⟩
  refine Nat.le_trans (Nat.le_of_eq (sm_ss_set (y := ?y0) ?a0 ?b0)) ?c0
  case a0 => exact rfl
  case b0 => first | exact (List.length_set).symm | exact rfl
  refine Nat.le_trans (Nat.le_of_eq (sm_ss_set (y := ?y1) ?a1 ?b1)) ?c1
  case a1 => exact rfl
  case b1 => first | exact (List.length_set).symm | exact rfl
  refine Nat.le_trans (Nat.le_of_eq (sm_ss_set (y := ?y2) ?a2 ?b2)) ?c2
  case a2 => exact rfl
  case b2 => first | exact (List.length_set).symm | exact rfl
  refine Nat.le_trans (Nat.le_of_eq (sm_ss_set (y := ?y3) ?a3 ?b3)) ?c3
  case a3 => exact rfl
  case b3 => first | exact (List.length_set).symm | exact rfl
  exact sz_hp0.2
theorem p1_run (L : Nat) (xs : Nat → Int32) (hL : L ≤ 5) : ∃ h' : sm_H, sm_run (some (L, xs)) 60 0 0 [(0, .float 0)] [] [] (some (.int 1), h') ∧ h'.length ≤ 600000 ∧ sm_ss h' ≤ 7302250 := by
  rcases (show L = 0 ∨ L = 1 ∨ L = 2 ∨ L = 3 ∨ L = 4 ∨ L = 5 by omega) with rfl | rfl | rfl | rfl | rfl | rfl
  · exact ⟨_, lw_pre (lw_len0 xs), sz_hp0⟩
  · exact ⟨_, lw_pre (lw_len1 xs), sz_hp0⟩
  · exact ⟨_, lw_pre (lw_len2 xs), sz_hp0⟩
  · exact ⟨_, lw_pre (lw_len3 xs), sz_hp0⟩
  · exact ⟨_, lw_pre (lw_len4 xs), sz_hp0⟩
  · obtain ⟨j, hj, h0⟩ := pk_andE (xs 0) (m := 15) 4 (by decide)
    rcases (show j = 0 ∨ j = 1 ∨ j = 2 ∨ j = 3 ∨ j = 4 ∨ j = 5 ∨ j = 6 ∨ j = 7 ∨ j = 8 ∨ j = 9 ∨ j = 10 ∨ j = 11 ∨ j = 12 ∨ j = 13 ∨ j = 14 ∨ j = 15 by omega) with rfl | rfl | rfl | rfl | rfl | rfl | rfl | rfl | rfl | rfl | rfl | rfl | rfl | rfl | rfl | rfl
    · by_cases h1 : ((xs 1).toUInt32 % 65536).toInt32 < 32
      · exact ⟨_, lw_pre (lw_c0a xs h0 h1), sz_hp0⟩
      · by_cases h2 : 126 < ((xs 1).toUInt32 % 65536).toInt32
        · exact ⟨_, lw_pre (lw_c0b xs h0 h1 h2), sz_hp0⟩
        · exact ⟨_, lw_pre (lw_c0c xs h0 h1 h2), sz_type _⟩
    · exact ⟨_, lw_pre (lw_c1 xs h0), sz_hp0⟩
    · exact ⟨_, lw_pre (lw_c2 xs h0), sz_hr2⟩
    · exact ⟨_, lw_pre (lw_c3 xs h0), sz_hp0⟩
    · exact ⟨_, lw_pre (lw_c4 xs h0), sz_hp0⟩
    · exact ⟨_, lw_pre (lw_c5 xs h0), sz_hp0⟩
    · exact ⟨_, lw_pre (lw_c6 xs h0), sz_hp0⟩
    · exact ⟨_, lw_pre (lw_c7 xs h0), sz_hp0⟩
    · exact ⟨_, lw_pre (lw_c8 xs h0), sz_hp0⟩
    · exact ⟨_, lw_pre (lw_c9 xs h0), sz_hp0⟩
    · exact ⟨_, lw_pre (lw_c10 xs h0), sz_hp0⟩
    · exact ⟨_, lw_pre (lw_c11 xs h0), sz_hp0⟩
    · exact ⟨_, lw_pre (lw_c12 xs h0), sz_hp0⟩
    · exact ⟨_, lw_pre (lw_c13 xs h0), sz_hp0⟩
    · exact ⟨_, lw_pre (lw_c14 xs h0), sz_hp0⟩
    · exact ⟨_, lw_pre (lw_c15 xs h0), sz_hp0⟩
