/-! CONTRACTS, small methods of Statement, Code, Pair, Tokens (by program, wip/whole/gen21.py) -/
set_option maxRecDepth 20000 in
theorem c_st_clear (c0 c1 c2 c3 c4 c5 c6 c7 c8 c9 c10 c11 : sm_E) (t : sm_H) (s0 s1 s2 s3 s4 s5 s6 s7 s8 s9 s10 s11 s12 : Int32)  : sm_run none 4 59 0 (lv_args 0 [.ref 12]) [] (c0 :: c1 :: c2 :: c3 :: c4 :: c5 :: c6 :: c7 :: c8 :: c9 :: c10 :: c11 :: .inr (4, [.ref 13, .ref 14, .ref 15, .ref 16, .int s0, .int s1, .int s2, .int s3, .int s4, .int s5, .int s6, .int s7, .int s8, .int s9, .int s10, .int s11, .int s12]) :: t) (none, (c0 :: c1 :: c2 :: c3 :: c4 :: c5 :: c6 :: c7 :: c8 :: c9 :: c10 :: c11 :: .inr (4, [.ref 13, .ref 14, .ref 15, .ref 16, .int 0, .int 0, .int (-1), .int 0, .int 0, .int 0, .int 0, .int 0, .int 0, .int 0, .int 0, .int 2147483647, .int 0]) :: t)) := by
  refine wp_to ?_
  refine wp_p (pc' := 1) (lv' := [(0, .ref 12)]) (st' := [.ref 12]) rfl rfl ?_
  refine wp_p (pc' := 2) (lv' := [(0, .ref 12)]) (st' := [.int 0, .ref 12]) rfl rfl ?_
  refine wp_put (q := 12) (v := .int 0) (pc' := 5) (h2 := (c0 :: c1 :: c2 :: c3 :: c4 :: c5 :: c6 :: c7 :: c8 :: c9 :: c10 :: c11 :: .inr (4, [.ref 13, .ref 14, .ref 15, .ref 16, .int 0, .int s1, .int s2, .int s3, .int s4, .int s5, .int s6, .int s7, .int s8, .int s9, .int s10, .int s11, .int s12]) :: t)) rfl rfl rfl rfl rfl rfl rfl ?_
  refine wp_p (pc' := 6) (lv' := [(0, .ref 12)]) (st' := [.ref 12]) rfl rfl ?_
  refine wp_p (pc' := 7) (lv' := [(0, .ref 12)]) (st' := [.int 0, .ref 12]) rfl rfl ?_
  refine wp_put (q := 12) (v := .int 0) (pc' := 10) (h2 := (c0 :: c1 :: c2 :: c3 :: c4 :: c5 :: c6 :: c7 :: c8 :: c9 :: c10 :: c11 :: .inr (4, [.ref 13, .ref 14, .ref 15, .ref 16, .int 0, .int 0, .int s2, .int s3, .int s4, .int s5, .int s6, .int s7, .int s8, .int s9, .int s10, .int s11, .int s12]) :: t)) rfl rfl rfl rfl rfl rfl rfl ?_
  refine wp_p (pc' := 11) (lv' := [(0, .ref 12)]) (st' := [.ref 12]) rfl rfl ?_
  refine wp_p (pc' := 12) (lv' := [(0, .ref 12)]) (st' := [.int (-1), .ref 12]) rfl rfl ?_
  refine wp_put (q := 12) (v := .int (-1)) (pc' := 15) (h2 := (c0 :: c1 :: c2 :: c3 :: c4 :: c5 :: c6 :: c7 :: c8 :: c9 :: c10 :: c11 :: .inr (4, [.ref 13, .ref 14, .ref 15, .ref 16, .int 0, .int 0, .int (-1), .int s3, .int s4, .int s5, .int s6, .int s7, .int s8, .int s9, .int s10, .int s11, .int s12]) :: t)) rfl rfl rfl rfl rfl rfl rfl ?_
  refine wp_p (pc' := 16) (lv' := [(0, .ref 12)]) (st' := [.ref 12]) rfl rfl ?_
  refine wp_p (pc' := 17) (lv' := [(0, .ref 12)]) (st' := [.int 0, .ref 12]) rfl rfl ?_
  refine wp_put (q := 12) (v := .int 0) (pc' := 20) (h2 := (c0 :: c1 :: c2 :: c3 :: c4 :: c5 :: c6 :: c7 :: c8 :: c9 :: c10 :: c11 :: .inr (4, [.ref 13, .ref 14, .ref 15, .ref 16, .int 0, .int 0, .int (-1), .int 0, .int s4, .int s5, .int s6, .int s7, .int s8, .int s9, .int s10, .int s11, .int s12]) :: t)) rfl rfl rfl rfl rfl rfl rfl ?_
  refine wp_p (pc' := 21) (lv' := [(0, .ref 12)]) (st' := [.ref 12]) rfl rfl ?_
  refine wp_p (pc' := 22) (lv' := [(0, .ref 12)]) (st' := [.int 0, .ref 12]) rfl rfl ?_
  refine wp_put (q := 12) (v := .int 0) (pc' := 25) (h2 := (c0 :: c1 :: c2 :: c3 :: c4 :: c5 :: c6 :: c7 :: c8 :: c9 :: c10 :: c11 :: .inr (4, [.ref 13, .ref 14, .ref 15, .ref 16, .int 0, .int 0, .int (-1), .int 0, .int 0, .int s5, .int s6, .int s7, .int s8, .int s9, .int s10, .int s11, .int s12]) :: t)) rfl rfl rfl rfl rfl rfl rfl ?_
  refine wp_p (pc' := 26) (lv' := [(0, .ref 12)]) (st' := [.ref 12]) rfl rfl ?_
  refine wp_p (pc' := 27) (lv' := [(0, .ref 12)]) (st' := [.int 0, .ref 12]) rfl rfl ?_
  refine wp_put (q := 12) (v := .int 0) (pc' := 30) (h2 := (c0 :: c1 :: c2 :: c3 :: c4 :: c5 :: c6 :: c7 :: c8 :: c9 :: c10 :: c11 :: .inr (4, [.ref 13, .ref 14, .ref 15, .ref 16, .int 0, .int 0, .int (-1), .int 0, .int 0, .int 0, .int s6, .int s7, .int s8, .int s9, .int s10, .int s11, .int s12]) :: t)) rfl rfl rfl rfl rfl rfl rfl ?_
  refine wp_p (pc' := 31) (lv' := [(0, .ref 12)]) (st' := [.ref 12]) rfl rfl ?_
  refine wp_p (pc' := 32) (lv' := [(0, .ref 12)]) (st' := [.int 0, .ref 12]) rfl rfl ?_
  refine wp_put (q := 12) (v := .int 0) (pc' := 35) (h2 := (c0 :: c1 :: c2 :: c3 :: c4 :: c5 :: c6 :: c7 :: c8 :: c9 :: c10 :: c11 :: .inr (4, [.ref 13, .ref 14, .ref 15, .ref 16, .int 0, .int 0, .int (-1), .int 0, .int 0, .int 0, .int 0, .int s7, .int s8, .int s9, .int s10, .int s11, .int s12]) :: t)) rfl rfl rfl rfl rfl rfl rfl ?_
  refine wp_p (pc' := 36) (lv' := [(0, .ref 12)]) (st' := [.ref 12]) rfl rfl ?_
  refine wp_p (pc' := 37) (lv' := [(0, .ref 12)]) (st' := [.int 0, .ref 12]) rfl rfl ?_
  refine wp_put (q := 12) (v := .int 0) (pc' := 40) (h2 := (c0 :: c1 :: c2 :: c3 :: c4 :: c5 :: c6 :: c7 :: c8 :: c9 :: c10 :: c11 :: .inr (4, [.ref 13, .ref 14, .ref 15, .ref 16, .int 0, .int 0, .int (-1), .int 0, .int 0, .int 0, .int 0, .int 0, .int s8, .int s9, .int s10, .int s11, .int s12]) :: t)) rfl rfl rfl rfl rfl rfl rfl ?_
  refine wp_p (pc' := 41) (lv' := [(0, .ref 12)]) (st' := [.ref 12]) rfl rfl ?_
  refine wp_p (pc' := 42) (lv' := [(0, .ref 12)]) (st' := [.int 0, .ref 12]) rfl rfl ?_
  refine wp_put (q := 12) (v := .int 0) (pc' := 45) (h2 := (c0 :: c1 :: c2 :: c3 :: c4 :: c5 :: c6 :: c7 :: c8 :: c9 :: c10 :: c11 :: .inr (4, [.ref 13, .ref 14, .ref 15, .ref 16, .int 0, .int 0, .int (-1), .int 0, .int 0, .int 0, .int 0, .int 0, .int 0, .int s9, .int s10, .int s11, .int s12]) :: t)) rfl rfl rfl rfl rfl rfl rfl ?_
  refine wp_p (pc' := 46) (lv' := [(0, .ref 12)]) (st' := [.ref 12]) rfl rfl ?_
  refine wp_p (pc' := 47) (lv' := [(0, .ref 12)]) (st' := [.int 0, .ref 12]) rfl rfl ?_
  refine wp_put (q := 12) (v := .int 0) (pc' := 50) (h2 := (c0 :: c1 :: c2 :: c3 :: c4 :: c5 :: c6 :: c7 :: c8 :: c9 :: c10 :: c11 :: .inr (4, [.ref 13, .ref 14, .ref 15, .ref 16, .int 0, .int 0, .int (-1), .int 0, .int 0, .int 0, .int 0, .int 0, .int 0, .int 0, .int s10, .int s11, .int s12]) :: t)) rfl rfl rfl rfl rfl rfl rfl ?_
  refine wp_p (pc' := 51) (lv' := [(0, .ref 12)]) (st' := [.ref 12]) rfl rfl ?_
  refine wp_p (pc' := 52) (lv' := [(0, .ref 12)]) (st' := [.int 0, .ref 12]) rfl rfl ?_
  refine wp_put (q := 12) (v := .int 0) (pc' := 55) (h2 := (c0 :: c1 :: c2 :: c3 :: c4 :: c5 :: c6 :: c7 :: c8 :: c9 :: c10 :: c11 :: .inr (4, [.ref 13, .ref 14, .ref 15, .ref 16, .int 0, .int 0, .int (-1), .int 0, .int 0, .int 0, .int 0, .int 0, .int 0, .int 0, .int 0, .int s11, .int s12]) :: t)) rfl rfl rfl rfl rfl rfl rfl ?_
  refine wp_p (pc' := 56) (lv' := [(0, .ref 12)]) (st' := [.ref 12]) rfl rfl ?_
  refine wp_p (pc' := 58) (lv' := [(0, .ref 12)]) (st' := [.int 2147483647, .ref 12]) rfl rfl ?_
  refine wp_put (q := 12) (v := .int 2147483647) (pc' := 61) (h2 := (c0 :: c1 :: c2 :: c3 :: c4 :: c5 :: c6 :: c7 :: c8 :: c9 :: c10 :: c11 :: .inr (4, [.ref 13, .ref 14, .ref 15, .ref 16, .int 0, .int 0, .int (-1), .int 0, .int 0, .int 0, .int 0, .int 0, .int 0, .int 0, .int 0, .int 2147483647, .int s12]) :: t)) rfl rfl rfl rfl rfl rfl rfl ?_
  refine wp_p (pc' := 62) (lv' := [(0, .ref 12)]) (st' := [.ref 12]) rfl rfl ?_
  refine wp_p (pc' := 63) (lv' := [(0, .ref 12)]) (st' := [.int 0, .ref 12]) rfl rfl ?_
  refine wp_put (q := 12) (v := .int 0) (pc' := 66) (h2 := (c0 :: c1 :: c2 :: c3 :: c4 :: c5 :: c6 :: c7 :: c8 :: c9 :: c10 :: c11 :: .inr (4, [.ref 13, .ref 14, .ref 15, .ref 16, .int 0, .int 0, .int (-1), .int 0, .int 0, .int 0, .int 0, .int 0, .int 0, .int 0, .int 0, .int 2147483647, .int 0]) :: t)) rfl rfl rfl rfl rfl rfl rfl ?_
  exact wp_r rfl rfl ⟨rfl, rfl⟩
set_option maxRecDepth 20000 in
theorem c_st_addListed (c0 c1 c2 c3 c4 c5 c6 c7 c8 c9 c10 c11 : sm_E) (t : sm_H) (s0 s1 s2 s3 s4 s6 s7 s8 s9 s10 s11 s12 : Int32) (n : Nat) (e : Int32) (le : List Int32) (hn : n < 80) (hl : le.length = 80) : sm_run none 4 60 0 (lv_args 0 [.ref 12, .int e]) [] (c0 :: c1 :: c2 :: c3 :: c4 :: c5 :: c6 :: c7 :: c8 :: c9 :: c10 :: c11 :: .inr (4, [.ref 13, .ref 14, .ref 15, .ref 16, .int s0, .int s1, .int s2, .int s3, .int s4, .int (nI n), .int s6, .int s7, .int s8, .int s9, .int s10, .int s11, .int s12]) :: .inl (0, .inl le) :: t) (none, (c0 :: c1 :: c2 :: c3 :: c4 :: c5 :: c6 :: c7 :: c8 :: c9 :: c10 :: c11 :: .inr (4, [.ref 13, .ref 14, .ref 15, .ref 16, .int s0, .int s1, .int s2, .int s3, .int s4, .int (nI (n + 1)), .int s6, .int s7, .int s8, .int s9, .int s10, .int s11, .int s12]) :: .inl (0, .inl (le.set n e)) :: t)) := by
  refine wp_to ?_
  refine wp_p (pc' := 1) (lv' := [(0, .ref 12), (1, .int e)]) (st' := [.ref 12]) rfl rfl ?_
  refine wp_get (q := 12) (v := .int (nI n)) (pc' := 4) rfl rfl rfl rfl ?_
  refine wp_p (pc' := 6) (lv' := [(0, .ref 12), (1, .int e)]) (st' := [.int 80, .int (nI n)]) rfl rfl ?_
  refine wn_ic_ge (n := n) (m := 80) (pc' := 9) rfl (by first | omega | (simp only [List.length_set]; omega)) (by first | omega | (simp only [List.length_set]; omega)) rfl (fun hc1 => ?_) (fun hc1 => ?_)
  · exact absurd hc1 (by omega)
  · refine wp_p (pc' := 10) (lv' := [(0, .ref 12), (1, .int e)]) (st' := [.ref 12]) rfl rfl ?_
    refine wp_get (q := 12) (v := .ref 13) (pc' := 13) rfl rfl rfl rfl ?_
    refine wp_p (pc' := 14) (lv' := [(0, .ref 12), (1, .int e)]) (st' := [.ref 12, .ref 13]) rfl rfl ?_
    refine wp_get (q := 12) (v := .int (nI n)) (pc' := 17) rfl rfl rfl rfl ?_
    refine wp_p (pc' := 18) (lv' := [(0, .ref 12), (1, .int e)]) (st' := [.int e, .int (nI n), .ref 13]) rfl rfl ?_
    refine wp_iastore (q := 13) (n := n) (g := le) (pc' := 19) (h2 := (c0 :: c1 :: c2 :: c3 :: c4 :: c5 :: c6 :: c7 :: c8 :: c9 :: c10 :: c11 :: .inr (4, [.ref 13, .ref 14, .ref 15, .ref 16, .int s0, .int s1, .int s2, .int s3, .int s4, .int (nI n), .int s6, .int s7, .int s8, .int s9, .int s10, .int s11, .int s12]) :: .inl (0, .inl (le.set n e)) :: t)) rfl rfl (by first | omega | (simp only [List.length_set]; omega)) (by first | omega | (simp only [List.length_set]; omega)) rfl rfl rfl ?_
    refine wp_p (pc' := 20) (lv' := [(0, .ref 12), (1, .int e)]) (st' := [.ref 12]) rfl rfl ?_
    refine wp_p (pc' := 21) (lv' := [(0, .ref 12), (1, .int e)]) (st' := [.ref 12, .ref 12]) rfl rfl ?_
    refine wp_get (q := 12) (v := .int (nI n)) (pc' := 24) rfl rfl rfl rfl ?_
    refine wp_p (pc' := 25) (lv' := [(0, .ref 12), (1, .int e)]) (st' := [.int 1, .int (nI n), .ref 12]) rfl rfl ?_
    refine wp_iadd (v := nI (n + 1)) (pc' := 26) rfl (nI_add n 1) rfl ?_
    refine wp_put (q := 12) (v := .int (nI (n + 1))) (pc' := 29) (h2 := (c0 :: c1 :: c2 :: c3 :: c4 :: c5 :: c6 :: c7 :: c8 :: c9 :: c10 :: c11 :: .inr (4, [.ref 13, .ref 14, .ref 15, .ref 16, .int s0, .int s1, .int s2, .int s3, .int s4, .int (nI (n + 1)), .int s6, .int s7, .int s8, .int s9, .int s10, .int s11, .int s12]) :: .inl (0, .inl (le.set n e)) :: t)) rfl rfl rfl rfl rfl rfl rfl ?_
    exact wp_r rfl rfl ⟨rfl, rfl⟩
set_option maxRecDepth 20000 in
theorem c_st_listFrom (c0 c1 c2 c3 c4 c5 c6 c7 c8 c9 c10 c11 : sm_E) (t : sm_H) (s0 s1 s2 s3 s4 s6 s7 s8 s9 s10 s11 s12 : Int32) (n k : Nat) (le : List Int32) (hk : k ≤ n) (hn : n ≤ 80) (hl : le.length = 80) : sm_run none 4 61 0 (lv_args 0 [.ref 12, .int (nI k)]) [] (c0 :: c1 :: c2 :: c3 :: c4 :: c5 :: c6 :: c7 :: c8 :: c9 :: c10 :: c11 :: .inr (4, [.ref 13, .ref 14, .ref 15, .ref 16, .int s0, .int s1, .int s2, .int s3, .int s4, .int (nI n), .int s6, .int s7, .int s8, .int s9, .int s10, .int s11, .int s12]) :: .inl (0, .inl le) :: t) ((some (.int (if 0 < k then le.getD (k - 1) 0 else 0))), (c0 :: c1 :: c2 :: c3 :: c4 :: c5 :: c6 :: c7 :: c8 :: c9 :: c10 :: c11 :: .inr (4, [.ref 13, .ref 14, .ref 15, .ref 16, .int s0, .int s1, .int s2, .int s3, .int s4, .int (nI n), .int s6, .int s7, .int s8, .int s9, .int s10, .int s11, .int s12]) :: .inl (0, .inl le) :: t)) := by
  refine wp_to ?_
  refine wp_p (pc' := 1) (lv' := [(0, .ref 12), (1, .int (nI k))]) (st' := [.int (nI k)]) rfl rfl ?_
  refine wn_if_le (n := k) (pc' := 4) rfl (by first | omega | (simp only [List.length_set]; omega)) rfl (fun hc1 => ?_) (fun hc1 => ?_)
  · refine wp_p (pc' := 24) (lv' := [(0, .ref 12), (1, .int (nI k))]) (st' := [.int 0]) rfl rfl ?_
    exact wp_r rfl rfl ⟨by rw [if_neg (by omega)], rfl⟩
  · refine wp_p (pc' := 5) (lv' := [(0, .ref 12), (1, .int (nI k))]) (st' := [.int (nI k)]) rfl rfl ?_
    refine wp_p (pc' := 6) (lv' := [(0, .ref 12), (1, .int (nI k))]) (st' := [.ref 12, .int (nI k)]) rfl rfl ?_
    refine wp_get (q := 12) (v := .int (nI n)) (pc' := 9) rfl rfl rfl rfl ?_
    refine wn_ic_gt (n := k) (m := n) (pc' := 12) rfl (by first | omega | (simp only [List.length_set]; omega)) (by first | omega | (simp only [List.length_set]; omega)) rfl (fun hc2 => ?_) (fun hc2 => ?_)
    · refine wp_p (pc' := 24) (lv' := [(0, .ref 12), (1, .int (nI k))]) (st' := [.int 0]) rfl rfl ?_
      exact wp_r rfl rfl ⟨by rw [if_neg (by omega)], rfl⟩
    · refine wp_p (pc' := 13) (lv' := [(0, .ref 12), (1, .int (nI k))]) (st' := [.ref 12]) rfl rfl ?_
      refine wp_get (q := 12) (v := .ref 13) (pc' := 16) rfl rfl rfl rfl ?_
      refine wp_p (pc' := 17) (lv' := [(0, .ref 12), (1, .int (nI k))]) (st' := [.int (nI k), .ref 13]) rfl rfl ?_
      refine wp_p (pc' := 18) (lv' := [(0, .ref 12), (1, .int (nI k))]) (st' := [.int 1, .int (nI k), .ref 13]) rfl rfl ?_
      refine wp_isub (v := nI (k - 1)) (pc' := 19) rfl (pk_sub (a := k) (b := 1) (by omega)) rfl ?_
      refine wp_iaload (q := 13) (n := k - 1) (g := le) (x := le.getD (k - 1) 0) (pc' := 20) rfl rfl (by first | omega | (simp only [List.length_set]; omega)) (by first | omega | (simp only [List.length_set]; omega)) rfl rfl ?_
      refine wp_p (pc' := 24) (lv' := [(0, .ref 12), (1, .int (nI k))]) (st' := [.int (le.getD (k - 1) 0)]) rfl rfl ?_
      exact wp_r rfl rfl ⟨by rw [if_pos (by omega)], rfl⟩
set_option maxRecDepth 20000 in
theorem c_st_listTo (c0 c1 c2 c3 c4 c5 c6 c7 c8 c9 c10 c11 : sm_E) (t : sm_H) (s0 s1 s2 s3 s4 s6 s7 s8 s9 s10 s11 s12 : Int32) (n k : Nat) (le : List Int32) (hk : k < n) (hn : n ≤ 80) (hl : le.length = 80) : sm_run none 4 62 0 (lv_args 0 [.ref 12, .int (nI k)]) [] (c0 :: c1 :: c2 :: c3 :: c4 :: c5 :: c6 :: c7 :: c8 :: c9 :: c10 :: c11 :: .inr (4, [.ref 13, .ref 14, .ref 15, .ref 16, .int s0, .int s1, .int s2, .int s3, .int s4, .int (nI n), .int s6, .int s7, .int s8, .int s9, .int s10, .int s11, .int s12]) :: .inl (0, .inl le) :: t) ((some (.int (le.getD k 0))), (c0 :: c1 :: c2 :: c3 :: c4 :: c5 :: c6 :: c7 :: c8 :: c9 :: c10 :: c11 :: .inr (4, [.ref 13, .ref 14, .ref 15, .ref 16, .int s0, .int s1, .int s2, .int s3, .int s4, .int (nI n), .int s6, .int s7, .int s8, .int s9, .int s10, .int s11, .int s12]) :: .inl (0, .inl le) :: t)) := by
  refine wp_to ?_
  refine wp_p (pc' := 1) (lv' := [(0, .ref 12), (1, .int (nI k))]) (st' := [.int (nI k)]) rfl rfl ?_
  refine wn_if_lt (n := k) (pc' := 4) rfl (by first | omega | (simp only [List.length_set]; omega)) rfl (fun hc1 => ?_) (fun hc1 => ?_)
  · exact hc1.elim
  · refine wp_p (pc' := 5) (lv' := [(0, .ref 12), (1, .int (nI k))]) (st' := [.int (nI k)]) rfl rfl ?_
    refine wp_p (pc' := 6) (lv' := [(0, .ref 12), (1, .int (nI k))]) (st' := [.ref 12, .int (nI k)]) rfl rfl ?_
    refine wp_get (q := 12) (v := .int (nI n)) (pc' := 9) rfl rfl rfl rfl ?_
    refine wn_ic_ge (n := k) (m := n) (pc' := 12) rfl (by first | omega | (simp only [List.length_set]; omega)) (by first | omega | (simp only [List.length_set]; omega)) rfl (fun hc2 => ?_) (fun hc2 => ?_)
    · exact absurd hc2 (by omega)
    · refine wp_p (pc' := 13) (lv' := [(0, .ref 12), (1, .int (nI k))]) (st' := [.ref 12]) rfl rfl ?_
      refine wp_get (q := 12) (v := .ref 13) (pc' := 16) rfl rfl rfl rfl ?_
      refine wp_p (pc' := 17) (lv' := [(0, .ref 12), (1, .int (nI k))]) (st' := [.int (nI k), .ref 13]) rfl rfl ?_
      refine wp_iaload (q := 13) (n := k) (g := le) (x := le.getD k 0) (pc' := 18) rfl rfl (by first | omega | (simp only [List.length_set]; omega)) (by first | omega | (simp only [List.length_set]; omega)) rfl rfl ?_
      refine wp_p (pc' := 22) (lv' := [(0, .ref 12), (1, .int (nI k))]) (st' := [.int (le.getD k 0)]) rfl rfl ?_
      exact wp_r rfl rfl ⟨rfl, rfl⟩
set_option maxRecDepth 20000 in
theorem c_st_addPart (c0 c1 c2 c3 c4 c5 c6 c7 c8 c9 c10 c11 : sm_E) (t : sm_H) (s0 s1 s2 s3 s4 s5 s6 s7 s8 s9 s10 s11 : Int32) (n : Nat) (x y z : Int32) (le pf pm pt : List Int32) (hn : n < 80) (h1 : pf.length = 80) (h2 : pm.length = 80) (h3 : pt.length = 80) : sm_run none 4 63 0 (lv_args 0 [.ref 12, .int x, .int y, .int z]) [] (c0 :: c1 :: c2 :: c3 :: c4 :: c5 :: c6 :: c7 :: c8 :: c9 :: c10 :: c11 :: .inr (4, [.ref 13, .ref 14, .ref 15, .ref 16, .int s0, .int s1, .int s2, .int s3, .int s4, .int s5, .int s6, .int s7, .int s8, .int s9, .int s10, .int s11, .int (nI n)]) :: .inl (0, .inl le) :: .inl (0, .inl pf) :: .inl (0, .inl pm) :: .inl (0, .inl pt) :: t) (none, (c0 :: c1 :: c2 :: c3 :: c4 :: c5 :: c6 :: c7 :: c8 :: c9 :: c10 :: c11 :: .inr (4, [.ref 13, .ref 14, .ref 15, .ref 16, .int s0, .int s1, .int s2, .int s3, .int s4, .int s5, .int s6, .int s7, .int s8, .int s9, .int s10, .int s11, .int (nI (n + 1))]) :: .inl (0, .inl le) :: .inl (0, .inl (pf.set n x)) :: .inl (0, .inl (pm.set n y)) :: .inl (0, .inl (pt.set n z)) :: t)) := by
  refine wp_to ?_
  refine wp_p (pc' := 1) (lv' := [(0, .ref 12), (1, .int x), (2, .int y), (3, .int z)]) (st' := [.ref 12]) rfl rfl ?_
  refine wp_get (q := 12) (v := .int (nI n)) (pc' := 4) rfl rfl rfl rfl ?_
  refine wp_p (pc' := 6) (lv' := [(0, .ref 12), (1, .int x), (2, .int y), (3, .int z)]) (st' := [.int 80, .int (nI n)]) rfl rfl ?_
  refine wn_ic_ge (n := n) (m := 80) (pc' := 9) rfl (by first | omega | (simp only [List.length_set]; omega)) (by first | omega | (simp only [List.length_set]; omega)) rfl (fun hc1 => ?_) (fun hc1 => ?_)
  · exact absurd hc1 (by omega)
  · refine wp_p (pc' := 10) (lv' := [(0, .ref 12), (1, .int x), (2, .int y), (3, .int z)]) (st' := [.ref 12]) rfl rfl ?_
    refine wp_get (q := 12) (v := .ref 14) (pc' := 13) rfl rfl rfl rfl ?_
    refine wp_p (pc' := 14) (lv' := [(0, .ref 12), (1, .int x), (2, .int y), (3, .int z)]) (st' := [.ref 12, .ref 14]) rfl rfl ?_
    refine wp_get (q := 12) (v := .int (nI n)) (pc' := 17) rfl rfl rfl rfl ?_
    refine wp_p (pc' := 18) (lv' := [(0, .ref 12), (1, .int x), (2, .int y), (3, .int z)]) (st' := [.int x, .int (nI n), .ref 14]) rfl rfl ?_
    refine wp_iastore (q := 14) (n := n) (g := pf) (pc' := 19) (h2 := (c0 :: c1 :: c2 :: c3 :: c4 :: c5 :: c6 :: c7 :: c8 :: c9 :: c10 :: c11 :: .inr (4, [.ref 13, .ref 14, .ref 15, .ref 16, .int s0, .int s1, .int s2, .int s3, .int s4, .int s5, .int s6, .int s7, .int s8, .int s9, .int s10, .int s11, .int (nI n)]) :: .inl (0, .inl le) :: .inl (0, .inl (pf.set n x)) :: .inl (0, .inl pm) :: .inl (0, .inl pt) :: t)) rfl rfl (by first | omega | (simp only [List.length_set]; omega)) (by first | omega | (simp only [List.length_set]; omega)) rfl rfl rfl ?_
    refine wp_p (pc' := 20) (lv' := [(0, .ref 12), (1, .int x), (2, .int y), (3, .int z)]) (st' := [.ref 12]) rfl rfl ?_
    refine wp_get (q := 12) (v := .ref 15) (pc' := 23) rfl rfl rfl rfl ?_
    refine wp_p (pc' := 24) (lv' := [(0, .ref 12), (1, .int x), (2, .int y), (3, .int z)]) (st' := [.ref 12, .ref 15]) rfl rfl ?_
    refine wp_get (q := 12) (v := .int (nI n)) (pc' := 27) rfl rfl rfl rfl ?_
    refine wp_p (pc' := 28) (lv' := [(0, .ref 12), (1, .int x), (2, .int y), (3, .int z)]) (st' := [.int y, .int (nI n), .ref 15]) rfl rfl ?_
    refine wp_iastore (q := 15) (n := n) (g := pm) (pc' := 29) (h2 := (c0 :: c1 :: c2 :: c3 :: c4 :: c5 :: c6 :: c7 :: c8 :: c9 :: c10 :: c11 :: .inr (4, [.ref 13, .ref 14, .ref 15, .ref 16, .int s0, .int s1, .int s2, .int s3, .int s4, .int s5, .int s6, .int s7, .int s8, .int s9, .int s10, .int s11, .int (nI n)]) :: .inl (0, .inl le) :: .inl (0, .inl (pf.set n x)) :: .inl (0, .inl (pm.set n y)) :: .inl (0, .inl pt) :: t)) rfl rfl (by first | omega | (simp only [List.length_set]; omega)) (by first | omega | (simp only [List.length_set]; omega)) rfl rfl rfl ?_
    refine wp_p (pc' := 30) (lv' := [(0, .ref 12), (1, .int x), (2, .int y), (3, .int z)]) (st' := [.ref 12]) rfl rfl ?_
    refine wp_get (q := 12) (v := .ref 16) (pc' := 33) rfl rfl rfl rfl ?_
    refine wp_p (pc' := 34) (lv' := [(0, .ref 12), (1, .int x), (2, .int y), (3, .int z)]) (st' := [.ref 12, .ref 16]) rfl rfl ?_
    refine wp_get (q := 12) (v := .int (nI n)) (pc' := 37) rfl rfl rfl rfl ?_
    refine wp_p (pc' := 38) (lv' := [(0, .ref 12), (1, .int x), (2, .int y), (3, .int z)]) (st' := [.int z, .int (nI n), .ref 16]) rfl rfl ?_
    refine wp_iastore (q := 16) (n := n) (g := pt) (pc' := 39) (h2 := (c0 :: c1 :: c2 :: c3 :: c4 :: c5 :: c6 :: c7 :: c8 :: c9 :: c10 :: c11 :: .inr (4, [.ref 13, .ref 14, .ref 15, .ref 16, .int s0, .int s1, .int s2, .int s3, .int s4, .int s5, .int s6, .int s7, .int s8, .int s9, .int s10, .int s11, .int (nI n)]) :: .inl (0, .inl le) :: .inl (0, .inl (pf.set n x)) :: .inl (0, .inl (pm.set n y)) :: .inl (0, .inl (pt.set n z)) :: t)) rfl rfl (by first | omega | (simp only [List.length_set]; omega)) (by first | omega | (simp only [List.length_set]; omega)) rfl rfl rfl ?_
    refine wp_p (pc' := 40) (lv' := [(0, .ref 12), (1, .int x), (2, .int y), (3, .int z)]) (st' := [.ref 12]) rfl rfl ?_
    refine wp_p (pc' := 41) (lv' := [(0, .ref 12), (1, .int x), (2, .int y), (3, .int z)]) (st' := [.ref 12, .ref 12]) rfl rfl ?_
    refine wp_get (q := 12) (v := .int (nI n)) (pc' := 44) rfl rfl rfl rfl ?_
    refine wp_p (pc' := 45) (lv' := [(0, .ref 12), (1, .int x), (2, .int y), (3, .int z)]) (st' := [.int 1, .int (nI n), .ref 12]) rfl rfl ?_
    refine wp_iadd (v := nI (n + 1)) (pc' := 46) rfl (nI_add n 1) rfl ?_
    refine wp_put (q := 12) (v := .int (nI (n + 1))) (pc' := 49) (h2 := (c0 :: c1 :: c2 :: c3 :: c4 :: c5 :: c6 :: c7 :: c8 :: c9 :: c10 :: c11 :: .inr (4, [.ref 13, .ref 14, .ref 15, .ref 16, .int s0, .int s1, .int s2, .int s3, .int s4, .int s5, .int s6, .int s7, .int s8, .int s9, .int s10, .int s11, .int (nI (n + 1))]) :: .inl (0, .inl le) :: .inl (0, .inl (pf.set n x)) :: .inl (0, .inl (pm.set n y)) :: .inl (0, .inl (pt.set n z)) :: t)) rfl rfl rfl rfl rfl rfl rfl ?_
    exact wp_r rfl rfl ⟨rfl, rfl⟩
set_option maxRecDepth 20000 in
theorem c_st_setOnlyPart (c0 c1 c2 c3 c4 c5 c6 c7 c8 c9 c10 c11 : sm_E) (t : sm_H) (s0 s1 s2 s3 s4 s5 s6 s7 s8 s9 s10 s11 s12 : Int32) (x z : Int32) (le pf pm pt : List Int32) (h1 : pf.length = 80) (h2 : pm.length = 80) (h3 : pt.length = 80) : sm_run none 5 64 0 (lv_args 0 [.ref 12, .int x, .int z]) [] (c0 :: c1 :: c2 :: c3 :: c4 :: c5 :: c6 :: c7 :: c8 :: c9 :: c10 :: c11 :: .inr (4, [.ref 13, .ref 14, .ref 15, .ref 16, .int s0, .int s1, .int s2, .int s3, .int s4, .int s5, .int s6, .int s7, .int s8, .int s9, .int s10, .int s11, .int s12]) :: .inl (0, .inl le) :: .inl (0, .inl pf) :: .inl (0, .inl pm) :: .inl (0, .inl pt) :: t) (none, (c0 :: c1 :: c2 :: c3 :: c4 :: c5 :: c6 :: c7 :: c8 :: c9 :: c10 :: c11 :: .inr (4, [.ref 13, .ref 14, .ref 15, .ref 16, .int s0, .int s1, .int s2, .int s3, .int s4, .int s5, .int s6, .int s7, .int s8, .int s9, .int s10, .int s11, .int (nI (0 + 1))]) :: .inl (0, .inl le) :: .inl (0, .inl (pf.set 0 x)) :: .inl (0, .inl (pm.set 0 (-1))) :: .inl (0, .inl (pt.set 0 z)) :: t)) := by
  refine wp_to ?_
  refine wp_p (pc' := 1) (lv' := [(0, .ref 12), (1, .int x), (2, .int z)]) (st' := [.ref 12]) rfl rfl ?_
  refine wp_p (pc' := 2) (lv' := [(0, .ref 12), (1, .int x), (2, .int z)]) (st' := [.int 0, .ref 12]) rfl rfl ?_
  refine wp_put (q := 12) (v := .int 0) (pc' := 5) (h2 := (c0 :: c1 :: c2 :: c3 :: c4 :: c5 :: c6 :: c7 :: c8 :: c9 :: c10 :: c11 :: .inr (4, [.ref 13, .ref 14, .ref 15, .ref 16, .int s0, .int s1, .int s2, .int s3, .int s4, .int s5, .int s6, .int s7, .int s8, .int s9, .int s10, .int s11, .int 0]) :: .inl (0, .inl le) :: .inl (0, .inl pf) :: .inl (0, .inl pm) :: .inl (0, .inl pt) :: t)) rfl rfl rfl rfl rfl rfl rfl ?_
  refine wp_p (pc' := 6) (lv' := [(0, .ref 12), (1, .int x), (2, .int z)]) (st' := [.ref 12]) rfl rfl ?_
  refine wp_p (pc' := 7) (lv' := [(0, .ref 12), (1, .int x), (2, .int z)]) (st' := [.int x, .ref 12]) rfl rfl ?_
  refine wp_p (pc' := 8) (lv' := [(0, .ref 12), (1, .int x), (2, .int z)]) (st' := [.int (-1), .int x, .ref 12]) rfl rfl ?_
  refine wp_p (pc' := 9) (lv' := [(0, .ref 12), (1, .int x), (2, .int z)]) (st' := [.int z, .int (-1), .int x, .ref 12]) rfl rfl ?_
  refine wp_cvR (As := [.ref 12, .int x, .int (-1), .int z]) (r := []) (v := none) (g := (c0 :: c1 :: c2 :: c3 :: c4 :: c5 :: c6 :: c7 :: c8 :: c9 :: c10 :: c11 :: .inr (4, [.ref 13, .ref 14, .ref 15, .ref 16, .int s0, .int s1, .int s2, .int s3, .int s4, .int s5, .int s6, .int s7, .int s8, .int s9, .int s10, .int s11, .int (nI (0 + 1))]) :: .inl (0, .inl le) :: .inl (0, .inl (pf.set 0 x)) :: .inl (0, .inl (pm.set 0 (-1))) :: .inl (0, .inl (pt.set 0 z)) :: t)) (st2 := []) (pc' := 12) rfl rfl rfl rfl (c_st_addPart c0 c1 c2 c3 c4 c5 c6 c7 c8 c9 c10 c11 t s0 s1 s2 s3 s4 s5 s6 s7 s8 s9 s10 s11 0 x (-1) z le pf pm pt (by omega) h1 h2 h3) (by omega) ?_
  exact wp_r rfl rfl ⟨rfl, rfl⟩
set_option maxRecDepth 20000 in
theorem c_st_hasPlan (c0 c1 c2 c3 c4 c5 c6 c7 c8 c9 c10 c11 : sm_E) (t : sm_H) (s1 s2 s3 s4 s5 s6 s7 s8 s9 s10 s11 s12 : Int32) (vb : Nat) (hv : vb < 1000) : sm_run none 4 65 0 (lv_args 0 [.ref 12]) [] (c0 :: c1 :: c2 :: c3 :: c4 :: c5 :: c6 :: c7 :: c8 :: c9 :: c10 :: c11 :: .inr (4, [.ref 13, .ref 14, .ref 15, .ref 16, .int (nI vb), .int s1, .int s2, .int s3, .int s4, .int s5, .int s6, .int s7, .int s8, .int s9, .int s10, .int s11, .int s12]) :: t) ((some (.int (if vb = 7 ∨ vb = 8 ∨ vb = 9 then 1 else 0))), (c0 :: c1 :: c2 :: c3 :: c4 :: c5 :: c6 :: c7 :: c8 :: c9 :: c10 :: c11 :: .inr (4, [.ref 13, .ref 14, .ref 15, .ref 16, .int (nI vb), .int s1, .int s2, .int s3, .int s4, .int s5, .int s6, .int s7, .int s8, .int s9, .int s10, .int s11, .int s12]) :: t)) := by
  refine wp_to ?_
  refine wp_p (pc' := 1) (lv' := [(0, .ref 12)]) (st' := [.ref 12]) rfl rfl ?_
  refine wp_get (q := 12) (v := .int (nI vb)) (pc' := 4) rfl rfl rfl rfl ?_
  refine wp_p (pc' := 6) (lv' := [(0, .ref 12)]) (st' := [.int 7, .int (nI vb)]) rfl rfl ?_
  refine wn_ic_eq (n := vb) (m := 7) (pc' := 9) rfl (by first | omega | (simp only [List.length_set]; omega)) (by first | omega | (simp only [List.length_set]; omega)) rfl (fun hc1 => ?_) (fun hc1 => ?_)
  · refine wp_p (pc' := 28) (lv' := [(0, .ref 12)]) (st' := [.int 1]) rfl rfl ?_
    refine wp_p (pc' := 32) (lv' := [(0, .ref 12)]) (st' := [.int 1]) rfl rfl ?_
    exact wp_r rfl rfl ⟨by rw [if_pos (by omega)], rfl⟩
  · refine wp_p (pc' := 10) (lv' := [(0, .ref 12)]) (st' := [.ref 12]) rfl rfl ?_
    refine wp_get (q := 12) (v := .int (nI vb)) (pc' := 13) rfl rfl rfl rfl ?_
    refine wp_p (pc' := 15) (lv' := [(0, .ref 12)]) (st' := [.int 8, .int (nI vb)]) rfl rfl ?_
    refine wn_ic_eq (n := vb) (m := 8) (pc' := 18) rfl (by first | omega | (simp only [List.length_set]; omega)) (by first | omega | (simp only [List.length_set]; omega)) rfl (fun hc2 => ?_) (fun hc2 => ?_)
    · refine wp_p (pc' := 28) (lv' := [(0, .ref 12)]) (st' := [.int 1]) rfl rfl ?_
      refine wp_p (pc' := 32) (lv' := [(0, .ref 12)]) (st' := [.int 1]) rfl rfl ?_
      exact wp_r rfl rfl ⟨by rw [if_pos (by omega)], rfl⟩
    · refine wp_p (pc' := 19) (lv' := [(0, .ref 12)]) (st' := [.ref 12]) rfl rfl ?_
      refine wp_get (q := 12) (v := .int (nI vb)) (pc' := 22) rfl rfl rfl rfl ?_
      refine wp_p (pc' := 24) (lv' := [(0, .ref 12)]) (st' := [.int 9, .int (nI vb)]) rfl rfl ?_
      refine wn_ic_ne (n := vb) (m := 9) (pc' := 27) rfl (by first | omega | (simp only [List.length_set]; omega)) (by first | omega | (simp only [List.length_set]; omega)) rfl (fun hc3 => ?_) (fun hc3 => ?_)
      · refine wp_p (pc' := 32) (lv' := [(0, .ref 12)]) (st' := [.int 0]) rfl rfl ?_
        exact wp_r rfl rfl ⟨by rw [if_neg (by omega)], rfl⟩
      · refine wp_p (pc' := 28) (lv' := [(0, .ref 12)]) (st' := [.int 1]) rfl rfl ?_
        refine wp_p (pc' := 32) (lv' := [(0, .ref 12)]) (st' := [.int 1]) rfl rfl ?_
        exact wp_r rfl rfl ⟨by rw [if_pos (by omega)], rfl⟩
set_option maxRecDepth 20000 in
theorem c_st_hasWhere (c0 c1 c2 c3 c4 c5 c6 c7 c8 c9 c10 c11 : sm_E) (t : sm_H) (s0 s1 s2 s3 s4 s5 s8 s9 s10 s11 s12 : Int32) (a b : Nat) (ha : a < 1000) (hb : b < 1000) : sm_run none 4 66 0 (lv_args 0 [.ref 12]) [] (c0 :: c1 :: c2 :: c3 :: c4 :: c5 :: c6 :: c7 :: c8 :: c9 :: c10 :: c11 :: .inr (4, [.ref 13, .ref 14, .ref 15, .ref 16, .int s0, .int s1, .int s2, .int s3, .int s4, .int s5, .int (nI a), .int (nI b), .int s8, .int s9, .int s10, .int s11, .int s12]) :: t) ((some (.int (if a < b then 1 else 0))), (c0 :: c1 :: c2 :: c3 :: c4 :: c5 :: c6 :: c7 :: c8 :: c9 :: c10 :: c11 :: .inr (4, [.ref 13, .ref 14, .ref 15, .ref 16, .int s0, .int s1, .int s2, .int s3, .int s4, .int s5, .int (nI a), .int (nI b), .int s8, .int s9, .int s10, .int s11, .int s12]) :: t)) := by
  refine wp_to ?_
  refine wp_p (pc' := 1) (lv' := [(0, .ref 12)]) (st' := [.ref 12]) rfl rfl ?_
  refine wp_get (q := 12) (v := .int (nI b)) (pc' := 4) rfl rfl rfl rfl ?_
  refine wp_p (pc' := 5) (lv' := [(0, .ref 12)]) (st' := [.ref 12, .int (nI b)]) rfl rfl ?_
  refine wp_get (q := 12) (v := .int (nI a)) (pc' := 8) rfl rfl rfl rfl ?_
  refine wn_ic_le (n := b) (m := a) (pc' := 11) rfl (by first | omega | (simp only [List.length_set]; omega)) (by first | omega | (simp only [List.length_set]; omega)) rfl (fun hc1 => ?_) (fun hc1 => ?_)
  · refine wp_p (pc' := 16) (lv' := [(0, .ref 12)]) (st' := [.int 0]) rfl rfl ?_
    exact wp_r rfl rfl ⟨by rw [if_neg (by omega)], rfl⟩
  · refine wp_p (pc' := 12) (lv' := [(0, .ref 12)]) (st' := [.int 1]) rfl rfl ?_
    refine wp_p (pc' := 16) (lv' := [(0, .ref 12)]) (st' := [.int 1]) rfl rfl ?_
    exact wp_r rfl rfl ⟨by rw [if_pos (by omega)], rfl⟩
set_option maxRecDepth 20000 in
theorem c_st_hasOrder (c0 c1 c2 c3 c4 c5 c6 c7 c8 c9 c10 c11 : sm_E) (t : sm_H) (s0 s1 s2 s3 s4 s5 s6 s7 s10 s11 s12 : Int32) (a b : Nat) (ha : a < 1000) (hb : b < 1000) : sm_run none 4 67 0 (lv_args 0 [.ref 12]) [] (c0 :: c1 :: c2 :: c3 :: c4 :: c5 :: c6 :: c7 :: c8 :: c9 :: c10 :: c11 :: .inr (4, [.ref 13, .ref 14, .ref 15, .ref 16, .int s0, .int s1, .int s2, .int s3, .int s4, .int s5, .int s6, .int s7, .int (nI a), .int (nI b), .int s10, .int s11, .int s12]) :: t) ((some (.int (if a < b then 1 else 0))), (c0 :: c1 :: c2 :: c3 :: c4 :: c5 :: c6 :: c7 :: c8 :: c9 :: c10 :: c11 :: .inr (4, [.ref 13, .ref 14, .ref 15, .ref 16, .int s0, .int s1, .int s2, .int s3, .int s4, .int s5, .int s6, .int s7, .int (nI a), .int (nI b), .int s10, .int s11, .int s12]) :: t)) := by
  refine wp_to ?_
  refine wp_p (pc' := 1) (lv' := [(0, .ref 12)]) (st' := [.ref 12]) rfl rfl ?_
  refine wp_get (q := 12) (v := .int (nI b)) (pc' := 4) rfl rfl rfl rfl ?_
  refine wp_p (pc' := 5) (lv' := [(0, .ref 12)]) (st' := [.ref 12, .int (nI b)]) rfl rfl ?_
  refine wp_get (q := 12) (v := .int (nI a)) (pc' := 8) rfl rfl rfl rfl ?_
  refine wn_ic_le (n := b) (m := a) (pc' := 11) rfl (by first | omega | (simp only [List.length_set]; omega)) (by first | omega | (simp only [List.length_set]; omega)) rfl (fun hc1 => ?_) (fun hc1 => ?_)
  · refine wp_p (pc' := 16) (lv' := [(0, .ref 12)]) (st' := [.int 0]) rfl rfl ?_
    exact wp_r rfl rfl ⟨by rw [if_neg (by omega)], rfl⟩
  · refine wp_p (pc' := 12) (lv' := [(0, .ref 12)]) (st' := [.int 1]) rfl rfl ?_
    refine wp_p (pc' := 16) (lv' := [(0, .ref 12)]) (st' := [.int 1]) rfl rfl ?_
    exact wp_r rfl rfl ⟨by rw [if_pos (by omega)], rfl⟩
set_option maxRecDepth 20000 in
theorem c_cd_clear (c0 c1 c2 c3 c4 c5 c6 c7 c8 c9 c10 c11 c12 c13 c14 c15 c16 : sm_E) (t : sm_H) (us : Nat)  : sm_run none 4 45 0 (lv_args 0 [.ref 17]) [] (c0 :: c1 :: c2 :: c3 :: c4 :: c5 :: c6 :: c7 :: c8 :: c9 :: c10 :: c11 :: c12 :: c13 :: c14 :: c15 :: c16 :: .inr (3, [.ref 18, .ref 19, .ref 20, .ref 21, .ref 22, .int (nI us)]) :: t) (none, (c0 :: c1 :: c2 :: c3 :: c4 :: c5 :: c6 :: c7 :: c8 :: c9 :: c10 :: c11 :: c12 :: c13 :: c14 :: c15 :: c16 :: .inr (3, [.ref 18, .ref 19, .ref 20, .ref 21, .ref 22, .int 0]) :: t)) := by
  refine wp_to ?_
  refine wp_p (pc' := 1) (lv' := [(0, .ref 17)]) (st' := [.ref 17]) rfl rfl ?_
  refine wp_p (pc' := 2) (lv' := [(0, .ref 17)]) (st' := [.int 0, .ref 17]) rfl rfl ?_
  refine wp_put (q := 17) (v := .int 0) (pc' := 5) (h2 := (c0 :: c1 :: c2 :: c3 :: c4 :: c5 :: c6 :: c7 :: c8 :: c9 :: c10 :: c11 :: c12 :: c13 :: c14 :: c15 :: c16 :: .inr (3, [.ref 18, .ref 19, .ref 20, .ref 21, .ref 22, .int 0]) :: t)) rfl rfl rfl rfl rfl rfl rfl ?_
  exact wp_r rfl rfl ⟨rfl, rfl⟩
set_option maxRecDepth 20000 in
theorem c_cd_add (c0 c1 c2 c3 c4 c5 c6 c7 c8 c9 c10 c11 c12 c13 c14 c15 c16 : sm_E) (t : sm_H) (us : Nat) (sa na oa da : List Int32) (x y w : Int32) (hu : us < 80) (h1 : sa.length = 80) (h2 : na.length = 80) (h3 : oa.length = 80) (h4 : da.length = 80) : sm_run none 4 47 0 (lv_args 0 [.ref 17, .int x, .int y, .int w]) [] (c0 :: c1 :: c2 :: c3 :: c4 :: c5 :: c6 :: c7 :: c8 :: c9 :: c10 :: c11 :: c12 :: c13 :: c14 :: c15 :: c16 :: .inr (3, [.ref 18, .ref 19, .ref 20, .ref 21, .ref 22, .int (nI us)]) :: .inl (0, .inl sa) :: .inl (0, .inl na) :: .inl (0, .inl oa) :: .inl (0, .inl da) :: t) (none, (c0 :: c1 :: c2 :: c3 :: c4 :: c5 :: c6 :: c7 :: c8 :: c9 :: c10 :: c11 :: c12 :: c13 :: c14 :: c15 :: c16 :: .inr (3, [.ref 18, .ref 19, .ref 20, .ref 21, .ref 22, .int (nI (us + 1))]) :: .inl (0, .inl (sa.set us x)) :: .inl (0, .inl (na.set us y)) :: .inl (0, .inl (oa.set us w)) :: .inl (0, .inl (da.set us 0)) :: t)) := by
  refine wp_to ?_
  refine wp_p (pc' := 1) (lv' := [(0, .ref 17), (1, .int x), (2, .int y), (3, .int w)]) (st' := [.ref 17]) rfl rfl ?_
  refine wp_get (q := 17) (v := .int (nI us)) (pc' := 4) rfl rfl rfl rfl ?_
  refine wp_p (pc' := 6) (lv' := [(0, .ref 17), (1, .int x), (2, .int y), (3, .int w)]) (st' := [.int 80, .int (nI us)]) rfl rfl ?_
  refine wn_ic_ge (n := us) (m := 80) (pc' := 9) rfl (by first | omega | (simp only [List.length_set]; omega)) (by first | omega | (simp only [List.length_set]; omega)) rfl (fun hc1 => ?_) (fun hc1 => ?_)
  · exact absurd hc1 (by omega)
  · refine wp_p (pc' := 10) (lv' := [(0, .ref 17), (1, .int x), (2, .int y), (3, .int w)]) (st' := [.ref 17]) rfl rfl ?_
    refine wp_get (q := 17) (v := .ref 18) (pc' := 13) rfl rfl rfl rfl ?_
    refine wp_p (pc' := 14) (lv' := [(0, .ref 17), (1, .int x), (2, .int y), (3, .int w)]) (st' := [.ref 17, .ref 18]) rfl rfl ?_
    refine wp_get (q := 17) (v := .int (nI us)) (pc' := 17) rfl rfl rfl rfl ?_
    refine wp_p (pc' := 18) (lv' := [(0, .ref 17), (1, .int x), (2, .int y), (3, .int w)]) (st' := [.int x, .int (nI us), .ref 18]) rfl rfl ?_
    refine wp_iastore (q := 18) (n := us) (g := sa) (pc' := 19) (h2 := (c0 :: c1 :: c2 :: c3 :: c4 :: c5 :: c6 :: c7 :: c8 :: c9 :: c10 :: c11 :: c12 :: c13 :: c14 :: c15 :: c16 :: .inr (3, [.ref 18, .ref 19, .ref 20, .ref 21, .ref 22, .int (nI us)]) :: .inl (0, .inl (sa.set us x)) :: .inl (0, .inl na) :: .inl (0, .inl oa) :: .inl (0, .inl da) :: t)) rfl rfl (by first | omega | (simp only [List.length_set]; omega)) (by first | omega | (simp only [List.length_set]; omega)) rfl rfl rfl ?_
    refine wp_p (pc' := 20) (lv' := [(0, .ref 17), (1, .int x), (2, .int y), (3, .int w)]) (st' := [.ref 17]) rfl rfl ?_
    refine wp_get (q := 17) (v := .ref 19) (pc' := 23) rfl rfl rfl rfl ?_
    refine wp_p (pc' := 24) (lv' := [(0, .ref 17), (1, .int x), (2, .int y), (3, .int w)]) (st' := [.ref 17, .ref 19]) rfl rfl ?_
    refine wp_get (q := 17) (v := .int (nI us)) (pc' := 27) rfl rfl rfl rfl ?_
    refine wp_p (pc' := 28) (lv' := [(0, .ref 17), (1, .int x), (2, .int y), (3, .int w)]) (st' := [.int y, .int (nI us), .ref 19]) rfl rfl ?_
    refine wp_iastore (q := 19) (n := us) (g := na) (pc' := 29) (h2 := (c0 :: c1 :: c2 :: c3 :: c4 :: c5 :: c6 :: c7 :: c8 :: c9 :: c10 :: c11 :: c12 :: c13 :: c14 :: c15 :: c16 :: .inr (3, [.ref 18, .ref 19, .ref 20, .ref 21, .ref 22, .int (nI us)]) :: .inl (0, .inl (sa.set us x)) :: .inl (0, .inl (na.set us y)) :: .inl (0, .inl oa) :: .inl (0, .inl da) :: t)) rfl rfl (by first | omega | (simp only [List.length_set]; omega)) (by first | omega | (simp only [List.length_set]; omega)) rfl rfl rfl ?_
    refine wp_p (pc' := 30) (lv' := [(0, .ref 17), (1, .int x), (2, .int y), (3, .int w)]) (st' := [.ref 17]) rfl rfl ?_
    refine wp_get (q := 17) (v := .ref 20) (pc' := 33) rfl rfl rfl rfl ?_
    refine wp_p (pc' := 34) (lv' := [(0, .ref 17), (1, .int x), (2, .int y), (3, .int w)]) (st' := [.ref 17, .ref 20]) rfl rfl ?_
    refine wp_get (q := 17) (v := .int (nI us)) (pc' := 37) rfl rfl rfl rfl ?_
    refine wp_p (pc' := 38) (lv' := [(0, .ref 17), (1, .int x), (2, .int y), (3, .int w)]) (st' := [.int w, .int (nI us), .ref 20]) rfl rfl ?_
    refine wp_iastore (q := 20) (n := us) (g := oa) (pc' := 39) (h2 := (c0 :: c1 :: c2 :: c3 :: c4 :: c5 :: c6 :: c7 :: c8 :: c9 :: c10 :: c11 :: c12 :: c13 :: c14 :: c15 :: c16 :: .inr (3, [.ref 18, .ref 19, .ref 20, .ref 21, .ref 22, .int (nI us)]) :: .inl (0, .inl (sa.set us x)) :: .inl (0, .inl (na.set us y)) :: .inl (0, .inl (oa.set us w)) :: .inl (0, .inl da) :: t)) rfl rfl (by first | omega | (simp only [List.length_set]; omega)) (by first | omega | (simp only [List.length_set]; omega)) rfl rfl rfl ?_
    refine wp_p (pc' := 40) (lv' := [(0, .ref 17), (1, .int x), (2, .int y), (3, .int w)]) (st' := [.ref 17]) rfl rfl ?_
    refine wp_get (q := 17) (v := .ref 21) (pc' := 43) rfl rfl rfl rfl ?_
    refine wp_p (pc' := 44) (lv' := [(0, .ref 17), (1, .int x), (2, .int y), (3, .int w)]) (st' := [.ref 17, .ref 21]) rfl rfl ?_
    refine wp_get (q := 17) (v := .int (nI us)) (pc' := 47) rfl rfl rfl rfl ?_
    refine wp_p (pc' := 48) (lv' := [(0, .ref 17), (1, .int x), (2, .int y), (3, .int w)]) (st' := [.int 0, .int (nI us), .ref 21]) rfl rfl ?_
    refine wp_iastore (q := 21) (n := us) (g := da) (pc' := 49) (h2 := (c0 :: c1 :: c2 :: c3 :: c4 :: c5 :: c6 :: c7 :: c8 :: c9 :: c10 :: c11 :: c12 :: c13 :: c14 :: c15 :: c16 :: .inr (3, [.ref 18, .ref 19, .ref 20, .ref 21, .ref 22, .int (nI us)]) :: .inl (0, .inl (sa.set us x)) :: .inl (0, .inl (na.set us y)) :: .inl (0, .inl (oa.set us w)) :: .inl (0, .inl (da.set us 0)) :: t)) rfl rfl (by first | omega | (simp only [List.length_set]; omega)) (by first | omega | (simp only [List.length_set]; omega)) rfl rfl rfl ?_
    refine wp_p (pc' := 50) (lv' := [(0, .ref 17), (1, .int x), (2, .int y), (3, .int w)]) (st' := [.ref 17]) rfl rfl ?_
    refine wp_p (pc' := 51) (lv' := [(0, .ref 17), (1, .int x), (2, .int y), (3, .int w)]) (st' := [.ref 17, .ref 17]) rfl rfl ?_
    refine wp_get (q := 17) (v := .int (nI us)) (pc' := 54) rfl rfl rfl rfl ?_
    refine wp_p (pc' := 55) (lv' := [(0, .ref 17), (1, .int x), (2, .int y), (3, .int w)]) (st' := [.int 1, .int (nI us), .ref 17]) rfl rfl ?_
    refine wp_iadd (v := nI (us + 1)) (pc' := 56) rfl (nI_add us 1) rfl ?_
    refine wp_put (q := 17) (v := .int (nI (us + 1))) (pc' := 59) (h2 := (c0 :: c1 :: c2 :: c3 :: c4 :: c5 :: c6 :: c7 :: c8 :: c9 :: c10 :: c11 :: c12 :: c13 :: c14 :: c15 :: c16 :: .inr (3, [.ref 18, .ref 19, .ref 20, .ref 21, .ref 22, .int (nI (us + 1))]) :: .inl (0, .inl (sa.set us x)) :: .inl (0, .inl (na.set us y)) :: .inl (0, .inl (oa.set us w)) :: .inl (0, .inl (da.set us 0)) :: t)) rfl rfl rfl rfl rfl rfl rfl ?_
    exact wp_r rfl rfl ⟨rfl, rfl⟩
set_option maxRecDepth 20000 in
theorem c_cd_addOperator (c0 c1 c2 c3 c4 c5 c6 c7 c8 c9 c10 c11 c12 c13 c14 c15 c16 : sm_E) (t : sm_H) (us : Nat) (sa na oa da : List Int32) (x : Int32) (hu : us < 80) (h1 : sa.length = 80) (h2 : na.length = 80) (h3 : oa.length = 80) (h4 : da.length = 80) : sm_run none 5 46 0 (lv_args 0 [.ref 17, .int x]) [] (c0 :: c1 :: c2 :: c3 :: c4 :: c5 :: c6 :: c7 :: c8 :: c9 :: c10 :: c11 :: c12 :: c13 :: c14 :: c15 :: c16 :: .inr (3, [.ref 18, .ref 19, .ref 20, .ref 21, .ref 22, .int (nI us)]) :: .inl (0, .inl sa) :: .inl (0, .inl na) :: .inl (0, .inl oa) :: .inl (0, .inl da) :: t) (none, (c0 :: c1 :: c2 :: c3 :: c4 :: c5 :: c6 :: c7 :: c8 :: c9 :: c10 :: c11 :: c12 :: c13 :: c14 :: c15 :: c16 :: .inr (3, [.ref 18, .ref 19, .ref 20, .ref 21, .ref 22, .int (nI (us + 1))]) :: .inl (0, .inl (sa.set us x)) :: .inl (0, .inl (na.set us 0)) :: .inl (0, .inl (oa.set us (-1))) :: .inl (0, .inl (da.set us 0)) :: t)) := by
  refine wp_to ?_
  refine wp_p (pc' := 1) (lv' := [(0, .ref 17), (1, .int x)]) (st' := [.ref 17]) rfl rfl ?_
  refine wp_p (pc' := 2) (lv' := [(0, .ref 17), (1, .int x)]) (st' := [.int x, .ref 17]) rfl rfl ?_
  refine wp_p (pc' := 3) (lv' := [(0, .ref 17), (1, .int x)]) (st' := [.int 0, .int x, .ref 17]) rfl rfl ?_
  refine wp_p (pc' := 4) (lv' := [(0, .ref 17), (1, .int x)]) (st' := [.int (-1), .int 0, .int x, .ref 17]) rfl rfl ?_
  refine wp_cvR (As := [.ref 17, .int x, .int 0, .int (-1)]) (r := []) (v := none) (g := (c0 :: c1 :: c2 :: c3 :: c4 :: c5 :: c6 :: c7 :: c8 :: c9 :: c10 :: c11 :: c12 :: c13 :: c14 :: c15 :: c16 :: .inr (3, [.ref 18, .ref 19, .ref 20, .ref 21, .ref 22, .int (nI (us + 1))]) :: .inl (0, .inl (sa.set us x)) :: .inl (0, .inl (na.set us 0)) :: .inl (0, .inl (oa.set us (-1))) :: .inl (0, .inl (da.set us 0)) :: t)) (st2 := []) (pc' := 7) rfl rfl rfl rfl (c_cd_add c0 c1 c2 c3 c4 c5 c6 c7 c8 c9 c10 c11 c12 c13 c14 c15 c16 t us sa na oa da x 0 (-1) hu h1 h2 h3 h4) (by omega) ?_
  exact wp_r rfl rfl ⟨rfl, rfl⟩
set_option maxRecDepth 20000 in
theorem c_cd_isColumn (c0 c1 c2 c3 c4 c5 c6 c7 c8 c9 c10 c11 c12 c13 c14 c15 c16 : sm_E) (t : sm_H) (us : Nat) (sa na oa da : List Int32) (k : Nat) (hu : us ≤ 80) (hk : k < 1000) (h1 : sa.length = 80) (h2 : na.length = 80) (h3 : oa.length = 80) (h4 : da.length = 80) : sm_run none 4 48 0 (lv_args 0 [.ref 17, .int (nI k)]) [] (c0 :: c1 :: c2 :: c3 :: c4 :: c5 :: c6 :: c7 :: c8 :: c9 :: c10 :: c11 :: c12 :: c13 :: c14 :: c15 :: c16 :: .inr (3, [.ref 18, .ref 19, .ref 20, .ref 21, .ref 22, .int (nI us)]) :: .inl (0, .inl sa) :: .inl (0, .inl na) :: .inl (0, .inl oa) :: .inl (0, .inl da) :: t) ((some (.int (if k < us ∧ sa.getD k 0 = 3 then 1 else 0))), (c0 :: c1 :: c2 :: c3 :: c4 :: c5 :: c6 :: c7 :: c8 :: c9 :: c10 :: c11 :: c12 :: c13 :: c14 :: c15 :: c16 :: .inr (3, [.ref 18, .ref 19, .ref 20, .ref 21, .ref 22, .int (nI us)]) :: .inl (0, .inl sa) :: .inl (0, .inl na) :: .inl (0, .inl oa) :: .inl (0, .inl da) :: t)) := by
  refine wp_to ?_
  refine wp_p (pc' := 1) (lv' := [(0, .ref 17), (1, .int (nI k))]) (st' := [.int (nI k)]) rfl rfl ?_
  refine wn_if_lt (n := k) (pc' := 4) rfl (by first | omega | (simp only [List.length_set]; omega)) rfl (fun hc1 => ?_) (fun hc1 => ?_)
  · exact hc1.elim
  · refine wp_p (pc' := 5) (lv' := [(0, .ref 17), (1, .int (nI k))]) (st' := [.int (nI k)]) rfl rfl ?_
    refine wp_p (pc' := 6) (lv' := [(0, .ref 17), (1, .int (nI k))]) (st' := [.ref 17, .int (nI k)]) rfl rfl ?_
    refine wp_get (q := 17) (v := .int (nI us)) (pc' := 9) rfl rfl rfl rfl ?_
    refine wn_ic_ge (n := k) (m := us) (pc' := 12) rfl (by first | omega | (simp only [List.length_set]; omega)) (by first | omega | (simp only [List.length_set]; omega)) rfl (fun hc2 => ?_) (fun hc2 => ?_)
    · refine wp_p (pc' := 27) (lv' := [(0, .ref 17), (1, .int (nI k))]) (st' := [.int 0]) rfl rfl ?_
      exact wp_r rfl rfl ⟨by rw [if_neg (by first | exact ⟨by omega, by assumption⟩ | (intro q; first | omega | exact absurd q.2 (by assumption)))], rfl⟩
    · refine wp_p (pc' := 13) (lv' := [(0, .ref 17), (1, .int (nI k))]) (st' := [.ref 17]) rfl rfl ?_
      refine wp_get (q := 17) (v := .ref 18) (pc' := 16) rfl rfl rfl rfl ?_
      refine wp_p (pc' := 17) (lv' := [(0, .ref 17), (1, .int (nI k))]) (st' := [.int (nI k), .ref 18]) rfl rfl ?_
      refine wp_iaload (q := 18) (n := k) (g := sa) (x := sa.getD k 0) (pc' := 18) rfl rfl (by first | omega | (simp only [List.length_set]; omega)) (by first | omega | (simp only [List.length_set]; omega)) rfl rfl ?_
      refine wp_p (pc' := 19) (lv' := [(0, .ref 17), (1, .int (nI k))]) (st' := [.int 3, .int (sa.getD k 0)]) rfl rfl ?_
      refine wp_ic_ne (pc' := 22) rfl rfl (fun hc3 => ?_) (fun hc3 => ?_)
      · refine wp_p (pc' := 27) (lv' := [(0, .ref 17), (1, .int (nI k))]) (st' := [.int 0]) rfl rfl ?_
        exact wp_r rfl rfl ⟨by rw [if_neg (by first | exact ⟨by omega, by assumption⟩ | (intro q; first | omega | exact absurd q.2 (by assumption)))], rfl⟩
      · refine wp_p (pc' := 23) (lv' := [(0, .ref 17), (1, .int (nI k))]) (st' := [.int 1]) rfl rfl ?_
        refine wp_p (pc' := 27) (lv' := [(0, .ref 17), (1, .int (nI k))]) (st' := [.int 1]) rfl rfl ?_
        exact wp_r rfl rfl ⟨by rw [if_pos (by first | exact ⟨by omega, by assumption⟩ | (intro q; first | omega | exact absurd q.2 (by assumption)))], rfl⟩
set_option maxRecDepth 20000 in
theorem c_pr_tableOf0 (c0 c1 c2 c3 c4 c5 c6 c7 c8 c9 c10 c11 c12 c13 c14 c15 c16 c17 c18 c19 c20 c21 c22 : sm_E) (t : sm_H) (p1 p2 : Nat)  : sm_run none 4 41 0 (lv_args 0 [.ref 23, .int 0]) [] (c0 :: c1 :: c2 :: c3 :: c4 :: c5 :: c6 :: c7 :: c8 :: c9 :: c10 :: c11 :: c12 :: c13 :: c14 :: c15 :: c16 :: c17 :: c18 :: c19 :: c20 :: c21 :: c22 :: .inr (2, [.ref 24, .ref p1, .ref p2]) :: t) ((some (.ref p1)), (c0 :: c1 :: c2 :: c3 :: c4 :: c5 :: c6 :: c7 :: c8 :: c9 :: c10 :: c11 :: c12 :: c13 :: c14 :: c15 :: c16 :: c17 :: c18 :: c19 :: c20 :: c21 :: c22 :: .inr (2, [.ref 24, .ref p1, .ref p2]) :: t)) := by
  refine wp_to ?_
  refine wp_p (pc' := 1) (lv' := [(0, .ref 23), (1, .int 0)]) (st' := [.int 0]) rfl rfl ?_
  refine wp_p (pc' := 4) (lv' := [(0, .ref 23), (1, .int 0)]) (st' := []) rfl rfl ?_
  refine wp_p (pc' := 5) (lv' := [(0, .ref 23), (1, .int 0)]) (st' := [.ref 23]) rfl rfl ?_
  refine wp_get (q := 23) (v := .ref p1) (pc' := 8) rfl rfl rfl rfl ?_
  refine wp_p (pc' := 15) (lv' := [(0, .ref 23), (1, .int 0)]) (st' := [.ref p1]) rfl rfl ?_
  exact wp_r rfl rfl ⟨rfl, rfl⟩
set_option maxRecDepth 20000 in
theorem c_pr_tableOf1 (c0 c1 c2 c3 c4 c5 c6 c7 c8 c9 c10 c11 c12 c13 c14 c15 c16 c17 c18 c19 c20 c21 c22 : sm_E) (t : sm_H) (p1 p2 : Nat)  : sm_run none 4 41 0 (lv_args 0 [.ref 23, .int 1]) [] (c0 :: c1 :: c2 :: c3 :: c4 :: c5 :: c6 :: c7 :: c8 :: c9 :: c10 :: c11 :: c12 :: c13 :: c14 :: c15 :: c16 :: c17 :: c18 :: c19 :: c20 :: c21 :: c22 :: .inr (2, [.ref 24, .ref p1, .ref p2]) :: t) ((some (.ref p2)), (c0 :: c1 :: c2 :: c3 :: c4 :: c5 :: c6 :: c7 :: c8 :: c9 :: c10 :: c11 :: c12 :: c13 :: c14 :: c15 :: c16 :: c17 :: c18 :: c19 :: c20 :: c21 :: c22 :: .inr (2, [.ref 24, .ref p1, .ref p2]) :: t)) := by
  refine wp_to ?_
  refine wp_p (pc' := 1) (lv' := [(0, .ref 23), (1, .int 1)]) (st' := [.int 1]) rfl rfl ?_
  refine wp_p (pc' := 11) (lv' := [(0, .ref 23), (1, .int 1)]) (st' := []) rfl rfl ?_
  refine wp_p (pc' := 12) (lv' := [(0, .ref 23), (1, .int 1)]) (st' := [.ref 23]) rfl rfl ?_
  refine wp_get (q := 23) (v := .ref p2) (pc' := 15) rfl rfl rfl rfl ?_
  exact wp_r rfl rfl ⟨rfl, rfl⟩
set_option maxRecDepth 20000 in
theorem c_pr_rowOf0 (c0 c1 c2 c3 c4 c5 c6 c7 c8 c9 c10 c11 c12 c13 c14 c15 c16 c17 c18 c19 c20 c21 c22 : sm_E) (t : sm_H) (p1 p2 : Nat) (rw : List Int32) (h1 : rw.length = 2) : sm_run none 4 42 0 (lv_args 0 [.ref 23, .int 0]) [] (c0 :: c1 :: c2 :: c3 :: c4 :: c5 :: c6 :: c7 :: c8 :: c9 :: c10 :: c11 :: c12 :: c13 :: c14 :: c15 :: c16 :: c17 :: c18 :: c19 :: c20 :: c21 :: c22 :: .inr (2, [.ref 24, .ref p1, .ref p2]) :: .inl (0, .inl rw) :: t) ((some (.int (rw.getD 0 0))), (c0 :: c1 :: c2 :: c3 :: c4 :: c5 :: c6 :: c7 :: c8 :: c9 :: c10 :: c11 :: c12 :: c13 :: c14 :: c15 :: c16 :: c17 :: c18 :: c19 :: c20 :: c21 :: c22 :: .inr (2, [.ref 24, .ref p1, .ref p2]) :: .inl (0, .inl rw) :: t)) := by
  refine wp_to ?_
  refine wp_p (pc' := 1) (lv' := [(0, .ref 23), (1, .int 0)]) (st' := [.int 0]) rfl rfl ?_
  refine wp_p (pc' := 4) (lv' := [(0, .ref 23), (1, .int 0)]) (st' := []) rfl rfl ?_
  refine wp_p (pc' := 5) (lv' := [(0, .ref 23), (1, .int 0)]) (st' := [.ref 23]) rfl rfl ?_
  refine wp_get (q := 23) (v := .ref 24) (pc' := 8) rfl rfl rfl rfl ?_
  refine wp_p (pc' := 9) (lv' := [(0, .ref 23), (1, .int 0)]) (st' := [.int 0, .ref 24]) rfl rfl ?_
  refine wp_iaload (q := 24) (n := 0) (g := rw) (x := rw.getD 0 0) (pc' := 10) rfl rfl (by first | omega | (simp only [List.length_set]; omega)) (by first | omega | (simp only [List.length_set]; omega)) rfl rfl ?_
  refine wp_p (pc' := 19) (lv' := [(0, .ref 23), (1, .int 0)]) (st' := [.int (rw.getD 0 0)]) rfl rfl ?_
  exact wp_r rfl rfl ⟨rfl, rfl⟩
set_option maxRecDepth 20000 in
theorem c_pr_rowOf1 (c0 c1 c2 c3 c4 c5 c6 c7 c8 c9 c10 c11 c12 c13 c14 c15 c16 c17 c18 c19 c20 c21 c22 : sm_E) (t : sm_H) (p1 p2 : Nat) (rw : List Int32) (h1 : rw.length = 2) : sm_run none 4 42 0 (lv_args 0 [.ref 23, .int 1]) [] (c0 :: c1 :: c2 :: c3 :: c4 :: c5 :: c6 :: c7 :: c8 :: c9 :: c10 :: c11 :: c12 :: c13 :: c14 :: c15 :: c16 :: c17 :: c18 :: c19 :: c20 :: c21 :: c22 :: .inr (2, [.ref 24, .ref p1, .ref p2]) :: .inl (0, .inl rw) :: t) ((some (.int (rw.getD 1 0))), (c0 :: c1 :: c2 :: c3 :: c4 :: c5 :: c6 :: c7 :: c8 :: c9 :: c10 :: c11 :: c12 :: c13 :: c14 :: c15 :: c16 :: c17 :: c18 :: c19 :: c20 :: c21 :: c22 :: .inr (2, [.ref 24, .ref p1, .ref p2]) :: .inl (0, .inl rw) :: t)) := by
  refine wp_to ?_
  refine wp_p (pc' := 1) (lv' := [(0, .ref 23), (1, .int 1)]) (st' := [.int 1]) rfl rfl ?_
  refine wp_p (pc' := 13) (lv' := [(0, .ref 23), (1, .int 1)]) (st' := []) rfl rfl ?_
  refine wp_p (pc' := 14) (lv' := [(0, .ref 23), (1, .int 1)]) (st' := [.ref 23]) rfl rfl ?_
  refine wp_get (q := 23) (v := .ref 24) (pc' := 17) rfl rfl rfl rfl ?_
  refine wp_p (pc' := 18) (lv' := [(0, .ref 23), (1, .int 1)]) (st' := [.int 1, .ref 24]) rfl rfl ?_
  refine wp_iaload (q := 24) (n := 1) (g := rw) (x := rw.getD 1 0) (pc' := 19) rfl rfl (by first | omega | (simp only [List.length_set]; omega)) (by first | omega | (simp only [List.length_set]; omega)) rfl rfl ?_
  exact wp_r rfl rfl ⟨rfl, rfl⟩
set_option maxRecDepth 20000 in
theorem c_pr_move0 (c0 c1 c2 c3 c4 c5 c6 c7 c8 c9 c10 c11 c12 c13 c14 c15 c16 c17 c18 c19 c20 c21 c22 : sm_E) (t : sm_H) (p1 p2 : Nat) (rw : List Int32) (x : Int32) (h1 : rw.length = 2) : sm_run none 4 43 0 (lv_args 0 [.ref 23, .int 0, .int x]) [] (c0 :: c1 :: c2 :: c3 :: c4 :: c5 :: c6 :: c7 :: c8 :: c9 :: c10 :: c11 :: c12 :: c13 :: c14 :: c15 :: c16 :: c17 :: c18 :: c19 :: c20 :: c21 :: c22 :: .inr (2, [.ref 24, .ref p1, .ref p2]) :: .inl (0, .inl rw) :: t) (none, (c0 :: c1 :: c2 :: c3 :: c4 :: c5 :: c6 :: c7 :: c8 :: c9 :: c10 :: c11 :: c12 :: c13 :: c14 :: c15 :: c16 :: c17 :: c18 :: c19 :: c20 :: c21 :: c22 :: .inr (2, [.ref 24, .ref p1, .ref p2]) :: .inl (0, .inl (rw.set 0 x)) :: t)) := by
  refine wp_to ?_
  refine wp_p (pc' := 1) (lv' := [(0, .ref 23), (1, .int 0), (2, .int x)]) (st' := [.ref 23]) rfl rfl ?_
  refine wp_get (q := 23) (v := .ref 24) (pc' := 4) rfl rfl rfl rfl ?_
  refine wp_p (pc' := 5) (lv' := [(0, .ref 23), (1, .int 0), (2, .int x)]) (st' := [.int 0, .ref 24]) rfl rfl ?_
  refine wp_p (pc' := 8) (lv' := [(0, .ref 23), (1, .int 0), (2, .int x)]) (st' := [.ref 24]) rfl rfl ?_
  refine wp_p (pc' := 9) (lv' := [(0, .ref 23), (1, .int 0), (2, .int x)]) (st' := [.int 0, .ref 24]) rfl rfl ?_
  refine wp_p (pc' := 13) (lv' := [(0, .ref 23), (1, .int 0), (2, .int x)]) (st' := [.int 0, .ref 24]) rfl rfl ?_
  refine wp_p (pc' := 14) (lv' := [(0, .ref 23), (1, .int 0), (2, .int x)]) (st' := [.int x, .int 0, .ref 24]) rfl rfl ?_
  refine wp_iastore (q := 24) (n := 0) (g := rw) (pc' := 15) (h2 := (c0 :: c1 :: c2 :: c3 :: c4 :: c5 :: c6 :: c7 :: c8 :: c9 :: c10 :: c11 :: c12 :: c13 :: c14 :: c15 :: c16 :: c17 :: c18 :: c19 :: c20 :: c21 :: c22 :: .inr (2, [.ref 24, .ref p1, .ref p2]) :: .inl (0, .inl (rw.set 0 x)) :: t)) rfl rfl (by first | omega | (simp only [List.length_set]; omega)) (by first | omega | (simp only [List.length_set]; omega)) rfl rfl rfl ?_
  exact wp_r rfl rfl ⟨rfl, rfl⟩
set_option maxRecDepth 20000 in
theorem c_pr_move1 (c0 c1 c2 c3 c4 c5 c6 c7 c8 c9 c10 c11 c12 c13 c14 c15 c16 c17 c18 c19 c20 c21 c22 : sm_E) (t : sm_H) (p1 p2 : Nat) (rw : List Int32) (x : Int32) (h1 : rw.length = 2) : sm_run none 4 43 0 (lv_args 0 [.ref 23, .int 1, .int x]) [] (c0 :: c1 :: c2 :: c3 :: c4 :: c5 :: c6 :: c7 :: c8 :: c9 :: c10 :: c11 :: c12 :: c13 :: c14 :: c15 :: c16 :: c17 :: c18 :: c19 :: c20 :: c21 :: c22 :: .inr (2, [.ref 24, .ref p1, .ref p2]) :: .inl (0, .inl rw) :: t) (none, (c0 :: c1 :: c2 :: c3 :: c4 :: c5 :: c6 :: c7 :: c8 :: c9 :: c10 :: c11 :: c12 :: c13 :: c14 :: c15 :: c16 :: c17 :: c18 :: c19 :: c20 :: c21 :: c22 :: .inr (2, [.ref 24, .ref p1, .ref p2]) :: .inl (0, .inl (rw.set 1 x)) :: t)) := by
  refine wp_to ?_
  refine wp_p (pc' := 1) (lv' := [(0, .ref 23), (1, .int 1), (2, .int x)]) (st' := [.ref 23]) rfl rfl ?_
  refine wp_get (q := 23) (v := .ref 24) (pc' := 4) rfl rfl rfl rfl ?_
  refine wp_p (pc' := 5) (lv' := [(0, .ref 23), (1, .int 1), (2, .int x)]) (st' := [.int 1, .ref 24]) rfl rfl ?_
  refine wp_p (pc' := 12) (lv' := [(0, .ref 23), (1, .int 1), (2, .int x)]) (st' := [.ref 24]) rfl rfl ?_
  refine wp_p (pc' := 13) (lv' := [(0, .ref 23), (1, .int 1), (2, .int x)]) (st' := [.int 1, .ref 24]) rfl rfl ?_
  refine wp_p (pc' := 14) (lv' := [(0, .ref 23), (1, .int 1), (2, .int x)]) (st' := [.int x, .int 1, .ref 24]) rfl rfl ?_
  refine wp_iastore (q := 24) (n := 1) (g := rw) (pc' := 15) (h2 := (c0 :: c1 :: c2 :: c3 :: c4 :: c5 :: c6 :: c7 :: c8 :: c9 :: c10 :: c11 :: c12 :: c13 :: c14 :: c15 :: c16 :: c17 :: c18 :: c19 :: c20 :: c21 :: c22 :: .inr (2, [.ref 24, .ref p1, .ref p2]) :: .inl (0, .inl (rw.set 1 x)) :: t)) rfl rfl (by first | omega | (simp only [List.length_set]; omega)) (by first | omega | (simp only [List.length_set]; omega)) rfl rfl rfl ?_
  exact wp_r rfl rfl ⟨rfl, rfl⟩
set_option maxRecDepth 20000 in
theorem c_pr_stand (c0 c1 c2 c3 c4 c5 c6 c7 c8 c9 c10 c11 c12 c13 c14 c15 c16 c17 c18 c19 c20 c21 c22 : sm_E) (t : sm_H) (p1 p2 q1 q2 : Nat) (rw : List Int32) (h1 : rw.length = 2) : sm_run none 4 40 0 (lv_args 0 [.ref 23, .ref q1, .ref q2]) [] (c0 :: c1 :: c2 :: c3 :: c4 :: c5 :: c6 :: c7 :: c8 :: c9 :: c10 :: c11 :: c12 :: c13 :: c14 :: c15 :: c16 :: c17 :: c18 :: c19 :: c20 :: c21 :: c22 :: .inr (2, [.ref 24, .ref p1, .ref p2]) :: .inl (0, .inl rw) :: t) (none, (c0 :: c1 :: c2 :: c3 :: c4 :: c5 :: c6 :: c7 :: c8 :: c9 :: c10 :: c11 :: c12 :: c13 :: c14 :: c15 :: c16 :: c17 :: c18 :: c19 :: c20 :: c21 :: c22 :: .inr (2, [.ref 24, .ref q1, .ref q2]) :: .inl (0, .inl ((rw.set 0 0).set 1 0)) :: t)) := by
  refine wp_to ?_
  refine wp_p (pc' := 1) (lv' := [(0, .ref 23), (1, .ref q1), (2, .ref q2)]) (st' := [.ref 23]) rfl rfl ?_
  refine wp_p (pc' := 2) (lv' := [(0, .ref 23), (1, .ref q1), (2, .ref q2)]) (st' := [.ref q1, .ref 23]) rfl rfl ?_
  refine wp_put (q := 23) (v := .ref q1) (pc' := 5) (h2 := (c0 :: c1 :: c2 :: c3 :: c4 :: c5 :: c6 :: c7 :: c8 :: c9 :: c10 :: c11 :: c12 :: c13 :: c14 :: c15 :: c16 :: c17 :: c18 :: c19 :: c20 :: c21 :: c22 :: .inr (2, [.ref 24, .ref q1, .ref p2]) :: .inl (0, .inl rw) :: t)) rfl rfl rfl rfl rfl rfl rfl ?_
  refine wp_p (pc' := 6) (lv' := [(0, .ref 23), (1, .ref q1), (2, .ref q2)]) (st' := [.ref 23]) rfl rfl ?_
  refine wp_p (pc' := 7) (lv' := [(0, .ref 23), (1, .ref q1), (2, .ref q2)]) (st' := [.ref q2, .ref 23]) rfl rfl ?_
  refine wp_put (q := 23) (v := .ref q2) (pc' := 10) (h2 := (c0 :: c1 :: c2 :: c3 :: c4 :: c5 :: c6 :: c7 :: c8 :: c9 :: c10 :: c11 :: c12 :: c13 :: c14 :: c15 :: c16 :: c17 :: c18 :: c19 :: c20 :: c21 :: c22 :: .inr (2, [.ref 24, .ref q1, .ref q2]) :: .inl (0, .inl rw) :: t)) rfl rfl rfl rfl rfl rfl rfl ?_
  refine wp_p (pc' := 11) (lv' := [(0, .ref 23), (1, .ref q1), (2, .ref q2)]) (st' := [.ref 23]) rfl rfl ?_
  refine wp_get (q := 23) (v := .ref 24) (pc' := 14) rfl rfl rfl rfl ?_
  refine wp_p (pc' := 15) (lv' := [(0, .ref 23), (1, .ref q1), (2, .ref q2)]) (st' := [.int 0, .ref 24]) rfl rfl ?_
  refine wp_p (pc' := 16) (lv' := [(0, .ref 23), (1, .ref q1), (2, .ref q2)]) (st' := [.int 0, .int 0, .ref 24]) rfl rfl ?_
  refine wp_iastore (q := 24) (n := 0) (g := rw) (pc' := 17) (h2 := (c0 :: c1 :: c2 :: c3 :: c4 :: c5 :: c6 :: c7 :: c8 :: c9 :: c10 :: c11 :: c12 :: c13 :: c14 :: c15 :: c16 :: c17 :: c18 :: c19 :: c20 :: c21 :: c22 :: .inr (2, [.ref 24, .ref q1, .ref q2]) :: .inl (0, .inl (rw.set 0 0)) :: t)) rfl rfl (by first | omega | (simp only [List.length_set]; omega)) (by first | omega | (simp only [List.length_set]; omega)) rfl rfl rfl ?_
  refine wp_p (pc' := 18) (lv' := [(0, .ref 23), (1, .ref q1), (2, .ref q2)]) (st' := [.ref 23]) rfl rfl ?_
  refine wp_get (q := 23) (v := .ref 24) (pc' := 21) rfl rfl rfl rfl ?_
  refine wp_p (pc' := 22) (lv' := [(0, .ref 23), (1, .ref q1), (2, .ref q2)]) (st' := [.int 1, .ref 24]) rfl rfl ?_
  refine wp_p (pc' := 23) (lv' := [(0, .ref 23), (1, .ref q1), (2, .ref q2)]) (st' := [.int 0, .int 1, .ref 24]) rfl rfl ?_
  refine wp_iastore (q := 24) (n := 1) (g := rw.set 0 0) (pc' := 24) (h2 := (c0 :: c1 :: c2 :: c3 :: c4 :: c5 :: c6 :: c7 :: c8 :: c9 :: c10 :: c11 :: c12 :: c13 :: c14 :: c15 :: c16 :: c17 :: c18 :: c19 :: c20 :: c21 :: c22 :: .inr (2, [.ref 24, .ref q1, .ref q2]) :: .inl (0, .inl ((rw.set 0 0).set 1 0)) :: t)) rfl rfl (by first | omega | (simp only [List.length_set]; omega)) (by first | omega | (simp only [List.length_set]; omega)) rfl rfl rfl ?_
  exact wp_r rfl rfl ⟨rfl, rfl⟩
set_option maxRecDepth 20000 in
theorem c_tk_next (c0 c1 c2 c3 c4 c5 c6 c7 c8 c9 c10 c11 c12 c13 c14 c15 c16 c17 c18 c19 c20 c21 c22 c23 c24 c25 : sm_E) (t : sm_H) (am tp : Nat) (ks ns : List Int32) (ha : am ≤ 80) (hp : tp ≤ am) (h1 : ks.length = 80) (h2 : ns.length = 80) : sm_run none 4 70 0 (lv_args 0 [.ref 26]) [] (c0 :: c1 :: c2 :: c3 :: c4 :: c5 :: c6 :: c7 :: c8 :: c9 :: c10 :: c11 :: c12 :: c13 :: c14 :: c15 :: c16 :: c17 :: c18 :: c19 :: c20 :: c21 :: c22 :: c23 :: c24 :: c25 :: .inr (5, [.ref 27, .ref 28, .int (nI am), .int (nI tp)]) :: .inl (0, .inl ks) :: .inl (0, .inl ns) :: t) ((some (.int (if tp < am then ks.getD tp 0 else 0))), (c0 :: c1 :: c2 :: c3 :: c4 :: c5 :: c6 :: c7 :: c8 :: c9 :: c10 :: c11 :: c12 :: c13 :: c14 :: c15 :: c16 :: c17 :: c18 :: c19 :: c20 :: c21 :: c22 :: c23 :: c24 :: c25 :: .inr (5, [.ref 27, .ref 28, .int (nI am), .int (nI tp)]) :: .inl (0, .inl ks) :: .inl (0, .inl ns) :: t)) := by
  refine wp_to ?_
  refine wp_p (pc' := 1) (lv' := [(0, .ref 26)]) (st' := [.ref 26]) rfl rfl ?_
  refine wp_get (q := 26) (v := .int (nI tp)) (pc' := 4) rfl rfl rfl rfl ?_
  refine wp_p (pc' := 5) (lv' := [(0, .ref 26)]) (st' := [.ref 26, .int (nI tp)]) rfl rfl ?_
  refine wp_get (q := 26) (v := .int (nI am)) (pc' := 8) rfl rfl rfl rfl ?_
  refine wn_ic_ge (n := tp) (m := am) (pc' := 11) rfl (by first | omega | (simp only [List.length_set]; omega)) (by first | omega | (simp only [List.length_set]; omega)) rfl (fun hc1 => ?_) (fun hc1 => ?_)
  · refine wp_p (pc' := 24) (lv' := [(0, .ref 26)]) (st' := [.int 0]) rfl rfl ?_
    exact wp_r rfl rfl ⟨by rw [if_neg (by omega)], rfl⟩
  · refine wp_p (pc' := 12) (lv' := [(0, .ref 26)]) (st' := [.ref 26]) rfl rfl ?_
    refine wp_get (q := 26) (v := .ref 27) (pc' := 15) rfl rfl rfl rfl ?_
    refine wp_p (pc' := 16) (lv' := [(0, .ref 26)]) (st' := [.ref 26, .ref 27]) rfl rfl ?_
    refine wp_get (q := 26) (v := .int (nI tp)) (pc' := 19) rfl rfl rfl rfl ?_
    refine wp_iaload (q := 27) (n := tp) (g := ks) (x := ks.getD tp 0) (pc' := 20) rfl rfl (by first | omega | (simp only [List.length_set]; omega)) (by first | omega | (simp only [List.length_set]; omega)) rfl rfl ?_
    refine wp_p (pc' := 24) (lv' := [(0, .ref 26)]) (st' := [.int (ks.getD tp 0)]) rfl rfl ?_
    exact wp_r rfl rfl ⟨by rw [if_pos (by omega)], rfl⟩
set_option maxRecDepth 20000 in
theorem c_tk_taken (c0 c1 c2 c3 c4 c5 c6 c7 c8 c9 c10 c11 c12 c13 c14 c15 c16 c17 c18 c19 c20 c21 c22 c23 c24 c25 : sm_E) (t : sm_H) (am tp : Nat) (ks ns : List Int32) (ha : am ≤ 80) (hp : tp ≤ am) (h1 : ks.length = 80) (h2 : ns.length = 80) : sm_run none 4 72 0 (lv_args 0 [.ref 26]) [] (c0 :: c1 :: c2 :: c3 :: c4 :: c5 :: c6 :: c7 :: c8 :: c9 :: c10 :: c11 :: c12 :: c13 :: c14 :: c15 :: c16 :: c17 :: c18 :: c19 :: c20 :: c21 :: c22 :: c23 :: c24 :: c25 :: .inr (5, [.ref 27, .ref 28, .int (nI am), .int (nI tp)]) :: .inl (0, .inl ks) :: .inl (0, .inl ns) :: t) ((some (.int (if 0 < tp then ns.getD (tp - 1) 0 else 0))), (c0 :: c1 :: c2 :: c3 :: c4 :: c5 :: c6 :: c7 :: c8 :: c9 :: c10 :: c11 :: c12 :: c13 :: c14 :: c15 :: c16 :: c17 :: c18 :: c19 :: c20 :: c21 :: c22 :: c23 :: c24 :: c25 :: .inr (5, [.ref 27, .ref 28, .int (nI am), .int (nI tp)]) :: .inl (0, .inl ks) :: .inl (0, .inl ns) :: t)) := by
  refine wp_to ?_
  refine wp_p (pc' := 1) (lv' := [(0, .ref 26)]) (st' := [.ref 26]) rfl rfl ?_
  refine wp_get (q := 26) (v := .int (nI tp)) (pc' := 4) rfl rfl rfl rfl ?_
  refine wn_if_le (n := tp) (pc' := 7) rfl (by first | omega | (simp only [List.length_set]; omega)) rfl (fun hc1 => ?_) (fun hc1 => ?_)
  · refine wp_p (pc' := 22) (lv' := [(0, .ref 26)]) (st' := [.int 0]) rfl rfl ?_
    exact wp_r rfl rfl ⟨by rw [if_neg (by omega)], rfl⟩
  · refine wp_p (pc' := 8) (lv' := [(0, .ref 26)]) (st' := [.ref 26]) rfl rfl ?_
    refine wp_get (q := 26) (v := .ref 28) (pc' := 11) rfl rfl rfl rfl ?_
    refine wp_p (pc' := 12) (lv' := [(0, .ref 26)]) (st' := [.ref 26, .ref 28]) rfl rfl ?_
    refine wp_get (q := 26) (v := .int (nI tp)) (pc' := 15) rfl rfl rfl rfl ?_
    refine wp_p (pc' := 16) (lv' := [(0, .ref 26)]) (st' := [.int 1, .int (nI tp), .ref 28]) rfl rfl ?_
    refine wp_isub (v := nI (tp - 1)) (pc' := 17) rfl (pk_sub (a := tp) (b := 1) (by omega)) rfl ?_
    refine wp_iaload (q := 28) (n := tp - 1) (g := ns) (x := ns.getD (tp - 1) 0) (pc' := 18) rfl rfl (by first | omega | (simp only [List.length_set]; omega)) (by first | omega | (simp only [List.length_set]; omega)) rfl rfl ?_
    refine wp_p (pc' := 22) (lv' := [(0, .ref 26)]) (st' := [.int (ns.getD (tp - 1) 0)]) rfl rfl ?_
    exact wp_r rfl rfl ⟨by rw [if_pos (by omega)], rfl⟩
set_option maxRecDepth 20000 in
theorem c_tk_accept_y (c0 c1 c2 c3 c4 c5 c6 c7 c8 c9 c10 c11 c12 c13 c14 c15 c16 c17 c18 c19 c20 c21 c22 c23 c24 c25 : sm_E) (t : sm_H) (am tp : Nat) (ks ns : List Int32) (x : Int32) (ha : am ≤ 80) (hp : tp ≤ am) (h1 : ks.length = 80) (h2 : ns.length = 80) (hy : tp < am ∧ ks.getD tp 0 = x) : sm_run none 4 71 0 (lv_args 0 [.ref 26, .int x]) [] (c0 :: c1 :: c2 :: c3 :: c4 :: c5 :: c6 :: c7 :: c8 :: c9 :: c10 :: c11 :: c12 :: c13 :: c14 :: c15 :: c16 :: c17 :: c18 :: c19 :: c20 :: c21 :: c22 :: c23 :: c24 :: c25 :: .inr (5, [.ref 27, .ref 28, .int (nI am), .int (nI tp)]) :: .inl (0, .inl ks) :: .inl (0, .inl ns) :: t) ((some (.int 1)), (c0 :: c1 :: c2 :: c3 :: c4 :: c5 :: c6 :: c7 :: c8 :: c9 :: c10 :: c11 :: c12 :: c13 :: c14 :: c15 :: c16 :: c17 :: c18 :: c19 :: c20 :: c21 :: c22 :: c23 :: c24 :: c25 :: .inr (5, [.ref 27, .ref 28, .int (nI am), .int (nI (tp + 1))]) :: .inl (0, .inl ks) :: .inl (0, .inl ns) :: t)) := by
  refine wp_to ?_
  refine wp_p (pc' := 1) (lv' := [(0, .ref 26), (1, .int x)]) (st' := [.ref 26]) rfl rfl ?_
  refine wp_get (q := 26) (v := .int (nI tp)) (pc' := 4) rfl rfl rfl rfl ?_
  refine wp_p (pc' := 5) (lv' := [(0, .ref 26), (1, .int x)]) (st' := [.ref 26, .int (nI tp)]) rfl rfl ?_
  refine wp_get (q := 26) (v := .int (nI am)) (pc' := 8) rfl rfl rfl rfl ?_
  refine wn_ic_ge (n := tp) (m := am) (pc' := 11) rfl (by first | omega | (simp only [List.length_set]; omega)) (by first | omega | (simp only [List.length_set]; omega)) rfl (fun hc1 => ?_) (fun hc1 => ?_)
  · exact absurd hc1 (by omega)
  · refine wp_p (pc' := 12) (lv' := [(0, .ref 26), (1, .int x)]) (st' := [.ref 26]) rfl rfl ?_
    refine wp_get (q := 26) (v := .ref 27) (pc' := 15) rfl rfl rfl rfl ?_
    refine wp_p (pc' := 16) (lv' := [(0, .ref 26), (1, .int x)]) (st' := [.ref 26, .ref 27]) rfl rfl ?_
    refine wp_get (q := 26) (v := .int (nI tp)) (pc' := 19) rfl rfl rfl rfl ?_
    refine wp_iaload (q := 27) (n := tp) (g := ks) (x := ks.getD tp 0) (pc' := 20) rfl rfl (by first | omega | (simp only [List.length_set]; omega)) (by first | omega | (simp only [List.length_set]; omega)) rfl rfl ?_
    refine wp_p (pc' := 21) (lv' := [(0, .ref 26), (1, .int x)]) (st' := [.int x, .int (ks.getD tp 0)]) rfl rfl ?_
    refine wp_ic_eq (pc' := 24) rfl rfl (fun hc2 => ?_) (fun hc2 => ?_)
    · refine wp_p (pc' := 27) (lv' := [(0, .ref 26), (1, .int x)]) (st' := [.ref 26]) rfl rfl ?_
      refine wp_p (pc' := 28) (lv' := [(0, .ref 26), (1, .int x)]) (st' := [.ref 26, .ref 26]) rfl rfl ?_
      refine wp_get (q := 26) (v := .int (nI tp)) (pc' := 31) rfl rfl rfl rfl ?_
      refine wp_p (pc' := 32) (lv' := [(0, .ref 26), (1, .int x)]) (st' := [.int 1, .int (nI tp), .ref 26]) rfl rfl ?_
      refine wp_iadd (v := nI (tp + 1)) (pc' := 33) rfl (nI_add tp 1) rfl ?_
      refine wp_put (q := 26) (v := .int (nI (tp + 1))) (pc' := 36) (h2 := (c0 :: c1 :: c2 :: c3 :: c4 :: c5 :: c6 :: c7 :: c8 :: c9 :: c10 :: c11 :: c12 :: c13 :: c14 :: c15 :: c16 :: c17 :: c18 :: c19 :: c20 :: c21 :: c22 :: c23 :: c24 :: c25 :: .inr (5, [.ref 27, .ref 28, .int (nI am), .int (nI (tp + 1))]) :: .inl (0, .inl ks) :: .inl (0, .inl ns) :: t)) rfl rfl rfl rfl rfl rfl rfl ?_
      refine wp_p (pc' := 37) (lv' := [(0, .ref 26), (1, .int x)]) (st' := [.int 1]) rfl rfl ?_
      exact wp_r rfl rfl ⟨rfl, rfl⟩
    · exact absurd hy.2 hc2
set_option maxRecDepth 20000 in
theorem c_tk_accept_n (c0 c1 c2 c3 c4 c5 c6 c7 c8 c9 c10 c11 c12 c13 c14 c15 c16 c17 c18 c19 c20 c21 c22 c23 c24 c25 : sm_E) (t : sm_H) (am tp : Nat) (ks ns : List Int32) (x : Int32) (ha : am ≤ 80) (hp : tp ≤ am) (h1 : ks.length = 80) (h2 : ns.length = 80) (hy : ¬ (tp < am ∧ ks.getD tp 0 = x)) : sm_run none 4 71 0 (lv_args 0 [.ref 26, .int x]) [] (c0 :: c1 :: c2 :: c3 :: c4 :: c5 :: c6 :: c7 :: c8 :: c9 :: c10 :: c11 :: c12 :: c13 :: c14 :: c15 :: c16 :: c17 :: c18 :: c19 :: c20 :: c21 :: c22 :: c23 :: c24 :: c25 :: .inr (5, [.ref 27, .ref 28, .int (nI am), .int (nI tp)]) :: .inl (0, .inl ks) :: .inl (0, .inl ns) :: t) ((some (.int 0)), (c0 :: c1 :: c2 :: c3 :: c4 :: c5 :: c6 :: c7 :: c8 :: c9 :: c10 :: c11 :: c12 :: c13 :: c14 :: c15 :: c16 :: c17 :: c18 :: c19 :: c20 :: c21 :: c22 :: c23 :: c24 :: c25 :: .inr (5, [.ref 27, .ref 28, .int (nI am), .int (nI tp)]) :: .inl (0, .inl ks) :: .inl (0, .inl ns) :: t)) := by
  refine wp_to ?_
  refine wp_p (pc' := 1) (lv' := [(0, .ref 26), (1, .int x)]) (st' := [.ref 26]) rfl rfl ?_
  refine wp_get (q := 26) (v := .int (nI tp)) (pc' := 4) rfl rfl rfl rfl ?_
  refine wp_p (pc' := 5) (lv' := [(0, .ref 26), (1, .int x)]) (st' := [.ref 26, .int (nI tp)]) rfl rfl ?_
  refine wp_get (q := 26) (v := .int (nI am)) (pc' := 8) rfl rfl rfl rfl ?_
  refine wn_ic_ge (n := tp) (m := am) (pc' := 11) rfl (by first | omega | (simp only [List.length_set]; omega)) (by first | omega | (simp only [List.length_set]; omega)) rfl (fun hc1 => ?_) (fun hc1 => ?_)
  · refine wp_p (pc' := 25) (lv' := [(0, .ref 26), (1, .int x)]) (st' := [.int 0]) rfl rfl ?_
    exact wp_r rfl rfl ⟨rfl, rfl⟩
  · refine wp_p (pc' := 12) (lv' := [(0, .ref 26), (1, .int x)]) (st' := [.ref 26]) rfl rfl ?_
    refine wp_get (q := 26) (v := .ref 27) (pc' := 15) rfl rfl rfl rfl ?_
    refine wp_p (pc' := 16) (lv' := [(0, .ref 26), (1, .int x)]) (st' := [.ref 26, .ref 27]) rfl rfl ?_
    refine wp_get (q := 26) (v := .int (nI tp)) (pc' := 19) rfl rfl rfl rfl ?_
    refine wp_iaload (q := 27) (n := tp) (g := ks) (x := ks.getD tp 0) (pc' := 20) rfl rfl (by first | omega | (simp only [List.length_set]; omega)) (by first | omega | (simp only [List.length_set]; omega)) rfl rfl ?_
    refine wp_p (pc' := 21) (lv' := [(0, .ref 26), (1, .int x)]) (st' := [.int x, .int (ks.getD tp 0)]) rfl rfl ?_
    refine wp_ic_eq (pc' := 24) rfl rfl (fun hc2 => ?_) (fun hc2 => ?_)
    · exact absurd ⟨by omega, hc2⟩ hy
    · refine wp_p (pc' := 25) (lv' := [(0, .ref 26), (1, .int x)]) (st' := [.int 0]) rfl rfl ?_
      exact wp_r rfl rfl ⟨rfl, rfl⟩
set_option maxRecDepth 20000 in
theorem c_tk_isLetter (t : sm_H) (c : Nat) (hc : c < 65536) : sm_run none 4 73 0 (lv_args 0 [.int (nI c)]) [] (t) ((some (.int (if 97 ≤ c ∧ c ≤ 122 then 1 else 0))), (t)) := by
  refine wp_to ?_
  refine wp_p (pc' := 1) (lv' := [(0, .int (nI c))]) (st' := [.int (nI c)]) rfl rfl ?_
  refine wp_p (pc' := 3) (lv' := [(0, .int (nI c))]) (st' := [.int 97, .int (nI c)]) rfl rfl ?_
  refine wn_ic_lt (n := c) (m := 97) (pc' := 6) rfl (by first | omega | (simp only [List.length_set]; omega)) (by first | omega | (simp only [List.length_set]; omega)) rfl (fun hc1 => ?_) (fun hc1 => ?_)
  · refine wp_p (pc' := 17) (lv' := [(0, .int (nI c))]) (st' := [.int 0]) rfl rfl ?_
    exact wp_r rfl rfl ⟨by rw [if_neg (by omega)], rfl⟩
  · refine wp_p (pc' := 7) (lv' := [(0, .int (nI c))]) (st' := [.int (nI c)]) rfl rfl ?_
    refine wp_p (pc' := 9) (lv' := [(0, .int (nI c))]) (st' := [.int 122, .int (nI c)]) rfl rfl ?_
    refine wn_ic_gt (n := c) (m := 122) (pc' := 12) rfl (by first | omega | (simp only [List.length_set]; omega)) (by first | omega | (simp only [List.length_set]; omega)) rfl (fun hc2 => ?_) (fun hc2 => ?_)
    · refine wp_p (pc' := 17) (lv' := [(0, .int (nI c))]) (st' := [.int 0]) rfl rfl ?_
      exact wp_r rfl rfl ⟨by rw [if_neg (by omega)], rfl⟩
    · refine wp_p (pc' := 13) (lv' := [(0, .int (nI c))]) (st' := [.int 1]) rfl rfl ?_
      refine wp_p (pc' := 17) (lv' := [(0, .int (nI c))]) (st' := [.int 1]) rfl rfl ?_
      exact wp_r rfl rfl ⟨by rw [if_pos (by omega)], rfl⟩
set_option maxRecDepth 20000 in
theorem c_tk_isDigit (t : sm_H) (c : Nat) (hc : c < 65536) : sm_run none 4 74 0 (lv_args 0 [.int (nI c)]) [] (t) ((some (.int (if 48 ≤ c ∧ c ≤ 57 then 1 else 0))), (t)) := by
  refine wp_to ?_
  refine wp_p (pc' := 1) (lv' := [(0, .int (nI c))]) (st' := [.int (nI c)]) rfl rfl ?_
  refine wp_p (pc' := 3) (lv' := [(0, .int (nI c))]) (st' := [.int 48, .int (nI c)]) rfl rfl ?_
  refine wn_ic_lt (n := c) (m := 48) (pc' := 6) rfl (by first | omega | (simp only [List.length_set]; omega)) (by first | omega | (simp only [List.length_set]; omega)) rfl (fun hc1 => ?_) (fun hc1 => ?_)
  · refine wp_p (pc' := 17) (lv' := [(0, .int (nI c))]) (st' := [.int 0]) rfl rfl ?_
    exact wp_r rfl rfl ⟨by rw [if_neg (by omega)], rfl⟩
  · refine wp_p (pc' := 7) (lv' := [(0, .int (nI c))]) (st' := [.int (nI c)]) rfl rfl ?_
    refine wp_p (pc' := 9) (lv' := [(0, .int (nI c))]) (st' := [.int 57, .int (nI c)]) rfl rfl ?_
    refine wn_ic_gt (n := c) (m := 57) (pc' := 12) rfl (by first | omega | (simp only [List.length_set]; omega)) (by first | omega | (simp only [List.length_set]; omega)) rfl (fun hc2 => ?_) (fun hc2 => ?_)
    · refine wp_p (pc' := 17) (lv' := [(0, .int (nI c))]) (st' := [.int 0]) rfl rfl ?_
      exact wp_r rfl rfl ⟨by rw [if_neg (by omega)], rfl⟩
    · refine wp_p (pc' := 13) (lv' := [(0, .int (nI c))]) (st' := [.int 1]) rfl rfl ?_
      refine wp_p (pc' := 17) (lv' := [(0, .int (nI c))]) (st' := [.int 1]) rfl rfl ?_
      exact wp_r rfl rfl ⟨by rw [if_pos (by omega)], rfl⟩
set_option maxRecDepth 20000 in
theorem c_tk_keep (c0 c1 c2 c3 c4 c5 c6 c7 c8 c9 c10 c11 c12 c13 c14 c15 c16 c17 c18 c19 c20 c21 c22 c23 c24 c25 : sm_E) (t : sm_H) (am tp : Nat) (ks ns : List Int32) (x y : Int32) (ha : am < 80) (h1 : ks.length = 80) (h2 : ns.length = 80) : sm_run none 4 79 0 (lv_args 0 [.ref 26, .int x, .int y]) [] (c0 :: c1 :: c2 :: c3 :: c4 :: c5 :: c6 :: c7 :: c8 :: c9 :: c10 :: c11 :: c12 :: c13 :: c14 :: c15 :: c16 :: c17 :: c18 :: c19 :: c20 :: c21 :: c22 :: c23 :: c24 :: c25 :: .inr (5, [.ref 27, .ref 28, .int (nI am), .int (nI tp)]) :: .inl (0, .inl ks) :: .inl (0, .inl ns) :: t) ((some (.int 1)), (c0 :: c1 :: c2 :: c3 :: c4 :: c5 :: c6 :: c7 :: c8 :: c9 :: c10 :: c11 :: c12 :: c13 :: c14 :: c15 :: c16 :: c17 :: c18 :: c19 :: c20 :: c21 :: c22 :: c23 :: c24 :: c25 :: .inr (5, [.ref 27, .ref 28, .int (nI (am + 1)), .int (nI tp)]) :: .inl (0, .inl (ks.set am x)) :: .inl (0, .inl (ns.set am y)) :: t)) := by
  refine wp_to ?_
  refine wp_p (pc' := 1) (lv' := [(0, .ref 26), (1, .int x), (2, .int y)]) (st' := [.ref 26]) rfl rfl ?_
  refine wp_get (q := 26) (v := .int (nI am)) (pc' := 4) rfl rfl rfl rfl ?_
  refine wp_p (pc' := 6) (lv' := [(0, .ref 26), (1, .int x), (2, .int y)]) (st' := [.int 80, .int (nI am)]) rfl rfl ?_
  refine wn_ic_lt (n := am) (m := 80) (pc' := 9) rfl (by first | omega | (simp only [List.length_set]; omega)) (by first | omega | (simp only [List.length_set]; omega)) rfl (fun hc1 => ?_) (fun hc1 => ?_)
  · refine wp_p (pc' := 12) (lv' := [(0, .ref 26), (1, .int x), (2, .int y)]) (st' := [.ref 26]) rfl rfl ?_
    refine wp_get (q := 26) (v := .ref 27) (pc' := 15) rfl rfl rfl rfl ?_
    refine wp_p (pc' := 16) (lv' := [(0, .ref 26), (1, .int x), (2, .int y)]) (st' := [.ref 26, .ref 27]) rfl rfl ?_
    refine wp_get (q := 26) (v := .int (nI am)) (pc' := 19) rfl rfl rfl rfl ?_
    refine wp_p (pc' := 20) (lv' := [(0, .ref 26), (1, .int x), (2, .int y)]) (st' := [.int x, .int (nI am), .ref 27]) rfl rfl ?_
    refine wp_iastore (q := 27) (n := am) (g := ks) (pc' := 21) (h2 := (c0 :: c1 :: c2 :: c3 :: c4 :: c5 :: c6 :: c7 :: c8 :: c9 :: c10 :: c11 :: c12 :: c13 :: c14 :: c15 :: c16 :: c17 :: c18 :: c19 :: c20 :: c21 :: c22 :: c23 :: c24 :: c25 :: .inr (5, [.ref 27, .ref 28, .int (nI am), .int (nI tp)]) :: .inl (0, .inl (ks.set am x)) :: .inl (0, .inl ns) :: t)) rfl rfl (by first | omega | (simp only [List.length_set]; omega)) (by first | omega | (simp only [List.length_set]; omega)) rfl rfl rfl ?_
    refine wp_p (pc' := 22) (lv' := [(0, .ref 26), (1, .int x), (2, .int y)]) (st' := [.ref 26]) rfl rfl ?_
    refine wp_get (q := 26) (v := .ref 28) (pc' := 25) rfl rfl rfl rfl ?_
    refine wp_p (pc' := 26) (lv' := [(0, .ref 26), (1, .int x), (2, .int y)]) (st' := [.ref 26, .ref 28]) rfl rfl ?_
    refine wp_get (q := 26) (v := .int (nI am)) (pc' := 29) rfl rfl rfl rfl ?_
    refine wp_p (pc' := 30) (lv' := [(0, .ref 26), (1, .int x), (2, .int y)]) (st' := [.int y, .int (nI am), .ref 28]) rfl rfl ?_
    refine wp_iastore (q := 28) (n := am) (g := ns) (pc' := 31) (h2 := (c0 :: c1 :: c2 :: c3 :: c4 :: c5 :: c6 :: c7 :: c8 :: c9 :: c10 :: c11 :: c12 :: c13 :: c14 :: c15 :: c16 :: c17 :: c18 :: c19 :: c20 :: c21 :: c22 :: c23 :: c24 :: c25 :: .inr (5, [.ref 27, .ref 28, .int (nI am), .int (nI tp)]) :: .inl (0, .inl (ks.set am x)) :: .inl (0, .inl (ns.set am y)) :: t)) rfl rfl (by first | omega | (simp only [List.length_set]; omega)) (by first | omega | (simp only [List.length_set]; omega)) rfl rfl rfl ?_
    refine wp_p (pc' := 32) (lv' := [(0, .ref 26), (1, .int x), (2, .int y)]) (st' := [.ref 26]) rfl rfl ?_
    refine wp_p (pc' := 33) (lv' := [(0, .ref 26), (1, .int x), (2, .int y)]) (st' := [.ref 26, .ref 26]) rfl rfl ?_
    refine wp_get (q := 26) (v := .int (nI am)) (pc' := 36) rfl rfl rfl rfl ?_
    refine wp_p (pc' := 37) (lv' := [(0, .ref 26), (1, .int x), (2, .int y)]) (st' := [.int 1, .int (nI am), .ref 26]) rfl rfl ?_
    refine wp_iadd (v := nI (am + 1)) (pc' := 38) rfl (nI_add am 1) rfl ?_
    refine wp_put (q := 26) (v := .int (nI (am + 1))) (pc' := 41) (h2 := (c0 :: c1 :: c2 :: c3 :: c4 :: c5 :: c6 :: c7 :: c8 :: c9 :: c10 :: c11 :: c12 :: c13 :: c14 :: c15 :: c16 :: c17 :: c18 :: c19 :: c20 :: c21 :: c22 :: c23 :: c24 :: c25 :: .inr (5, [.ref 27, .ref 28, .int (nI (am + 1)), .int (nI tp)]) :: .inl (0, .inl (ks.set am x)) :: .inl (0, .inl (ns.set am y)) :: t)) rfl rfl rfl rfl rfl rfl rfl ?_
    refine wp_p (pc' := 42) (lv' := [(0, .ref 26), (1, .int x), (2, .int y)]) (st' := [.int 1]) rfl rfl ?_
    exact wp_r rfl rfl ⟨rfl, rfl⟩
  · exact absurd hc1 (by omega)
