/-! CONTRACTS, class Table (by program, wip/whole/gen20.py): for each of the three tables (cells 3, 6, 9) -/
/-- how many of the first n rows have v in column c -/
def tb_cnt (cs : List Int64) (c : Nat) (v : Int64) : Nat → Nat
  | 0 => 0
  | n + 1 => tb_cnt cs c v n + (if cs.getD (n * 4 + c) 0 = v then 1 else 0)
theorem tb_cnt_le (cs : List Int64) (c : Nat) (v : Int64) : ∀ n, tb_cnt cs c v n ≤ n
  | 0 => Nat.le_refl 0
  | n + 1 => by
    have := tb_cnt_le cs c v n
    unfold tb_cnt
    split <;> omega
set_option maxRecDepth 20000 in
theorem c_isThere_3 (c0 c1 c2 : sm_E) (t : sm_H) (cs : List Int64) (ix : List Int32) (ac dn : Nat)  (hac : ac ≤ 4) : sm_run none 4 26 0 (lv_args 0 [.ref 3]) [] (c0 :: c1 :: c2 :: .inr (1, [.ref 4, .ref 5, .int (nI ac), .int (nI dn)]) :: .inl (1, .inr (.inl cs)) :: .inl (3, .inl ix) :: t) (some (.int (if 0 < ac then 1 else 0)), (c0 :: c1 :: c2 :: .inr (1, [.ref 4, .ref 5, .int (nI ac), .int (nI dn)]) :: .inl (1, .inr (.inl cs)) :: .inl (3, .inl ix) :: t)) := by
  refine wp_to ?_
  refine wp_p (pc' := 1) (lv' := [(0, .ref 3)]) (st' := [.ref 3]) rfl rfl ?_
  refine wp_get (q := 3) (v := .int (nI ac)) (pc' := 4) rfl rfl rfl rfl ?_
  refine wn_if_le (n := ac) (pc' := 7) rfl (by omega) rfl (fun hc1 => ?_) (fun hc1 => ?_)
  · refine wp_p (pc' := 12) (lv' := [(0, .ref 3)]) (st' := [.int 0]) rfl rfl ?_
    exact wp_r rfl rfl ⟨by rw [if_neg (by omega)], rfl⟩
  · refine wp_p (pc' := 8) (lv' := [(0, .ref 3)]) (st' := [.int 1]) rfl rfl ?_
    refine wp_p (pc' := 12) (lv' := [(0, .ref 3)]) (st' := [.int 1]) rfl rfl ?_
    exact wp_r rfl rfl ⟨by rw [if_pos (by omega)], rfl⟩
set_option maxRecDepth 20000 in
theorem c_hasColumn_3 (c0 c1 c2 : sm_E) (t : sm_H) (cs : List Int64) (ix : List Int32) (ac dn : Nat) (c : Nat) (hac : ac ≤ 4) (hc : c < 1000) : sm_run none 4 27 0 (lv_args 0 [.ref 3, .int (nI c)]) [] (c0 :: c1 :: c2 :: .inr (1, [.ref 4, .ref 5, .int (nI ac), .int (nI dn)]) :: .inl (1, .inr (.inl cs)) :: .inl (3, .inl ix) :: t) (some (.int (if c < ac then 1 else 0)), (c0 :: c1 :: c2 :: .inr (1, [.ref 4, .ref 5, .int (nI ac), .int (nI dn)]) :: .inl (1, .inr (.inl cs)) :: .inl (3, .inl ix) :: t)) := by
  refine wp_to ?_
  refine wp_p (pc' := 1) (lv' := [(0, .ref 3), (1, .int (nI c))]) (st' := [.int (nI c)]) rfl rfl ?_
  refine wn_if_lt (n := c) (pc' := 4) rfl (by omega) rfl (fun hc1 => ?_) (fun hc1 => ?_)
  · exact hc1.elim
  · refine wp_p (pc' := 5) (lv' := [(0, .ref 3), (1, .int (nI c))]) (st' := [.int (nI c)]) rfl rfl ?_
    refine wp_p (pc' := 6) (lv' := [(0, .ref 3), (1, .int (nI c))]) (st' := [.ref 3, .int (nI c)]) rfl rfl ?_
    refine wp_get (q := 3) (v := .int (nI ac)) (pc' := 9) rfl rfl rfl rfl ?_
    refine wn_ic_ge (n := c) (m := ac) (pc' := 12) rfl (by omega) (by omega) rfl (fun hc2 => ?_) (fun hc2 => ?_)
    · refine wp_p (pc' := 17) (lv' := [(0, .ref 3), (1, .int (nI c))]) (st' := [.int 0]) rfl rfl ?_
      exact wp_r rfl rfl ⟨by rw [if_neg (by omega)], rfl⟩
    · refine wp_p (pc' := 13) (lv' := [(0, .ref 3), (1, .int (nI c))]) (st' := [.int 1]) rfl rfl ?_
      refine wp_p (pc' := 17) (lv' := [(0, .ref 3), (1, .int (nI c))]) (st' := [.int 1]) rfl rfl ?_
      exact wp_r rfl rfl ⟨by rw [if_pos (by omega)], rfl⟩
set_option maxRecDepth 20000 in
theorem c_make_3 (c0 c1 c2 : sm_E) (t : sm_H) (cs : List Int64) (ix : List Int32) (ac dn : Nat) (n : Nat)  : sm_run none 4 31 0 (lv_args 0 [.ref 3, .int (nI n)]) [] (c0 :: c1 :: c2 :: .inr (1, [.ref 4, .ref 5, .int (nI ac), .int (nI dn)]) :: .inl (1, .inr (.inl cs)) :: .inl (3, .inl ix) :: t) (none, (c0 :: c1 :: c2 :: .inr (1, [.ref 4, .ref 5, .int (nI n), .int (nI dn)]) :: .inl (1, .inr (.inl cs)) :: .inl (3, .inl ix) :: t)) := by
  refine wp_to ?_
  refine wp_p (pc' := 1) (lv' := [(0, .ref 3), (1, .int (nI n))]) (st' := [.ref 3]) rfl rfl ?_
  refine wp_p (pc' := 2) (lv' := [(0, .ref 3), (1, .int (nI n))]) (st' := [.int (nI n), .ref 3]) rfl rfl ?_
  refine wp_put (q := 3) (v := .int (nI n)) (pc' := 5) (h2 := (c0 :: c1 :: c2 :: .inr (1, [.ref 4, .ref 5, .int (nI n), .int (nI dn)]) :: .inl (1, .inr (.inl cs)) :: .inl (3, .inl ix) :: t)) rfl rfl rfl rfl rfl rfl rfl ?_
  exact wp_r rfl rfl ⟨rfl, rfl⟩
set_option maxRecDepth 20000 in
theorem l_rowsWith_3 (c0 c1 c2 : sm_E) (t : sm_H) (cs : List Int64) (ix : List Int32) (ac dn : Nat) (c : Nat) (v : Int64) (hc : c < 4) (hdn : dn ≤ 20) (hcs : cs.length = 80) : ∀ k row : Nat, row + k = dn → sm_wp 4 30 6 [(5, .int (nI row)), (4, .int (nI (tb_cnt cs c v row))), (0, .ref 3), (1, .int (nI c)), (2, .long v)] [] (c0 :: c1 :: c2 :: .inr (1, [.ref 4, .ref 5, .int (nI ac), .int (nI dn)]) :: .inl (1, .inr (.inl cs)) :: .inl (3, .inl ix) :: t) (fun w g => w = some (.int (nI (tb_cnt cs c v dn))) ∧ g = (c0 :: c1 :: c2 :: .inr (1, [.ref 4, .ref 5, .int (nI ac), .int (nI dn)]) :: .inl (1, .inr (.inl cs)) :: .inl (3, .inl ix) :: t)) := by
  intro k
  induction k with
  | zero =>
    intro row hk
    have hb := tb_cnt_le cs c v row
    refine wp_p (pc' := 8) (lv' := [(5, .int (nI row)), (4, .int (nI (tb_cnt cs c v row))), (0, .ref 3), (1, .int (nI c)), (2, .long v)]) (st' := [.int (nI row)]) rfl rfl ?_
    refine wp_p (pc' := 9) (lv' := [(5, .int (nI row)), (4, .int (nI (tb_cnt cs c v row))), (0, .ref 3), (1, .int (nI c)), (2, .long v)]) (st' := [.ref 3, .int (nI row)]) rfl rfl ?_
    refine wp_get (q := 3) (v := .int (nI dn)) (pc' := 12) rfl rfl rfl rfl ?_
    refine wn_ic_ge (n := row) (m := dn) (pc' := 15) rfl (by omega) (by omega) rfl (fun hc1 => ?_) (fun hc1 => ?_)
    · refine wp_p (pc' := 42) (lv' := [(5, .int (nI row)), (4, .int (nI (tb_cnt cs c v row))), (0, .ref 3), (1, .int (nI c)), (2, .long v)]) (st' := [.int (nI (tb_cnt cs c v row))]) rfl rfl ?_
      exact wp_r rfl rfl ⟨by rw [show row = dn by omega], rfl⟩
    · exact absurd hc1 (by omega)
  | succ k ih =>
    intro row hk
    have hb := tb_cnt_le cs c v row
    refine wp_p (pc' := 8) (lv' := [(5, .int (nI row)), (4, .int (nI (tb_cnt cs c v row))), (0, .ref 3), (1, .int (nI c)), (2, .long v)]) (st' := [.int (nI row)]) rfl rfl ?_
    refine wp_p (pc' := 9) (lv' := [(5, .int (nI row)), (4, .int (nI (tb_cnt cs c v row))), (0, .ref 3), (1, .int (nI c)), (2, .long v)]) (st' := [.ref 3, .int (nI row)]) rfl rfl ?_
    refine wp_get (q := 3) (v := .int (nI dn)) (pc' := 12) rfl rfl rfl rfl ?_
    refine wn_ic_ge (n := row) (m := dn) (pc' := 15) rfl (by omega) (by omega) rfl (fun hc1 => ?_) (fun hc1 => ?_)
    · exact absurd hc1 (by omega)
    · refine wp_p (pc' := 16) (lv' := [(5, .int (nI row)), (4, .int (nI (tb_cnt cs c v row))), (0, .ref 3), (1, .int (nI c)), (2, .long v)]) (st' := [.ref 3]) rfl rfl ?_
      refine wp_get (q := 3) (v := .ref 4) (pc' := 19) rfl rfl rfl rfl ?_
      refine wp_p (pc' := 21) (lv' := [(5, .int (nI row)), (4, .int (nI (tb_cnt cs c v row))), (0, .ref 3), (1, .int (nI c)), (2, .long v)]) (st' := [.int (nI row), .ref 4]) rfl rfl ?_
      refine wp_p (pc' := 22) (lv' := [(5, .int (nI row)), (4, .int (nI (tb_cnt cs c v row))), (0, .ref 3), (1, .int (nI c)), (2, .long v)]) (st' := [.int 4, .int (nI row), .ref 4]) rfl rfl ?_
      refine wp_imul (v := nI (row * 4)) (pc' := 23) rfl (pk_mul row 4) rfl ?_
      refine wp_p (pc' := 24) (lv' := [(5, .int (nI row)), (4, .int (nI (tb_cnt cs c v row))), (0, .ref 3), (1, .int (nI c)), (2, .long v)]) (st' := [.int (nI c), .int (nI (row * 4)), .ref 4]) rfl rfl ?_
      refine wp_iadd (v := nI ((row * 4) + c)) (pc' := 25) rfl (nI_add (row * 4) c) rfl ?_
      refine wp_laload (q := 4) (n := (row * 4) + c) (g := cs) (x := cs.getD ((row * 4) + c) 0) (pc' := 26) rfl rfl (by omega) (by omega) rfl rfl ?_
      refine wp_p (pc' := 27) (lv' := [(5, .int (nI row)), (4, .int (nI (tb_cnt cs c v row))), (0, .ref 3), (1, .int (nI c)), (2, .long v)]) (st' := [.long v, .long (cs.getD ((row * 4) + c) 0)]) rfl rfl ?_
      refine wp_lcmp (v := lg_cmp (cs.getD ((row * 4) + c) 0) v) (pc' := 28) rfl rfl rfl ?_
      refine wp_if_ne (pc' := 31) rfl rfl (fun hc2 => ?_) (fun hc2 => ?_)
      · refine wp_iinc (v := nI (row + 1)) (lv' := [(5, .int (nI (row + 1))), (4, .int (nI (tb_cnt cs c v row))), (0, .ref 3), (1, .int (nI c)), (2, .long v)]) (pc' := 37) rfl rfl (nI_1 row) rfl rfl rfl ?_
        refine wp_p (pc' := 6) (lv' := [(5, .int (nI (row + 1))), (4, .int (nI (tb_cnt cs c v row))), (0, .ref 3), (1, .int (nI c)), (2, .long v)]) (st' := []) rfl rfl ?_
        have e9 : tb_cnt cs c v (row + 1) = tb_cnt cs c v row := by show tb_cnt cs c v row + (if cs.getD (row * 4 + c) 0 = v then 1 else 0) = _; rw [if_neg (fun q => absurd ((lg_cmp_eq _ _).mpr q) (by assumption))]; rfl
        rw [← e9]
        exact ih (row + 1) (by omega)
      · refine wp_iinc (v := nI ((tb_cnt cs c v row) + 1)) (lv' := [(4, .int (nI ((tb_cnt cs c v row) + 1))), (5, .int (nI row)), (0, .ref 3), (1, .int (nI c)), (2, .long v)]) (pc' := 34) rfl rfl (nI_1 (tb_cnt cs c v row)) rfl rfl rfl ?_
        refine wp_iinc (v := nI (row + 1)) (lv' := [(5, .int (nI (row + 1))), (4, .int (nI ((tb_cnt cs c v row) + 1))), (0, .ref 3), (1, .int (nI c)), (2, .long v)]) (pc' := 37) rfl rfl (nI_1 row) rfl rfl rfl ?_
        refine wp_p (pc' := 6) (lv' := [(5, .int (nI (row + 1))), (4, .int (nI ((tb_cnt cs c v row) + 1))), (0, .ref 3), (1, .int (nI c)), (2, .long v)]) (st' := []) rfl rfl ?_
        have e9 : tb_cnt cs c v (row + 1) = tb_cnt cs c v row + 1 := by show tb_cnt cs c v row + (if cs.getD (row * 4 + c) 0 = v then 1 else 0) = _; rw [if_pos ((lg_cmp_eq _ _).mp (by assumption))]
        rw [← e9]
        exact ih (row + 1) (by omega)
set_option maxRecDepth 20000 in
theorem c_rowsWith_3 (c0 c1 c2 : sm_E) (t : sm_H) (cs : List Int64) (ix : List Int32) (ac dn : Nat) (c : Nat) (v : Int64) (hc : c < 4) (hdn : dn ≤ 20) (hcs : cs.length = 80) : sm_run none 4 30 0 (lv_args 0 [.ref 3, .int (nI c), .long v]) [] (c0 :: c1 :: c2 :: .inr (1, [.ref 4, .ref 5, .int (nI ac), .int (nI dn)]) :: .inl (1, .inr (.inl cs)) :: .inl (3, .inl ix) :: t) (some (.int (nI (tb_cnt cs c v dn))), (c0 :: c1 :: c2 :: .inr (1, [.ref 4, .ref 5, .int (nI ac), .int (nI dn)]) :: .inl (1, .inr (.inl cs)) :: .inl (3, .inl ix) :: t)) := by
  refine wp_to ?_
  refine wp_p (pc' := 1) (lv' := [(0, .ref 3), (1, .int (nI c)), (2, .long v)]) (st' := [.int 0]) rfl rfl ?_
  refine wp_p (pc' := 3) (lv' := [(4, .int 0), (0, .ref 3), (1, .int (nI c)), (2, .long v)]) (st' := []) rfl rfl ?_
  refine wp_p (pc' := 4) (lv' := [(4, .int 0), (0, .ref 3), (1, .int (nI c)), (2, .long v)]) (st' := [.int 0]) rfl rfl ?_
  refine wp_p (pc' := 6) (lv' := [(5, .int 0), (4, .int 0), (0, .ref 3), (1, .int (nI c)), (2, .long v)]) (st' := []) rfl rfl ?_
  exact l_rowsWith_3 c0 c1 c2 t cs ix ac dn c v hc hdn hcs dn 0 (by omega)
set_option maxRecDepth 20000 in
theorem c_isThere_6 (c0 c1 c2 c3 c4 c5 : sm_E) (t : sm_H) (cs : List Int64) (ix : List Int32) (ac dn : Nat)  (hac : ac ≤ 4) : sm_run none 4 26 0 (lv_args 0 [.ref 6]) [] (c0 :: c1 :: c2 :: c3 :: c4 :: c5 :: .inr (1, [.ref 7, .ref 8, .int (nI ac), .int (nI dn)]) :: .inl (1, .inr (.inl cs)) :: .inl (3, .inl ix) :: t) (some (.int (if 0 < ac then 1 else 0)), (c0 :: c1 :: c2 :: c3 :: c4 :: c5 :: .inr (1, [.ref 7, .ref 8, .int (nI ac), .int (nI dn)]) :: .inl (1, .inr (.inl cs)) :: .inl (3, .inl ix) :: t)) := by
  refine wp_to ?_
  refine wp_p (pc' := 1) (lv' := [(0, .ref 6)]) (st' := [.ref 6]) rfl rfl ?_
  refine wp_get (q := 6) (v := .int (nI ac)) (pc' := 4) rfl rfl rfl rfl ?_
  refine wn_if_le (n := ac) (pc' := 7) rfl (by omega) rfl (fun hc1 => ?_) (fun hc1 => ?_)
  · refine wp_p (pc' := 12) (lv' := [(0, .ref 6)]) (st' := [.int 0]) rfl rfl ?_
    exact wp_r rfl rfl ⟨by rw [if_neg (by omega)], rfl⟩
  · refine wp_p (pc' := 8) (lv' := [(0, .ref 6)]) (st' := [.int 1]) rfl rfl ?_
    refine wp_p (pc' := 12) (lv' := [(0, .ref 6)]) (st' := [.int 1]) rfl rfl ?_
    exact wp_r rfl rfl ⟨by rw [if_pos (by omega)], rfl⟩
set_option maxRecDepth 20000 in
theorem c_hasColumn_6 (c0 c1 c2 c3 c4 c5 : sm_E) (t : sm_H) (cs : List Int64) (ix : List Int32) (ac dn : Nat) (c : Nat) (hac : ac ≤ 4) (hc : c < 1000) : sm_run none 4 27 0 (lv_args 0 [.ref 6, .int (nI c)]) [] (c0 :: c1 :: c2 :: c3 :: c4 :: c5 :: .inr (1, [.ref 7, .ref 8, .int (nI ac), .int (nI dn)]) :: .inl (1, .inr (.inl cs)) :: .inl (3, .inl ix) :: t) (some (.int (if c < ac then 1 else 0)), (c0 :: c1 :: c2 :: c3 :: c4 :: c5 :: .inr (1, [.ref 7, .ref 8, .int (nI ac), .int (nI dn)]) :: .inl (1, .inr (.inl cs)) :: .inl (3, .inl ix) :: t)) := by
  refine wp_to ?_
  refine wp_p (pc' := 1) (lv' := [(0, .ref 6), (1, .int (nI c))]) (st' := [.int (nI c)]) rfl rfl ?_
  refine wn_if_lt (n := c) (pc' := 4) rfl (by omega) rfl (fun hc1 => ?_) (fun hc1 => ?_)
  · exact hc1.elim
  · refine wp_p (pc' := 5) (lv' := [(0, .ref 6), (1, .int (nI c))]) (st' := [.int (nI c)]) rfl rfl ?_
    refine wp_p (pc' := 6) (lv' := [(0, .ref 6), (1, .int (nI c))]) (st' := [.ref 6, .int (nI c)]) rfl rfl ?_
    refine wp_get (q := 6) (v := .int (nI ac)) (pc' := 9) rfl rfl rfl rfl ?_
    refine wn_ic_ge (n := c) (m := ac) (pc' := 12) rfl (by omega) (by omega) rfl (fun hc2 => ?_) (fun hc2 => ?_)
    · refine wp_p (pc' := 17) (lv' := [(0, .ref 6), (1, .int (nI c))]) (st' := [.int 0]) rfl rfl ?_
      exact wp_r rfl rfl ⟨by rw [if_neg (by omega)], rfl⟩
    · refine wp_p (pc' := 13) (lv' := [(0, .ref 6), (1, .int (nI c))]) (st' := [.int 1]) rfl rfl ?_
      refine wp_p (pc' := 17) (lv' := [(0, .ref 6), (1, .int (nI c))]) (st' := [.int 1]) rfl rfl ?_
      exact wp_r rfl rfl ⟨by rw [if_pos (by omega)], rfl⟩
set_option maxRecDepth 20000 in
theorem c_make_6 (c0 c1 c2 c3 c4 c5 : sm_E) (t : sm_H) (cs : List Int64) (ix : List Int32) (ac dn : Nat) (n : Nat)  : sm_run none 4 31 0 (lv_args 0 [.ref 6, .int (nI n)]) [] (c0 :: c1 :: c2 :: c3 :: c4 :: c5 :: .inr (1, [.ref 7, .ref 8, .int (nI ac), .int (nI dn)]) :: .inl (1, .inr (.inl cs)) :: .inl (3, .inl ix) :: t) (none, (c0 :: c1 :: c2 :: c3 :: c4 :: c5 :: .inr (1, [.ref 7, .ref 8, .int (nI n), .int (nI dn)]) :: .inl (1, .inr (.inl cs)) :: .inl (3, .inl ix) :: t)) := by
  refine wp_to ?_
  refine wp_p (pc' := 1) (lv' := [(0, .ref 6), (1, .int (nI n))]) (st' := [.ref 6]) rfl rfl ?_
  refine wp_p (pc' := 2) (lv' := [(0, .ref 6), (1, .int (nI n))]) (st' := [.int (nI n), .ref 6]) rfl rfl ?_
  refine wp_put (q := 6) (v := .int (nI n)) (pc' := 5) (h2 := (c0 :: c1 :: c2 :: c3 :: c4 :: c5 :: .inr (1, [.ref 7, .ref 8, .int (nI n), .int (nI dn)]) :: .inl (1, .inr (.inl cs)) :: .inl (3, .inl ix) :: t)) rfl rfl rfl rfl rfl rfl rfl ?_
  exact wp_r rfl rfl ⟨rfl, rfl⟩
set_option maxRecDepth 20000 in
theorem l_rowsWith_6 (c0 c1 c2 c3 c4 c5 : sm_E) (t : sm_H) (cs : List Int64) (ix : List Int32) (ac dn : Nat) (c : Nat) (v : Int64) (hc : c < 4) (hdn : dn ≤ 20) (hcs : cs.length = 80) : ∀ k row : Nat, row + k = dn → sm_wp 4 30 6 [(5, .int (nI row)), (4, .int (nI (tb_cnt cs c v row))), (0, .ref 6), (1, .int (nI c)), (2, .long v)] [] (c0 :: c1 :: c2 :: c3 :: c4 :: c5 :: .inr (1, [.ref 7, .ref 8, .int (nI ac), .int (nI dn)]) :: .inl (1, .inr (.inl cs)) :: .inl (3, .inl ix) :: t) (fun w g => w = some (.int (nI (tb_cnt cs c v dn))) ∧ g = (c0 :: c1 :: c2 :: c3 :: c4 :: c5 :: .inr (1, [.ref 7, .ref 8, .int (nI ac), .int (nI dn)]) :: .inl (1, .inr (.inl cs)) :: .inl (3, .inl ix) :: t)) := by
  intro k
  induction k with
  | zero =>
    intro row hk
    have hb := tb_cnt_le cs c v row
    refine wp_p (pc' := 8) (lv' := [(5, .int (nI row)), (4, .int (nI (tb_cnt cs c v row))), (0, .ref 6), (1, .int (nI c)), (2, .long v)]) (st' := [.int (nI row)]) rfl rfl ?_
    refine wp_p (pc' := 9) (lv' := [(5, .int (nI row)), (4, .int (nI (tb_cnt cs c v row))), (0, .ref 6), (1, .int (nI c)), (2, .long v)]) (st' := [.ref 6, .int (nI row)]) rfl rfl ?_
    refine wp_get (q := 6) (v := .int (nI dn)) (pc' := 12) rfl rfl rfl rfl ?_
    refine wn_ic_ge (n := row) (m := dn) (pc' := 15) rfl (by omega) (by omega) rfl (fun hc1 => ?_) (fun hc1 => ?_)
    · refine wp_p (pc' := 42) (lv' := [(5, .int (nI row)), (4, .int (nI (tb_cnt cs c v row))), (0, .ref 6), (1, .int (nI c)), (2, .long v)]) (st' := [.int (nI (tb_cnt cs c v row))]) rfl rfl ?_
      exact wp_r rfl rfl ⟨by rw [show row = dn by omega], rfl⟩
    · exact absurd hc1 (by omega)
  | succ k ih =>
    intro row hk
    have hb := tb_cnt_le cs c v row
    refine wp_p (pc' := 8) (lv' := [(5, .int (nI row)), (4, .int (nI (tb_cnt cs c v row))), (0, .ref 6), (1, .int (nI c)), (2, .long v)]) (st' := [.int (nI row)]) rfl rfl ?_
    refine wp_p (pc' := 9) (lv' := [(5, .int (nI row)), (4, .int (nI (tb_cnt cs c v row))), (0, .ref 6), (1, .int (nI c)), (2, .long v)]) (st' := [.ref 6, .int (nI row)]) rfl rfl ?_
    refine wp_get (q := 6) (v := .int (nI dn)) (pc' := 12) rfl rfl rfl rfl ?_
    refine wn_ic_ge (n := row) (m := dn) (pc' := 15) rfl (by omega) (by omega) rfl (fun hc1 => ?_) (fun hc1 => ?_)
    · exact absurd hc1 (by omega)
    · refine wp_p (pc' := 16) (lv' := [(5, .int (nI row)), (4, .int (nI (tb_cnt cs c v row))), (0, .ref 6), (1, .int (nI c)), (2, .long v)]) (st' := [.ref 6]) rfl rfl ?_
      refine wp_get (q := 6) (v := .ref 7) (pc' := 19) rfl rfl rfl rfl ?_
      refine wp_p (pc' := 21) (lv' := [(5, .int (nI row)), (4, .int (nI (tb_cnt cs c v row))), (0, .ref 6), (1, .int (nI c)), (2, .long v)]) (st' := [.int (nI row), .ref 7]) rfl rfl ?_
      refine wp_p (pc' := 22) (lv' := [(5, .int (nI row)), (4, .int (nI (tb_cnt cs c v row))), (0, .ref 6), (1, .int (nI c)), (2, .long v)]) (st' := [.int 4, .int (nI row), .ref 7]) rfl rfl ?_
      refine wp_imul (v := nI (row * 4)) (pc' := 23) rfl (pk_mul row 4) rfl ?_
      refine wp_p (pc' := 24) (lv' := [(5, .int (nI row)), (4, .int (nI (tb_cnt cs c v row))), (0, .ref 6), (1, .int (nI c)), (2, .long v)]) (st' := [.int (nI c), .int (nI (row * 4)), .ref 7]) rfl rfl ?_
      refine wp_iadd (v := nI ((row * 4) + c)) (pc' := 25) rfl (nI_add (row * 4) c) rfl ?_
      refine wp_laload (q := 7) (n := (row * 4) + c) (g := cs) (x := cs.getD ((row * 4) + c) 0) (pc' := 26) rfl rfl (by omega) (by omega) rfl rfl ?_
      refine wp_p (pc' := 27) (lv' := [(5, .int (nI row)), (4, .int (nI (tb_cnt cs c v row))), (0, .ref 6), (1, .int (nI c)), (2, .long v)]) (st' := [.long v, .long (cs.getD ((row * 4) + c) 0)]) rfl rfl ?_
      refine wp_lcmp (v := lg_cmp (cs.getD ((row * 4) + c) 0) v) (pc' := 28) rfl rfl rfl ?_
      refine wp_if_ne (pc' := 31) rfl rfl (fun hc2 => ?_) (fun hc2 => ?_)
      · refine wp_iinc (v := nI (row + 1)) (lv' := [(5, .int (nI (row + 1))), (4, .int (nI (tb_cnt cs c v row))), (0, .ref 6), (1, .int (nI c)), (2, .long v)]) (pc' := 37) rfl rfl (nI_1 row) rfl rfl rfl ?_
        refine wp_p (pc' := 6) (lv' := [(5, .int (nI (row + 1))), (4, .int (nI (tb_cnt cs c v row))), (0, .ref 6), (1, .int (nI c)), (2, .long v)]) (st' := []) rfl rfl ?_
        have e9 : tb_cnt cs c v (row + 1) = tb_cnt cs c v row := by show tb_cnt cs c v row + (if cs.getD (row * 4 + c) 0 = v then 1 else 0) = _; rw [if_neg (fun q => absurd ((lg_cmp_eq _ _).mpr q) (by assumption))]; rfl
        rw [← e9]
        exact ih (row + 1) (by omega)
      · refine wp_iinc (v := nI ((tb_cnt cs c v row) + 1)) (lv' := [(4, .int (nI ((tb_cnt cs c v row) + 1))), (5, .int (nI row)), (0, .ref 6), (1, .int (nI c)), (2, .long v)]) (pc' := 34) rfl rfl (nI_1 (tb_cnt cs c v row)) rfl rfl rfl ?_
        refine wp_iinc (v := nI (row + 1)) (lv' := [(5, .int (nI (row + 1))), (4, .int (nI ((tb_cnt cs c v row) + 1))), (0, .ref 6), (1, .int (nI c)), (2, .long v)]) (pc' := 37) rfl rfl (nI_1 row) rfl rfl rfl ?_
        refine wp_p (pc' := 6) (lv' := [(5, .int (nI (row + 1))), (4, .int (nI ((tb_cnt cs c v row) + 1))), (0, .ref 6), (1, .int (nI c)), (2, .long v)]) (st' := []) rfl rfl ?_
        have e9 : tb_cnt cs c v (row + 1) = tb_cnt cs c v row + 1 := by show tb_cnt cs c v row + (if cs.getD (row * 4 + c) 0 = v then 1 else 0) = _; rw [if_pos ((lg_cmp_eq _ _).mp (by assumption))]
        rw [← e9]
        exact ih (row + 1) (by omega)
set_option maxRecDepth 20000 in
theorem c_rowsWith_6 (c0 c1 c2 c3 c4 c5 : sm_E) (t : sm_H) (cs : List Int64) (ix : List Int32) (ac dn : Nat) (c : Nat) (v : Int64) (hc : c < 4) (hdn : dn ≤ 20) (hcs : cs.length = 80) : sm_run none 4 30 0 (lv_args 0 [.ref 6, .int (nI c), .long v]) [] (c0 :: c1 :: c2 :: c3 :: c4 :: c5 :: .inr (1, [.ref 7, .ref 8, .int (nI ac), .int (nI dn)]) :: .inl (1, .inr (.inl cs)) :: .inl (3, .inl ix) :: t) (some (.int (nI (tb_cnt cs c v dn))), (c0 :: c1 :: c2 :: c3 :: c4 :: c5 :: .inr (1, [.ref 7, .ref 8, .int (nI ac), .int (nI dn)]) :: .inl (1, .inr (.inl cs)) :: .inl (3, .inl ix) :: t)) := by
  refine wp_to ?_
  refine wp_p (pc' := 1) (lv' := [(0, .ref 6), (1, .int (nI c)), (2, .long v)]) (st' := [.int 0]) rfl rfl ?_
  refine wp_p (pc' := 3) (lv' := [(4, .int 0), (0, .ref 6), (1, .int (nI c)), (2, .long v)]) (st' := []) rfl rfl ?_
  refine wp_p (pc' := 4) (lv' := [(4, .int 0), (0, .ref 6), (1, .int (nI c)), (2, .long v)]) (st' := [.int 0]) rfl rfl ?_
  refine wp_p (pc' := 6) (lv' := [(5, .int 0), (4, .int 0), (0, .ref 6), (1, .int (nI c)), (2, .long v)]) (st' := []) rfl rfl ?_
  exact l_rowsWith_6 c0 c1 c2 c3 c4 c5 t cs ix ac dn c v hc hdn hcs dn 0 (by omega)
set_option maxRecDepth 20000 in
theorem c_isThere_9 (c0 c1 c2 c3 c4 c5 c6 c7 c8 : sm_E) (t : sm_H) (cs : List Int64) (ix : List Int32) (ac dn : Nat)  (hac : ac ≤ 4) : sm_run none 4 26 0 (lv_args 0 [.ref 9]) [] (c0 :: c1 :: c2 :: c3 :: c4 :: c5 :: c6 :: c7 :: c8 :: .inr (1, [.ref 10, .ref 11, .int (nI ac), .int (nI dn)]) :: .inl (1, .inr (.inl cs)) :: .inl (3, .inl ix) :: t) (some (.int (if 0 < ac then 1 else 0)), (c0 :: c1 :: c2 :: c3 :: c4 :: c5 :: c6 :: c7 :: c8 :: .inr (1, [.ref 10, .ref 11, .int (nI ac), .int (nI dn)]) :: .inl (1, .inr (.inl cs)) :: .inl (3, .inl ix) :: t)) := by
  refine wp_to ?_
  refine wp_p (pc' := 1) (lv' := [(0, .ref 9)]) (st' := [.ref 9]) rfl rfl ?_
  refine wp_get (q := 9) (v := .int (nI ac)) (pc' := 4) rfl rfl rfl rfl ?_
  refine wn_if_le (n := ac) (pc' := 7) rfl (by omega) rfl (fun hc1 => ?_) (fun hc1 => ?_)
  · refine wp_p (pc' := 12) (lv' := [(0, .ref 9)]) (st' := [.int 0]) rfl rfl ?_
    exact wp_r rfl rfl ⟨by rw [if_neg (by omega)], rfl⟩
  · refine wp_p (pc' := 8) (lv' := [(0, .ref 9)]) (st' := [.int 1]) rfl rfl ?_
    refine wp_p (pc' := 12) (lv' := [(0, .ref 9)]) (st' := [.int 1]) rfl rfl ?_
    exact wp_r rfl rfl ⟨by rw [if_pos (by omega)], rfl⟩
set_option maxRecDepth 20000 in
theorem c_hasColumn_9 (c0 c1 c2 c3 c4 c5 c6 c7 c8 : sm_E) (t : sm_H) (cs : List Int64) (ix : List Int32) (ac dn : Nat) (c : Nat) (hac : ac ≤ 4) (hc : c < 1000) : sm_run none 4 27 0 (lv_args 0 [.ref 9, .int (nI c)]) [] (c0 :: c1 :: c2 :: c3 :: c4 :: c5 :: c6 :: c7 :: c8 :: .inr (1, [.ref 10, .ref 11, .int (nI ac), .int (nI dn)]) :: .inl (1, .inr (.inl cs)) :: .inl (3, .inl ix) :: t) (some (.int (if c < ac then 1 else 0)), (c0 :: c1 :: c2 :: c3 :: c4 :: c5 :: c6 :: c7 :: c8 :: .inr (1, [.ref 10, .ref 11, .int (nI ac), .int (nI dn)]) :: .inl (1, .inr (.inl cs)) :: .inl (3, .inl ix) :: t)) := by
  refine wp_to ?_
  refine wp_p (pc' := 1) (lv' := [(0, .ref 9), (1, .int (nI c))]) (st' := [.int (nI c)]) rfl rfl ?_
  refine wn_if_lt (n := c) (pc' := 4) rfl (by omega) rfl (fun hc1 => ?_) (fun hc1 => ?_)
  · exact hc1.elim
  · refine wp_p (pc' := 5) (lv' := [(0, .ref 9), (1, .int (nI c))]) (st' := [.int (nI c)]) rfl rfl ?_
    refine wp_p (pc' := 6) (lv' := [(0, .ref 9), (1, .int (nI c))]) (st' := [.ref 9, .int (nI c)]) rfl rfl ?_
    refine wp_get (q := 9) (v := .int (nI ac)) (pc' := 9) rfl rfl rfl rfl ?_
    refine wn_ic_ge (n := c) (m := ac) (pc' := 12) rfl (by omega) (by omega) rfl (fun hc2 => ?_) (fun hc2 => ?_)
    · refine wp_p (pc' := 17) (lv' := [(0, .ref 9), (1, .int (nI c))]) (st' := [.int 0]) rfl rfl ?_
      exact wp_r rfl rfl ⟨by rw [if_neg (by omega)], rfl⟩
    · refine wp_p (pc' := 13) (lv' := [(0, .ref 9), (1, .int (nI c))]) (st' := [.int 1]) rfl rfl ?_
      refine wp_p (pc' := 17) (lv' := [(0, .ref 9), (1, .int (nI c))]) (st' := [.int 1]) rfl rfl ?_
      exact wp_r rfl rfl ⟨by rw [if_pos (by omega)], rfl⟩
set_option maxRecDepth 20000 in
theorem c_make_9 (c0 c1 c2 c3 c4 c5 c6 c7 c8 : sm_E) (t : sm_H) (cs : List Int64) (ix : List Int32) (ac dn : Nat) (n : Nat)  : sm_run none 4 31 0 (lv_args 0 [.ref 9, .int (nI n)]) [] (c0 :: c1 :: c2 :: c3 :: c4 :: c5 :: c6 :: c7 :: c8 :: .inr (1, [.ref 10, .ref 11, .int (nI ac), .int (nI dn)]) :: .inl (1, .inr (.inl cs)) :: .inl (3, .inl ix) :: t) (none, (c0 :: c1 :: c2 :: c3 :: c4 :: c5 :: c6 :: c7 :: c8 :: .inr (1, [.ref 10, .ref 11, .int (nI n), .int (nI dn)]) :: .inl (1, .inr (.inl cs)) :: .inl (3, .inl ix) :: t)) := by
  refine wp_to ?_
  refine wp_p (pc' := 1) (lv' := [(0, .ref 9), (1, .int (nI n))]) (st' := [.ref 9]) rfl rfl ?_
  refine wp_p (pc' := 2) (lv' := [(0, .ref 9), (1, .int (nI n))]) (st' := [.int (nI n), .ref 9]) rfl rfl ?_
  refine wp_put (q := 9) (v := .int (nI n)) (pc' := 5) (h2 := (c0 :: c1 :: c2 :: c3 :: c4 :: c5 :: c6 :: c7 :: c8 :: .inr (1, [.ref 10, .ref 11, .int (nI n), .int (nI dn)]) :: .inl (1, .inr (.inl cs)) :: .inl (3, .inl ix) :: t)) rfl rfl rfl rfl rfl rfl rfl ?_
  exact wp_r rfl rfl ⟨rfl, rfl⟩
set_option maxRecDepth 20000 in
theorem l_rowsWith_9 (c0 c1 c2 c3 c4 c5 c6 c7 c8 : sm_E) (t : sm_H) (cs : List Int64) (ix : List Int32) (ac dn : Nat) (c : Nat) (v : Int64) (hc : c < 4) (hdn : dn ≤ 20) (hcs : cs.length = 80) : ∀ k row : Nat, row + k = dn → sm_wp 4 30 6 [(5, .int (nI row)), (4, .int (nI (tb_cnt cs c v row))), (0, .ref 9), (1, .int (nI c)), (2, .long v)] [] (c0 :: c1 :: c2 :: c3 :: c4 :: c5 :: c6 :: c7 :: c8 :: .inr (1, [.ref 10, .ref 11, .int (nI ac), .int (nI dn)]) :: .inl (1, .inr (.inl cs)) :: .inl (3, .inl ix) :: t) (fun w g => w = some (.int (nI (tb_cnt cs c v dn))) ∧ g = (c0 :: c1 :: c2 :: c3 :: c4 :: c5 :: c6 :: c7 :: c8 :: .inr (1, [.ref 10, .ref 11, .int (nI ac), .int (nI dn)]) :: .inl (1, .inr (.inl cs)) :: .inl (3, .inl ix) :: t)) := by
  intro k
  induction k with
  | zero =>
    intro row hk
    have hb := tb_cnt_le cs c v row
    refine wp_p (pc' := 8) (lv' := [(5, .int (nI row)), (4, .int (nI (tb_cnt cs c v row))), (0, .ref 9), (1, .int (nI c)), (2, .long v)]) (st' := [.int (nI row)]) rfl rfl ?_
    refine wp_p (pc' := 9) (lv' := [(5, .int (nI row)), (4, .int (nI (tb_cnt cs c v row))), (0, .ref 9), (1, .int (nI c)), (2, .long v)]) (st' := [.ref 9, .int (nI row)]) rfl rfl ?_
    refine wp_get (q := 9) (v := .int (nI dn)) (pc' := 12) rfl rfl rfl rfl ?_
    refine wn_ic_ge (n := row) (m := dn) (pc' := 15) rfl (by omega) (by omega) rfl (fun hc1 => ?_) (fun hc1 => ?_)
    · refine wp_p (pc' := 42) (lv' := [(5, .int (nI row)), (4, .int (nI (tb_cnt cs c v row))), (0, .ref 9), (1, .int (nI c)), (2, .long v)]) (st' := [.int (nI (tb_cnt cs c v row))]) rfl rfl ?_
      exact wp_r rfl rfl ⟨by rw [show row = dn by omega], rfl⟩
    · exact absurd hc1 (by omega)
  | succ k ih =>
    intro row hk
    have hb := tb_cnt_le cs c v row
    refine wp_p (pc' := 8) (lv' := [(5, .int (nI row)), (4, .int (nI (tb_cnt cs c v row))), (0, .ref 9), (1, .int (nI c)), (2, .long v)]) (st' := [.int (nI row)]) rfl rfl ?_
    refine wp_p (pc' := 9) (lv' := [(5, .int (nI row)), (4, .int (nI (tb_cnt cs c v row))), (0, .ref 9), (1, .int (nI c)), (2, .long v)]) (st' := [.ref 9, .int (nI row)]) rfl rfl ?_
    refine wp_get (q := 9) (v := .int (nI dn)) (pc' := 12) rfl rfl rfl rfl ?_
    refine wn_ic_ge (n := row) (m := dn) (pc' := 15) rfl (by omega) (by omega) rfl (fun hc1 => ?_) (fun hc1 => ?_)
    · exact absurd hc1 (by omega)
    · refine wp_p (pc' := 16) (lv' := [(5, .int (nI row)), (4, .int (nI (tb_cnt cs c v row))), (0, .ref 9), (1, .int (nI c)), (2, .long v)]) (st' := [.ref 9]) rfl rfl ?_
      refine wp_get (q := 9) (v := .ref 10) (pc' := 19) rfl rfl rfl rfl ?_
      refine wp_p (pc' := 21) (lv' := [(5, .int (nI row)), (4, .int (nI (tb_cnt cs c v row))), (0, .ref 9), (1, .int (nI c)), (2, .long v)]) (st' := [.int (nI row), .ref 10]) rfl rfl ?_
      refine wp_p (pc' := 22) (lv' := [(5, .int (nI row)), (4, .int (nI (tb_cnt cs c v row))), (0, .ref 9), (1, .int (nI c)), (2, .long v)]) (st' := [.int 4, .int (nI row), .ref 10]) rfl rfl ?_
      refine wp_imul (v := nI (row * 4)) (pc' := 23) rfl (pk_mul row 4) rfl ?_
      refine wp_p (pc' := 24) (lv' := [(5, .int (nI row)), (4, .int (nI (tb_cnt cs c v row))), (0, .ref 9), (1, .int (nI c)), (2, .long v)]) (st' := [.int (nI c), .int (nI (row * 4)), .ref 10]) rfl rfl ?_
      refine wp_iadd (v := nI ((row * 4) + c)) (pc' := 25) rfl (nI_add (row * 4) c) rfl ?_
      refine wp_laload (q := 10) (n := (row * 4) + c) (g := cs) (x := cs.getD ((row * 4) + c) 0) (pc' := 26) rfl rfl (by omega) (by omega) rfl rfl ?_
      refine wp_p (pc' := 27) (lv' := [(5, .int (nI row)), (4, .int (nI (tb_cnt cs c v row))), (0, .ref 9), (1, .int (nI c)), (2, .long v)]) (st' := [.long v, .long (cs.getD ((row * 4) + c) 0)]) rfl rfl ?_
      refine wp_lcmp (v := lg_cmp (cs.getD ((row * 4) + c) 0) v) (pc' := 28) rfl rfl rfl ?_
      refine wp_if_ne (pc' := 31) rfl rfl (fun hc2 => ?_) (fun hc2 => ?_)
      · refine wp_iinc (v := nI (row + 1)) (lv' := [(5, .int (nI (row + 1))), (4, .int (nI (tb_cnt cs c v row))), (0, .ref 9), (1, .int (nI c)), (2, .long v)]) (pc' := 37) rfl rfl (nI_1 row) rfl rfl rfl ?_
        refine wp_p (pc' := 6) (lv' := [(5, .int (nI (row + 1))), (4, .int (nI (tb_cnt cs c v row))), (0, .ref 9), (1, .int (nI c)), (2, .long v)]) (st' := []) rfl rfl ?_
        have e9 : tb_cnt cs c v (row + 1) = tb_cnt cs c v row := by show tb_cnt cs c v row + (if cs.getD (row * 4 + c) 0 = v then 1 else 0) = _; rw [if_neg (fun q => absurd ((lg_cmp_eq _ _).mpr q) (by assumption))]; rfl
        rw [← e9]
        exact ih (row + 1) (by omega)
      · refine wp_iinc (v := nI ((tb_cnt cs c v row) + 1)) (lv' := [(4, .int (nI ((tb_cnt cs c v row) + 1))), (5, .int (nI row)), (0, .ref 9), (1, .int (nI c)), (2, .long v)]) (pc' := 34) rfl rfl (nI_1 (tb_cnt cs c v row)) rfl rfl rfl ?_
        refine wp_iinc (v := nI (row + 1)) (lv' := [(5, .int (nI (row + 1))), (4, .int (nI ((tb_cnt cs c v row) + 1))), (0, .ref 9), (1, .int (nI c)), (2, .long v)]) (pc' := 37) rfl rfl (nI_1 row) rfl rfl rfl ?_
        refine wp_p (pc' := 6) (lv' := [(5, .int (nI (row + 1))), (4, .int (nI ((tb_cnt cs c v row) + 1))), (0, .ref 9), (1, .int (nI c)), (2, .long v)]) (st' := []) rfl rfl ?_
        have e9 : tb_cnt cs c v (row + 1) = tb_cnt cs c v row + 1 := by show tb_cnt cs c v row + (if cs.getD (row * 4 + c) 0 = v then 1 else 0) = _; rw [if_pos ((lg_cmp_eq _ _).mp (by assumption))]
        rw [← e9]
        exact ih (row + 1) (by omega)
set_option maxRecDepth 20000 in
theorem c_rowsWith_9 (c0 c1 c2 c3 c4 c5 c6 c7 c8 : sm_E) (t : sm_H) (cs : List Int64) (ix : List Int32) (ac dn : Nat) (c : Nat) (v : Int64) (hc : c < 4) (hdn : dn ≤ 20) (hcs : cs.length = 80) : sm_run none 4 30 0 (lv_args 0 [.ref 9, .int (nI c), .long v]) [] (c0 :: c1 :: c2 :: c3 :: c4 :: c5 :: c6 :: c7 :: c8 :: .inr (1, [.ref 10, .ref 11, .int (nI ac), .int (nI dn)]) :: .inl (1, .inr (.inl cs)) :: .inl (3, .inl ix) :: t) (some (.int (nI (tb_cnt cs c v dn))), (c0 :: c1 :: c2 :: c3 :: c4 :: c5 :: c6 :: c7 :: c8 :: .inr (1, [.ref 10, .ref 11, .int (nI ac), .int (nI dn)]) :: .inl (1, .inr (.inl cs)) :: .inl (3, .inl ix) :: t)) := by
  refine wp_to ?_
  refine wp_p (pc' := 1) (lv' := [(0, .ref 9), (1, .int (nI c)), (2, .long v)]) (st' := [.int 0]) rfl rfl ?_
  refine wp_p (pc' := 3) (lv' := [(4, .int 0), (0, .ref 9), (1, .int (nI c)), (2, .long v)]) (st' := []) rfl rfl ?_
  refine wp_p (pc' := 4) (lv' := [(4, .int 0), (0, .ref 9), (1, .int (nI c)), (2, .long v)]) (st' := [.int 0]) rfl rfl ?_
  refine wp_p (pc' := 6) (lv' := [(5, .int 0), (4, .int 0), (0, .ref 9), (1, .int (nI c)), (2, .long v)]) (st' := []) rfl rfl ?_
  exact l_rowsWith_9 c0 c1 c2 c3 c4 c5 c6 c7 c8 t cs ix ac dn c v hc hdn hcs dn 0 (by omega)
