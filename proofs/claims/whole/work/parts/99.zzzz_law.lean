/-! THE LAW'S LOOP: the calls with arguments -/
section N9z
variable {L i pc pc' : Nat} {xs : Nat → Int32} {st st' st2 : List Value} {m : Mm} {cl : List Nat} {D : Db} {P : Nat → List (List Int64)} {a : An}
/-- a number of the script -/
theorem l_x {aa bb j : Nat} {r : List Value} (hf : sm_find (sm_tab 0) pc = some (.iaload, aa, bb)) (hj : j < L) (hL : L ≤ 2560) (hpc : pc + 1 = pc') (k : RL0 L xs i pc' (.int (xs j) :: r) m) : RL0 L xs i pc (.int (nI j) :: .float 0 :: r) m := by
  obtain ⟨m', hm, hr⟩ := k
  refine ⟨m', hm, rn_x (j := j) hf (ix_nI (by omega)) ?_ hj hpc hr⟩
  have := nIlt (a := j) (b := 0) (by omega) (by decide)
  have z : nI 0 = 0 := rfl
  rw [z] at this
  rw [this]; omega
theorem l_add {aa bb x y : Nat} {r : List Value} (hf : sm_find (sm_tab 0) pc = some (.iadd, aa, bb)) (hpc : pc + 1 = pc') (k : RL0 L xs i pc' (.int (nI (x + y)) :: r) m) : RL0 L xs i pc (.int (nI y) :: .int (nI x) :: r) m := by
  obtain ⟨m', hm, hr⟩ := k
  exact ⟨m', hm, rn_iadd hf (nI_add _ _) hpc hr⟩
set_option maxRecDepth 20000 in
theorem l_cols (h : WS m cl D P a) (h5 : i + 5 ≤ L) (hL : L ≤ 2560) (k : RL0 L xs i 450 [] m) : RL0 L xs i 254 [] m := by
  refine l_p (pc' := 255) (st' := [.ref 0]) rfl rfl ?_
  refine l_p (pc' := 256) (st' := [.float 0, .ref 0]) rfl rfl ?_
  refine l_p (pc' := 257) (st' := [.int (nI i), .float 0, .ref 0]) rfl rfl ?_
  refine l_p (pc' := 258) (st' := [.int (nI 1), .int (nI i), .float 0, .ref 0]) rfl rfl ?_
  refine l_add (pc' := 259) rfl rfl ?_
  refine l_x (pc' := 260) rfl (by omega) hL rfl ?_
  refine l_call (M := 11) (As := [.ref 0, .int (xs (i + 1))]) (r := []) (d := 41) (K := fun v m1 => v = some (.int (nI (tbA (xs (i + 1)) (wd D)))) ∧ m1 = m) rfl rfl (by decide) rfl (c_11 h.2.2.2.2.2.2.2.2.1 ⟨rfl, rfl⟩) ?_
  rintro v m1 ⟨rfl, rfl⟩
  refine l_p (pc' := 264) (st' := [.ref 42, .int (nI (tbA (xs (i + 1)) (wd D)))]) rfl rfl ?_
  refine l_p (pc' := 265) (st' := [.float 0, .ref 42, .int (nI (tbA (xs (i + 1)) (wd D)))]) rfl rfl ?_
  refine l_p (pc' := 266) (st' := [.int (nI i), .float 0, .ref 42, .int (nI (tbA (xs (i + 1)) (wd D)))]) rfl rfl ?_
  refine l_p (pc' := 267) (st' := [.int (nI 1), .int (nI i), .float 0, .ref 42, .int (nI (tbA (xs (i + 1)) (wd D)))]) rfl rfl ?_
  refine l_add (pc' := 268) rfl rfl ?_
  refine l_x (pc' := 269) rfl (by omega) hL rfl ?_
  refine l_call (M := 193) (As := [.ref 42, .int (xs (i + 1))]) (r := [.int (nI (tbA (xs (i + 1)) (wd D)))]) (d := 41) (K := fun v m2 => v = some (.int (nI (tbA (xs (i + 1)) (wd D)))) ∧ m2 = m1) rfl rfl (by decide) rfl (c_193 h.1 h.2.2.2.2.2.2.2.2.2.1 ⟨rfl, rfl⟩) ?_
  rintro v m2 ⟨rfl, rfl⟩
  obtain ⟨m', hm, hr⟩ := k
  exact ⟨m', hm, rn_t (pc' := 450) (lv' := lvL i) (st' := []) rfl rfl rfl hr⟩
end N9z
