/-! THE LAW'S LOOP: the calls with arguments -/
section N9z
variable {L i pc pc' : Nat} {xs : Nat → Int32} {st st' st2 : List Value} {m : Mm} {cl : List Nat} {D : Db} {P : Nat → List (List Int64)} {a : An}
/-- a number of the script -/
theorem l_x {aa bb j : Nat} {r : List Value} (hf : sm_find (sm_tab 0) pc = some (.iaload, aa, bb)) (hj : j < L) (hL : L ≤ 2560) (hpc : pc + 1 = pc') (k : RL0 L xs i pc' (.int (xs j) :: r) m) : RL0 L xs i pc (.int (nI j) :: .float 0 :: r) m := by
  obtain ⟨m', hm, hr⟩ := k
  refine ⟨m', hm, rn_x (j := j) hf (ix_nI (by omega)) ?_ hj hpc hr⟩
  have := nIlt (a := j) (b := 0) (by omega) (by decide)
  have z : nI 0 = 0 := rfl
  rw [z] at this
  rw [this]; omega
theorem l_add {aa bb x y : Nat} {r : List Value} (hf : sm_find (sm_tab 0) pc = some (.iadd, aa, bb)) (hpc : pc + 1 = pc') (k : RL0 L xs i pc' (.int (nI (x + y)) :: r) m) : RL0 L xs i pc (.int (nI y) :: .int (nI x) :: r) m := by
  obtain ⟨m', hm, hr⟩ := k
  exact ⟨m', hm, rn_iadd hf (nI_add _ _) hpc hr⟩
set_option maxRecDepth 20000 in
theorem l_cols (h : WS m cl D P a) (h5 : i + 5 ≤ L) (hL : L ≤ 2560) (k : RL0 L xs i 450 [] m) : RL0 L xs i 254 [] m := by
  refine l_p (pc' := 255) (st' := [.ref 0]) rfl rfl ?_
  refine l_p (pc' := 256) (st' := [.float 0, .ref 0]) rfl rfl ?_
  refine l_p (pc' := 257) (st' := [.int (nI i), .float 0, .ref 0]) rfl rfl ?_
  refine l_p (pc' := 258) (st' := [.int (nI 1), .int (nI i), .float 0, .ref 0]) rfl rfl ?_
  refine l_add (pc' := 259) rfl rfl ?_
  refine l_x (pc' := 260) rfl (by omega) hL rfl ?_
  refine l_call (M := 11) (As := [.ref 0, .int (xs (i + 1))]) (r := []) (d := 41) (K := fun v m1 => v = some (.int (nI (tbA (xs (i + 1)) (wd D)))) ∧ m1 = m) rfl rfl (by decide) rfl (c_11 h.2.2.2.2.2.2.2.2.1 ⟨rfl, rfl⟩) ?_
  rintro v m1 ⟨rfl, rfl⟩
  refine l_p (pc' := 264) (st' := [.ref 42, .int (nI (tbA (xs (i + 1)) (wd D)))]) rfl rfl ?_
  refine l_p (pc' := 265) (st' := [.float 0, .ref 42, .int (nI (tbA (xs (i + 1)) (wd D)))]) rfl rfl ?_
  refine l_p (pc' := 266) (st' := [.int (nI i), .float 0, .ref 42, .int (nI (tbA (xs (i + 1)) (wd D)))]) rfl rfl ?_
  refine l_p (pc' := 267) (st' := [.int (nI 1), .int (nI i), .float 0, .ref 42, .int (nI (tbA (xs (i + 1)) (wd D)))]) rfl rfl ?_
  refine l_add (pc' := 268) rfl rfl ?_
  refine l_x (pc' := 269) rfl (by omega) hL rfl ?_
  refine l_call (M := 193) (As := [.ref 42, .int (xs (i + 1))]) (r := [.int (nI (tbA (xs (i + 1)) (wd D)))]) (d := 41) (K := fun v m2 => v = some (.int (nI (tbA (xs (i + 1)) (wd D)))) ∧ m2 = m1) rfl rfl (by decide) rfl (c_193 h.1 h.2.2.2.2.2.2.2.2.2.1 ⟨rfl, rfl⟩) ?_
  rintro v m2 ⟨rfl, rfl⟩
  obtain ⟨m', hm, hr⟩ := k
  exact ⟨m', hm, rn_t (pc' := 450) (lv' := lvL i) (st' := []) rfl rfl rfl hr⟩
set_option maxRecDepth 20000 in
theorem l_size (h : WS m cl D P a) (h5 : i + 5 ≤ L) (hL : L ≤ 2560) (k : RL0 L xs i 450 [] m) : RL0 L xs i 277 [] m := by
  refine l_p (pc' := 278) (st' := [.ref 0]) rfl rfl ?_
  refine l_p (pc' := 279) (st' := [.float 0, .ref 0]) rfl rfl ?_
  refine l_p (pc' := 280) (st' := [.int (nI i), .float 0, .ref 0]) rfl rfl ?_
  refine l_p (pc' := 281) (st' := [.int (nI 1), .int (nI i), .float 0, .ref 0]) rfl rfl ?_
  refine l_add (pc' := 282) rfl rfl ?_
  refine l_x (pc' := 283) rfl (by omega) hL rfl ?_
  refine l_call (M := 12) (As := [.ref 0, .int (xs (i + 1))]) (r := []) (d := 42) (K := fun v m1 => v = some (.int (nI (tbA (xs (i + 1)) (fun t => (rw_ D t).length)))) ∧ m1 = m) rfl rfl (by decide) rfl (c_12 h.2.2.2.2.2.2.2.2.1 ⟨rfl, rfl⟩) ?_
  rintro v m1 ⟨rfl, rfl⟩
  refine l_p (pc' := 287) (st' := [.ref 42, .int (nI (tbA (xs (i + 1)) (fun t => (rw_ D t).length)))]) rfl rfl ?_
  refine l_p (pc' := 288) (st' := [.float 0, .ref 42, .int (nI (tbA (xs (i + 1)) (fun t => (rw_ D t).length)))]) rfl rfl ?_
  refine l_p (pc' := 289) (st' := [.int (nI i), .float 0, .ref 42, .int (nI (tbA (xs (i + 1)) (fun t => (rw_ D t).length)))]) rfl rfl ?_
  refine l_p (pc' := 290) (st' := [.int (nI 1), .int (nI i), .float 0, .ref 42, .int (nI (tbA (xs (i + 1)) (fun t => (rw_ D t).length)))]) rfl rfl ?_
  refine l_add (pc' := 291) rfl rfl ?_
  refine l_x (pc' := 292) rfl (by omega) hL rfl ?_
  refine l_call (M := 194) (As := [.ref 42, .int (xs (i + 1))]) (r := [.int (nI (tbA (xs (i + 1)) (fun t => (rw_ D t).length)))]) (d := 42) (K := fun v m2 => v = some (.int (nI (tbA (xs (i + 1)) (fun t => (rw_ D t).length)))) ∧ m2 = m1) rfl rfl (by decide) rfl (c_194 h.1 h.2.2.2.2.2.2.2.2.2.1 ⟨rfl, rfl⟩) ?_
  rintro v m2 ⟨rfl, rfl⟩
  obtain ⟨m', hm, hr⟩ := k
  exact ⟨m', hm, rn_t (pc' := 450) (lv' := lvL i) (st' := []) rfl rfl rfl hr⟩
set_option maxRecDepth 20000 in
theorem l_ix (h : WS m cl D P a) (h5 : i + 5 ≤ L) (hL : L ≤ 2560) (k : RL0 L xs i 450 [] m) : RL0 L xs i 300 [] m := by
  refine l_p (pc' := 301) (st' := [.ref 0]) rfl rfl ?_
  refine l_p (pc' := 302) (st' := [.float 0, .ref 0]) rfl rfl ?_
  refine l_p (pc' := 303) (st' := [.int (nI i), .float 0, .ref 0]) rfl rfl ?_
  refine l_p (pc' := 304) (st' := [.int (nI 1), .int (nI i), .float 0, .ref 0]) rfl rfl ?_
  refine l_add (pc' := 305) rfl rfl ?_
  refine l_x (pc' := 306) rfl (by omega) hL rfl ?_
  refine l_p (pc' := 307) (st' := [.float 0, .int (xs (i + 1)), .ref 0]) rfl rfl ?_
  refine l_p (pc' := 308) (st' := [.int (nI i), .float 0, .int (xs (i + 1)), .ref 0]) rfl rfl ?_
  refine l_p (pc' := 309) (st' := [.int (nI 2), .int (nI i), .float 0, .int (xs (i + 1)), .ref 0]) rfl rfl ?_
  refine l_add (pc' := 310) rfl rfl ?_
  refine l_x (pc' := 311) rfl (by omega) hL rfl ?_
  refine l_call (M := 13) (As := [.ref 0, .int (xs (i + 1)), .int (xs (i + 2))]) (r := []) (d := 42) (K := fun v m1 => v = some (.int (bI (ixA D (xs (i + 1)) (xs (i + 2)) = true))) ∧ m1 = m) rfl rfl (by decide) rfl (c_13 h.1 h.2.2.2.2.2.2.2.2.2.2.1 h.2.2.2.2.2.2.2.2.1 ⟨rfl, rfl⟩) ?_
  rintro v m1 ⟨rfl, rfl⟩
  refine l_p (pc' := 315) (st' := [.ref 42, .int (bI (ixA D (xs (i + 1)) (xs (i + 2)) = true))]) rfl rfl ?_
  refine l_p (pc' := 316) (st' := [.float 0, .ref 42, .int (bI (ixA D (xs (i + 1)) (xs (i + 2)) = true))]) rfl rfl ?_
  refine l_p (pc' := 317) (st' := [.int (nI i), .float 0, .ref 42, .int (bI (ixA D (xs (i + 1)) (xs (i + 2)) = true))]) rfl rfl ?_
  refine l_p (pc' := 318) (st' := [.int (nI 1), .int (nI i), .float 0, .ref 42, .int (bI (ixA D (xs (i + 1)) (xs (i + 2)) = true))]) rfl rfl ?_
  refine l_add (pc' := 319) rfl rfl ?_
  refine l_x (pc' := 320) rfl (by omega) hL rfl ?_
  refine l_p (pc' := 321) (st' := [.float 0, .int (xs (i + 1)), .ref 42, .int (bI (ixA D (xs (i + 1)) (xs (i + 2)) = true))]) rfl rfl ?_
  refine l_p (pc' := 322) (st' := [.int (nI i), .float 0, .int (xs (i + 1)), .ref 42, .int (bI (ixA D (xs (i + 1)) (xs (i + 2)) = true))]) rfl rfl ?_
  refine l_p (pc' := 323) (st' := [.int (nI 2), .int (nI i), .float 0, .int (xs (i + 1)), .ref 42, .int (bI (ixA D (xs (i + 1)) (xs (i + 2)) = true))]) rfl rfl ?_
  refine l_add (pc' := 324) rfl rfl ?_
  refine l_x (pc' := 325) rfl (by omega) hL rfl ?_
  refine l_call (M := 195) (As := [.ref 42, .int (xs (i + 1)), .int (xs (i + 2))]) (r := [.int (bI (ixA D (xs (i + 1)) (xs (i + 2)) = true))]) (d := 42) (K := fun v m2 => v = some (.int (bI (ixA D (xs (i + 1)) (xs (i + 2)) = true))) ∧ m2 = m1) rfl rfl (by decide) rfl (c_195 h.1 h.2.2.2.2.2.2.2.2.2.1 ⟨rfl, rfl⟩) ?_
  rintro v m2 ⟨rfl, rfl⟩
  obtain ⟨m', hm, hr⟩ := k
  exact ⟨m', hm, rn_t (pc' := 450) (lv' := lvL i) (st' := []) rfl rfl rfl hr⟩
set_option maxRecDepth 20000 in
theorem l_val (h : WS m cl D P a) (h5 : i + 5 ≤ L) (hL : L ≤ 2560) (k : RL0 L xs i 450 [] m) : RL0 L xs i 194 [] m := by
  refine l_p (pc' := 195) (st' := [.ref 0]) rfl rfl ?_
  refine l_p (pc' := 196) (st' := [.float 0, .ref 0]) rfl rfl ?_
  refine l_p (pc' := 197) (st' := [.int (nI i), .float 0, .ref 0]) rfl rfl ?_
  refine l_p (pc' := 198) (st' := [.int (nI 1), .int (nI i), .float 0, .ref 0]) rfl rfl ?_
  refine l_add (pc' := 199) rfl rfl ?_
  refine l_x (pc' := 200) rfl (by omega) hL rfl ?_
  refine l_p (pc' := 201) (st' := [.float 0, .int (xs (i + 1)), .ref 0]) rfl rfl ?_
  refine l_p (pc' := 202) (st' := [.int (nI i), .float 0, .int (xs (i + 1)), .ref 0]) rfl rfl ?_
  refine l_p (pc' := 203) (st' := [.int (nI 2), .int (nI i), .float 0, .int (xs (i + 1)), .ref 0]) rfl rfl ?_
  refine l_add (pc' := 204) rfl rfl ?_
  refine l_x (pc' := 205) rfl (by omega) hL rfl ?_
  refine l_call (M := 8) (As := [.ref 0, .int (xs (i + 1)), .int (xs (i + 2))]) (r := []) (d := 42) (K := fun v m1 => v = some (.long (vlA a (xs (i + 1)) (xs (i + 2)))) ∧ m1 = m) rfl rfl (by decide) rfl (c_8 h.1 h.2.2.2.2.2.1 h.2.2.2.2.2.2.2.1 ⟨rfl, rfl⟩) ?_
  rintro v m1 ⟨rfl, rfl⟩
  refine l_p (pc' := 209) (st' := [.ref 42, .long (vlA a (xs (i + 1)) (xs (i + 2)))]) rfl rfl ?_
  refine l_p (pc' := 210) (st' := [.float 0, .ref 42, .long (vlA a (xs (i + 1)) (xs (i + 2)))]) rfl rfl ?_
  refine l_p (pc' := 211) (st' := [.int (nI i), .float 0, .ref 42, .long (vlA a (xs (i + 1)) (xs (i + 2)))]) rfl rfl ?_
  refine l_p (pc' := 212) (st' := [.int (nI 1), .int (nI i), .float 0, .ref 42, .long (vlA a (xs (i + 1)) (xs (i + 2)))]) rfl rfl ?_
  refine l_add (pc' := 213) rfl rfl ?_
  refine l_x (pc' := 214) rfl (by omega) hL rfl ?_
  refine l_p (pc' := 215) (st' := [.float 0, .int (xs (i + 1)), .ref 42, .long (vlA a (xs (i + 1)) (xs (i + 2)))]) rfl rfl ?_
  refine l_p (pc' := 216) (st' := [.int (nI i), .float 0, .int (xs (i + 1)), .ref 42, .long (vlA a (xs (i + 1)) (xs (i + 2)))]) rfl rfl ?_
  refine l_p (pc' := 217) (st' := [.int (nI 2), .int (nI i), .float 0, .int (xs (i + 1)), .ref 42, .long (vlA a (xs (i + 1)) (xs (i + 2)))]) rfl rfl ?_
  refine l_add (pc' := 218) rfl rfl ?_
  refine l_x (pc' := 219) rfl (by omega) hL rfl ?_
  refine l_call (M := 189) (As := [.ref 42, .int (xs (i + 1)), .int (xs (i + 2))]) (r := [.long (vlA a (xs (i + 1)) (xs (i + 2)))]) (d := 42) (K := fun v m2 => v = some (.long (vlA a (xs (i + 1)) (xs (i + 2)))) ∧ m2 = m1) rfl rfl (by decide) rfl (c_189 h.1 h.2.2.2.2.2.2.1 h.2.2.2.2.2.2.2.1 ⟨rfl, rfl⟩) ?_
  rintro v m2 ⟨rfl, rfl⟩
  obtain ⟨m', hm, hr⟩ := k
  refine ⟨m', hm, rn_lcmp (v := nI 0) (pc' := 223) rfl ((lg_k _ _).mpr rfl) rfl ?_⟩
  exact rn_p (pc' := 450) (lv' := lvL i) (st' := []) rfl rfl hr
set_option maxRecDepth 20000 in
theorem l_cell (h : WS m cl D P a) (h5 : i + 5 ≤ L) (hL : L ≤ 2560) (k : RL0 L xs i 450 [] m) : RL0 L xs i 333 [] m := by
  refine l_p (pc' := 334) (st' := [.ref 0]) rfl rfl ?_
  refine l_p (pc' := 335) (st' := [.float 0, .ref 0]) rfl rfl ?_
  refine l_p (pc' := 336) (st' := [.int (nI i), .float 0, .ref 0]) rfl rfl ?_
  refine l_p (pc' := 337) (st' := [.int (nI 1), .int (nI i), .float 0, .ref 0]) rfl rfl ?_
  refine l_add (pc' := 338) rfl rfl ?_
  refine l_x (pc' := 339) rfl (by omega) hL rfl ?_
  refine l_p (pc' := 340) (st' := [.float 0, .int (xs (i + 1)), .ref 0]) rfl rfl ?_
  refine l_p (pc' := 341) (st' := [.int (nI i), .float 0, .int (xs (i + 1)), .ref 0]) rfl rfl ?_
  refine l_p (pc' := 342) (st' := [.int (nI 2), .int (nI i), .float 0, .int (xs (i + 1)), .ref 0]) rfl rfl ?_
  refine l_add (pc' := 343) rfl rfl ?_
  refine l_x (pc' := 344) rfl (by omega) hL rfl ?_
  refine l_p (pc' := 345) (st' := [.float 0, .int (xs (i + 2)), .int (xs (i + 1)), .ref 0]) rfl rfl ?_
  refine l_p (pc' := 346) (st' := [.int (nI i), .float 0, .int (xs (i + 2)), .int (xs (i + 1)), .ref 0]) rfl rfl ?_
  refine l_p (pc' := 347) (st' := [.int (nI 3), .int (nI i), .float 0, .int (xs (i + 2)), .int (xs (i + 1)), .ref 0]) rfl rfl ?_
  refine l_add (pc' := 348) rfl rfl ?_
  refine l_x (pc' := 349) rfl (by omega) hL rfl ?_
  refine l_call (M := 14) (As := [.ref 0, .int (xs (i + 1)), .int (xs (i + 2)), .int (xs (i + 3))]) (r := []) (d := 42) (K := fun v m1 => v = some (.long (clA D (xs (i + 1)) (xs (i + 2)) (xs (i + 3)))) ∧ m1 = m) rfl rfl (by decide) rfl (c_14 h.1 h.2.2.2.2.2.2.2.2.2.2.1 h.2.2.2.2.2.2.2.2.1 ⟨rfl, rfl⟩) ?_
  rintro v m1 ⟨rfl, rfl⟩
  refine l_p (pc' := 353) (st' := [.ref 42, .long (clA D (xs (i + 1)) (xs (i + 2)) (xs (i + 3)))]) rfl rfl ?_
  refine l_p (pc' := 354) (st' := [.float 0, .ref 42, .long (clA D (xs (i + 1)) (xs (i + 2)) (xs (i + 3)))]) rfl rfl ?_
  refine l_p (pc' := 355) (st' := [.int (nI i), .float 0, .ref 42, .long (clA D (xs (i + 1)) (xs (i + 2)) (xs (i + 3)))]) rfl rfl ?_
  refine l_p (pc' := 356) (st' := [.int (nI 1), .int (nI i), .float 0, .ref 42, .long (clA D (xs (i + 1)) (xs (i + 2)) (xs (i + 3)))]) rfl rfl ?_
  refine l_add (pc' := 357) rfl rfl ?_
  refine l_x (pc' := 358) rfl (by omega) hL rfl ?_
  refine l_p (pc' := 359) (st' := [.float 0, .int (xs (i + 1)), .ref 42, .long (clA D (xs (i + 1)) (xs (i + 2)) (xs (i + 3)))]) rfl rfl ?_
  refine l_p (pc' := 360) (st' := [.int (nI i), .float 0, .int (xs (i + 1)), .ref 42, .long (clA D (xs (i + 1)) (xs (i + 2)) (xs (i + 3)))]) rfl rfl ?_
  refine l_p (pc' := 361) (st' := [.int (nI 2), .int (nI i), .float 0, .int (xs (i + 1)), .ref 42, .long (clA D (xs (i + 1)) (xs (i + 2)) (xs (i + 3)))]) rfl rfl ?_
  refine l_add (pc' := 362) rfl rfl ?_
  refine l_x (pc' := 363) rfl (by omega) hL rfl ?_
  refine l_p (pc' := 364) (st' := [.float 0, .int (xs (i + 2)), .int (xs (i + 1)), .ref 42, .long (clA D (xs (i + 1)) (xs (i + 2)) (xs (i + 3)))]) rfl rfl ?_
  refine l_p (pc' := 365) (st' := [.int (nI i), .float 0, .int (xs (i + 2)), .int (xs (i + 1)), .ref 42, .long (clA D (xs (i + 1)) (xs (i + 2)) (xs (i + 3)))]) rfl rfl ?_
  refine l_p (pc' := 366) (st' := [.int (nI 3), .int (nI i), .float 0, .int (xs (i + 2)), .int (xs (i + 1)), .ref 42, .long (clA D (xs (i + 1)) (xs (i + 2)) (xs (i + 3)))]) rfl rfl ?_
  refine l_add (pc' := 367) rfl rfl ?_
  refine l_x (pc' := 368) rfl (by omega) hL rfl ?_
  refine l_call (M := 196) (As := [.ref 42, .int (xs (i + 1)), .int (xs (i + 2)), .int (xs (i + 3))]) (r := [.long (clA D (xs (i + 1)) (xs (i + 2)) (xs (i + 3)))]) (d := 42) (K := fun v m2 => v = some (.long (clA D (xs (i + 1)) (xs (i + 2)) (xs (i + 3)))) ∧ m2 = m1) rfl rfl (by decide) rfl (c_196 h.1 h.2.2.2.2.2.2.2.2.2.2.1 h.2.2.2.2.2.2.2.2.2.1 ⟨rfl, rfl⟩) ?_
  rintro v m2 ⟨rfl, rfl⟩
  obtain ⟨m', hm, hr⟩ := k
  refine ⟨m', hm, rn_lcmp (v := nI 0) (pc' := 372) rfl ((lg_k _ _).mpr rfl) rfl ?_⟩
  exact rn_p (pc' := 450) (lv' := lvL i) (st' := []) rfl rfl hr
end N9z
