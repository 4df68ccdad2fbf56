/-! THE LAW'S LOOP: count -/
def cnL (x y : Int32) : Int64 := (x.toInt64 <<< 32) ||| (y.toInt64 &&& 4294967295)
section P9z
variable {L i : Nat} {xs : Nat → Int32} {m : Mm} {cl : List Nat} {D : Db} {P : Nat → List (List Int64)} {a : An}
set_option maxRecDepth 20000 in
theorem l_count (h : WS m cl D P a) (h5 : i + 5 ≤ L) (hL : L ≤ 2560) (k : RL0 L xs i 450 [] m) : RL0 L xs i 377 [] m := by
  refine l_p (pc' := 378) (st' := [.ref 0]) rfl rfl ?_
  refine l_p (pc' := 379) (st' := [.float 0, .ref 0]) rfl rfl ?_
  refine l_p (pc' := 380) (st' := [.int (nI i), .float 0, .ref 0]) rfl rfl ?_
  refine l_p (pc' := 381) (st' := [.int (nI 1), .int (nI i), .float 0, .ref 0]) rfl rfl ?_
  refine l_add (pc' := 382) rfl rfl ?_
  refine l_x (pc' := 383) rfl (by omega) hL rfl ?_
  refine l_p (pc' := 384) (st' := [.float 0, .int (xs (i + 1)), .ref 0]) rfl rfl ?_
  refine l_p (pc' := 385) (st' := [.int (nI i), .float 0, .int (xs (i + 1)), .ref 0]) rfl rfl ?_
  refine l_p (pc' := 386) (st' := [.int (nI 2), .int (nI i), .float 0, .int (xs (i + 1)), .ref 0]) rfl rfl ?_
  refine l_add (pc' := 387) rfl rfl ?_
  refine l_x (pc' := 388) rfl (by omega) hL rfl ?_
  refine l_p (pc' := 389) (st' := [.float 0, .int (xs (i + 2)), .int (xs (i + 1)), .ref 0]) rfl rfl ?_
  refine l_p (pc' := 390) (st' := [.int (nI i), .float 0, .int (xs (i + 2)), .int (xs (i + 1)), .ref 0]) rfl rfl ?_
  refine l_p (pc' := 391) (st' := [.int (nI 3), .int (nI i), .float 0, .int (xs (i + 2)), .int (xs (i + 1)), .ref 0]) rfl rfl ?_
  refine l_add (pc' := 392) rfl rfl ?_
  refine l_x (pc' := 393) rfl (by omega) hL rfl ?_
  refine l_p (pc' := 394) (st' := [.long (xs (i + 3)).toInt64, .int (xs (i + 2)), .int (xs (i + 1)), .ref 0]) rfl rfl ?_
  refine l_p (pc' := 396) (st' := [.int (nI 32), .long (xs (i + 3)).toInt64, .int (xs (i + 2)), .int (xs (i + 1)), .ref 0]) rfl rfl ?_
  refine l_p (pc' := 397) (st' := [.long ((xs (i + 3)).toInt64 <<< 32), .int (xs (i + 2)), .int (xs (i + 1)), .ref 0]) rfl rfl ?_
  refine l_p (pc' := 398) (st' := [.float 0, .long ((xs (i + 3)).toInt64 <<< 32), .int (xs (i + 2)), .int (xs (i + 1)), .ref 0]) rfl rfl ?_
  refine l_p (pc' := 399) (st' := [.int (nI i), .float 0, .long ((xs (i + 3)).toInt64 <<< 32), .int (xs (i + 2)), .int (xs (i + 1)), .ref 0]) rfl rfl ?_
  refine l_p (pc' := 400) (st' := [.int (nI 4), .int (nI i), .float 0, .long ((xs (i + 3)).toInt64 <<< 32), .int (xs (i + 2)), .int (xs (i + 1)), .ref 0]) rfl rfl ?_
  refine l_add (pc' := 401) rfl rfl ?_
  refine l_x (pc' := 402) rfl (by omega) hL rfl ?_
  refine l_p (pc' := 403) (st' := [.long (xs (i + 4)).toInt64, .long ((xs (i + 3)).toInt64 <<< 32), .int (xs (i + 2)), .int (xs (i + 1)), .ref 0]) rfl rfl ?_
  refine l_p (pc' := 406) (st' := [.long 4294967295, .long (xs (i + 4)).toInt64, .long ((xs (i + 3)).toInt64 <<< 32), .int (xs (i + 2)), .int (xs (i + 1)), .ref 0]) rfl rfl ?_
  refine l_p (pc' := 407) (st' := [.long ((xs (i + 4)).toInt64 &&& 4294967295), .long ((xs (i + 3)).toInt64 <<< 32), .int (xs (i + 2)), .int (xs (i + 1)), .ref 0]) rfl rfl ?_
  refine l_p (pc' := 408) (st' := [.long (cnL (xs (i + 3)) (xs (i + 4))), .int (xs (i + 2)), .int (xs (i + 1)), .ref 0]) rfl rfl ?_
  refine l_call (M := 15) (As := [.ref 0, .int (xs (i + 1)), .int (xs (i + 2)), .long (cnL (xs (i + 3)) (xs (i + 4)))]) (r := []) (d := 42) (K := fun v m1 => v = some (.int (nI (cnA D (xs (i + 1)) (xs (i + 2)) (cnL (xs (i + 3)) (xs (i + 4)))))) ∧ m1 = m) rfl rfl (by decide) rfl (c_15 h.1 h.2.2.2.2.2.2.2.2.2.2.1 h.2.2.2.2.2.2.2.2.1 ⟨rfl, rfl⟩) ?_
  rintro v m1 ⟨rfl, rfl⟩
  refine l_p (pc' := 412) (st' := [.ref 42, .int (nI (cnA D (xs (i + 1)) (xs (i + 2)) (cnL (xs (i + 3)) (xs (i + 4)))))]) rfl rfl ?_
  refine l_p (pc' := 413) (st' := [.float 0, .ref 42, .int (nI (cnA D (xs (i + 1)) (xs (i + 2)) (cnL (xs (i + 3)) (xs (i + 4)))))]) rfl rfl ?_
  refine l_p (pc' := 414) (st' := [.int (nI i), .float 0, .ref 42, .int (nI (cnA D (xs (i + 1)) (xs (i + 2)) (cnL (xs (i + 3)) (xs (i + 4)))))]) rfl rfl ?_
  refine l_p (pc' := 415) (st' := [.int (nI 1), .int (nI i), .float 0, .ref 42, .int (nI (cnA D (xs (i + 1)) (xs (i + 2)) (cnL (xs (i + 3)) (xs (i + 4)))))]) rfl rfl ?_
  refine l_add (pc' := 416) rfl rfl ?_
  refine l_x (pc' := 417) rfl (by omega) hL rfl ?_
  refine l_p (pc' := 418) (st' := [.float 0, .int (xs (i + 1)), .ref 42, .int (nI (cnA D (xs (i + 1)) (xs (i + 2)) (cnL (xs (i + 3)) (xs (i + 4)))))]) rfl rfl ?_
  refine l_p (pc' := 419) (st' := [.int (nI i), .float 0, .int (xs (i + 1)), .ref 42, .int (nI (cnA D (xs (i + 1)) (xs (i + 2)) (cnL (xs (i + 3)) (xs (i + 4)))))]) rfl rfl ?_
  refine l_p (pc' := 420) (st' := [.int (nI 2), .int (nI i), .float 0, .int (xs (i + 1)), .ref 42, .int (nI (cnA D (xs (i + 1)) (xs (i + 2)) (cnL (xs (i + 3)) (xs (i + 4)))))]) rfl rfl ?_
  refine l_add (pc' := 421) rfl rfl ?_
  refine l_x (pc' := 422) rfl (by omega) hL rfl ?_
  refine l_p (pc' := 423) (st' := [.float 0, .int (xs (i + 2)), .int (xs (i + 1)), .ref 42, .int (nI (cnA D (xs (i + 1)) (xs (i + 2)) (cnL (xs (i + 3)) (xs (i + 4)))))]) rfl rfl ?_
  refine l_p (pc' := 424) (st' := [.int (nI i), .float 0, .int (xs (i + 2)), .int (xs (i + 1)), .ref 42, .int (nI (cnA D (xs (i + 1)) (xs (i + 2)) (cnL (xs (i + 3)) (xs (i + 4)))))]) rfl rfl ?_
  refine l_p (pc' := 425) (st' := [.int (nI 3), .int (nI i), .float 0, .int (xs (i + 2)), .int (xs (i + 1)), .ref 42, .int (nI (cnA D (xs (i + 1)) (xs (i + 2)) (cnL (xs (i + 3)) (xs (i + 4)))))]) rfl rfl ?_
  refine l_add (pc' := 426) rfl rfl ?_
  refine l_x (pc' := 427) rfl (by omega) hL rfl ?_
  refine l_p (pc' := 428) (st' := [.long (xs (i + 3)).toInt64, .int (xs (i + 2)), .int (xs (i + 1)), .ref 42, .int (nI (cnA D (xs (i + 1)) (xs (i + 2)) (cnL (xs (i + 3)) (xs (i + 4)))))]) rfl rfl ?_
  refine l_p (pc' := 430) (st' := [.int (nI 32), .long (xs (i + 3)).toInt64, .int (xs (i + 2)), .int (xs (i + 1)), .ref 42, .int (nI (cnA D (xs (i + 1)) (xs (i + 2)) (cnL (xs (i + 3)) (xs (i + 4)))))]) rfl rfl ?_
  refine l_p (pc' := 431) (st' := [.long ((xs (i + 3)).toInt64 <<< 32), .int (xs (i + 2)), .int (xs (i + 1)), .ref 42, .int (nI (cnA D (xs (i + 1)) (xs (i + 2)) (cnL (xs (i + 3)) (xs (i + 4)))))]) rfl rfl ?_
  refine l_p (pc' := 432) (st' := [.float 0, .long ((xs (i + 3)).toInt64 <<< 32), .int (xs (i + 2)), .int (xs (i + 1)), .ref 42, .int (nI (cnA D (xs (i + 1)) (xs (i + 2)) (cnL (xs (i + 3)) (xs (i + 4)))))]) rfl rfl ?_
  refine l_p (pc' := 433) (st' := [.int (nI i), .float 0, .long ((xs (i + 3)).toInt64 <<< 32), .int (xs (i + 2)), .int (xs (i + 1)), .ref 42, .int (nI (cnA D (xs (i + 1)) (xs (i + 2)) (cnL (xs (i + 3)) (xs (i + 4)))))]) rfl rfl ?_
  refine l_p (pc' := 434) (st' := [.int (nI 4), .int (nI i), .float 0, .long ((xs (i + 3)).toInt64 <<< 32), .int (xs (i + 2)), .int (xs (i + 1)), .ref 42, .int (nI (cnA D (xs (i + 1)) (xs (i + 2)) (cnL (xs (i + 3)) (xs (i + 4)))))]) rfl rfl ?_
  refine l_add (pc' := 435) rfl rfl ?_
  refine l_x (pc' := 436) rfl (by omega) hL rfl ?_
  refine l_p (pc' := 437) (st' := [.long (xs (i + 4)).toInt64, .long ((xs (i + 3)).toInt64 <<< 32), .int (xs (i + 2)), .int (xs (i + 1)), .ref 42, .int (nI (cnA D (xs (i + 1)) (xs (i + 2)) (cnL (xs (i + 3)) (xs (i + 4)))))]) rfl rfl ?_
  refine l_p (pc' := 440) (st' := [.long 4294967295, .long (xs (i + 4)).toInt64, .long ((xs (i + 3)).toInt64 <<< 32), .int (xs (i + 2)), .int (xs (i + 1)), .ref 42, .int (nI (cnA D (xs (i + 1)) (xs (i + 2)) (cnL (xs (i + 3)) (xs (i + 4)))))]) rfl rfl ?_
  refine l_p (pc' := 441) (st' := [.long ((xs (i + 4)).toInt64 &&& 4294967295), .long ((xs (i + 3)).toInt64 <<< 32), .int (xs (i + 2)), .int (xs (i + 1)), .ref 42, .int (nI (cnA D (xs (i + 1)) (xs (i + 2)) (cnL (xs (i + 3)) (xs (i + 4)))))]) rfl rfl ?_
  refine l_p (pc' := 442) (st' := [.long (cnL (xs (i + 3)) (xs (i + 4))), .int (xs (i + 2)), .int (xs (i + 1)), .ref 42, .int (nI (cnA D (xs (i + 1)) (xs (i + 2)) (cnL (xs (i + 3)) (xs (i + 4)))))]) rfl rfl ?_
  refine l_call (M := 197) (As := [.ref 42, .int (xs (i + 1)), .int (xs (i + 2)), .long (cnL (xs (i + 3)) (xs (i + 4)))]) (r := [.int (nI (cnA D (xs (i + 1)) (xs (i + 2)) (cnL (xs (i + 3)) (xs (i + 4)))))]) (d := 42) (K := fun v m2 => v = some (.int (nI (cnA D (xs (i + 1)) (xs (i + 2)) (cnL (xs (i + 3)) (xs (i + 4)))))) ∧ m2 = m1) rfl rfl (by decide) rfl (c_197 h.1 h.2.2.2.2.2.2.2.2.2.2.1 h.2.2.2.2.2.2.2.2.2.1 ⟨rfl, rfl⟩) ?_
  rintro v m2 ⟨rfl, rfl⟩
  obtain ⟨m', hm, hr⟩ := k
  exact ⟨m', hm, rn_t (pc' := 450) (lv' := lvL i) (st' := []) rfl rfl rfl hr⟩
end P9z
