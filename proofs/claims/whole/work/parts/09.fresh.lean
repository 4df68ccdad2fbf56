/-! a new object of the class and of the reference, and what each method answers there -/
def hpx : sm_H := [.inr (0, [.ref 1, .ref 2, .ref 12, .ref 17, .ref 23, .ref 25, .ref 29, .ref 30, .ref 40, .ref 41, .int 0, .int 0, .int 0, .int 0, .int 0]),
  .inl (2, .inl (List.replicate 80 0)),
  .inl (4, .inr (.inr [some 3, some 6, some 9])),
  .inr (1, [.ref 4, .ref 5, .int 0, .int 0]),
  .inl (1, .inr (.inl (List.replicate 80 0))),
  .inl (3, .inl (List.replicate 4 0)),
  .inr (1, [.ref 7, .ref 8, .int 0, .int 0]),
  .inl (1, .inr (.inl (List.replicate 80 0))),
  .inl (3, .inl (List.replicate 4 0)),
  .inr (1, [.ref 10, .ref 11, .int 0, .int 0]),
  .inl (1, .inr (.inl (List.replicate 80 0))),
  .inl (3, .inl (List.replicate 4 0)),
  .inr (4, [.ref 13, .ref 14, .ref 15, .ref 16, .int 0, .int 0, .int 0, .int 0, .int 0, .int 0, .int 0, .int 0, .int 0, .int 0, .int 0, .int 0, .int 0]),
  .inl (0, .inl (List.replicate 80 0)),
  .inl (0, .inl (List.replicate 80 0)),
  .inl (0, .inl (List.replicate 80 0)),
  .inl (0, .inl (List.replicate 80 0)),
  .inr (3, [.ref 18, .ref 19, .ref 20, .ref 21, .ref 22, .int 0]),
  .inl (0, .inl (List.replicate 80 0)),
  .inl (0, .inl (List.replicate 80 0)),
  .inl (0, .inl (List.replicate 80 0)),
  .inl (0, .inl (List.replicate 80 0)),
  .inl (1, .inr (.inl (List.replicate 80 0))),
  .inr (2, [.ref 24, .ref 3, .ref 3]),
  .inl (0, .inl (List.replicate 2 0)),
  .inr (6, [.ref 26, .ref 12, .ref 17, .int (-1)]),
  .inr (5, [.ref 27, .ref 28, .int 0, .int 0]),
  .inl (0, .inl (List.replicate 80 0)),
  .inl (0, .inl (List.replicate 80 0)),
  .inr (7, [.ref 2, .ref 12, .ref 17]),
  .inr (9, [.ref 12, .ref 17, .ref 23, .ref 36, .ref 37, .ref 38, .ref 39, .ref 31, .ref 32, .ref 33, .ref 34, .ref 35, .ref 36, .ref 39, .int 0, .int 0]),
  .inl (0, .inl (List.replicate 20 0)),
  .inl (0, .inl (List.replicate 20 0)),
  .inl (1, .inr (.inl (List.replicate 60 0))),
  .inl (0, .inl (List.replicate 60 0)),
  .inl (0, .inl (List.replicate 60 0)),
  .inr (8, [.ref 12, .ref 17, .int 0, .int 0, .int 1, .int 0, .int 0, .int 0]),
  .inr (8, [.ref 12, .ref 17, .int 1, .int 0, .int 1, .int 0, .int 0, .int 0]),
  .inr (8, [.ref 12, .ref 17, .int 0, .int 2, .int 1, .int 0, .int 0, .int 0]),
  .inr (8, [.ref 12, .ref 17, .int 1, .int 1, .int 1, .int 0, .int 0, .int 0]),
  .inl (1, .inr (.inl (List.replicate 180 0))),
  .inl (1, .inr (.inl (List.replicate 20 0)))]
def hp0 : sm_H := [.inr (0, [.ref 1, .ref 2, .ref 12, .ref 17, .ref 23, .ref 25, .ref 29, .ref 30, .ref 40, .ref 41, .int 0, .int 0, .int 0, .int 0, .int 0]),
  .inl (2, .inl (List.replicate 80 0)),
  .inl (4, .inr (.inr [some 3, some 6, some 9])),
  .inr (1, [.ref 4, .ref 5, .int 0, .int 0]),
  .inl (1, .inr (.inl (List.replicate 80 0))),
  .inl (3, .inl (List.replicate 4 0)),
  .inr (1, [.ref 7, .ref 8, .int 0, .int 0]),
  .inl (1, .inr (.inl (List.replicate 80 0))),
  .inl (3, .inl (List.replicate 4 0)),
  .inr (1, [.ref 10, .ref 11, .int 0, .int 0]),
  .inl (1, .inr (.inl (List.replicate 80 0))),
  .inl (3, .inl (List.replicate 4 0)),
  .inr (4, [.ref 13, .ref 14, .ref 15, .ref 16, .int 0, .int 0, .int 0, .int 0, .int 0, .int 0, .int 0, .int 0, .int 0, .int 0, .int 0, .int 0, .int 0]),
  .inl (0, .inl (List.replicate 80 0)),
  .inl (0, .inl (List.replicate 80 0)),
  .inl (0, .inl (List.replicate 80 0)),
  .inl (0, .inl (List.replicate 80 0)),
  .inr (3, [.ref 18, .ref 19, .ref 20, .ref 21, .ref 22, .int 0]),
  .inl (0, .inl (List.replicate 80 0)),
  .inl (0, .inl (List.replicate 80 0)),
  .inl (0, .inl (List.replicate 80 0)),
  .inl (0, .inl (List.replicate 80 0)),
  .inl (1, .inr (.inl (List.replicate 80 0))),
  .inr (2, [.ref 24, .ref 3, .ref 3]),
  .inl (0, .inl (List.replicate 2 0)),
  .inr (6, [.ref 26, .ref 12, .ref 17, .int (-1)]),
  .inr (5, [.ref 27, .ref 28, .int 0, .int 0]),
  .inl (0, .inl (List.replicate 80 0)),
  .inl (0, .inl (List.replicate 80 0)),
  .inr (7, [.ref 2, .ref 12, .ref 17]),
  .inr (9, [.ref 12, .ref 17, .ref 23, .ref 36, .ref 37, .ref 38, .ref 39, .ref 31, .ref 32, .ref 33, .ref 34, .ref 35, .ref 36, .ref 39, .int 0, .int 0]),
  .inl (0, .inl (List.replicate 20 0)),
  .inl (0, .inl (List.replicate 20 0)),
  .inl (1, .inr (.inl (List.replicate 60 0))),
  .inl (0, .inl (List.replicate 60 0)),
  .inl (0, .inl (List.replicate 60 0)),
  .inr (8, [.ref 12, .ref 17, .int 0, .int 0, .int 1, .int 0, .int 0, .int 0]),
  .inr (8, [.ref 12, .ref 17, .int 1, .int 0, .int 1, .int 0, .int 0, .int 0]),
  .inr (8, [.ref 12, .ref 17, .int 0, .int 2, .int 1, .int 0, .int 0, .int 0]),
  .inr (8, [.ref 12, .ref 17, .int 1, .int 1, .int 1, .int 0, .int 0, .int 0]),
  .inl (1, .inr (.inl (List.replicate 180 0))),
  .inl (1, .inr (.inl (List.replicate 20 0))),
  .inr (10, [.ref 43, .int 0, .int 0, .ref 44, .ref 45, .int 0, .int 0, .int 0, .ref 46, .ref 47, .int 0, .ref 48, .int 0, .int 0, .ref 49, .int 0, .int 0, .int 0, .ref 50, .int 0, .int 0, .int 0, .int 0, .ref 51, .ref 52, .int 0, .int 0, .int 0, .int 0, .int 0, .int 0, .int 0, .int 0, .int 0, .int 0, .ref 53, .ref 54, .ref 55, .int 0, .int 0, .ref 56, .ref 57, .ref 58, .ref 59, .ref 60, .ref 61, .ref 62, .ref 63, .int 0, .ref 64, .ref 65, .ref 66, .ref 67, .int 0, .int 0, .ref 68, .int 0, .int 0, .int 0]),
  .inl (2, .inl (List.replicate 100 0)),
  .inl (0, .inl (List.replicate 101 0)),
  .inl (0, .inl (List.replicate 101 0)),
  .inl (0, .inl (List.replicate 110 0)),
  .inl (0, .inl (List.replicate 110 0)),
  .inl (0, .inl (List.replicate 101 0)),
  .inl (0, .inl (List.replicate 101 0)),
  .inl (0, .inl (List.replicate 2 0)),
  .inl (0, .inl (List.replicate 4 0)),
  .inl (0, .inl (List.replicate 4 0)),
  .inl (0, .inl (List.replicate 40 0)),
  .inl (0, .inl (List.replicate 40 0)),
  .inl (0, .inl (List.replicate 40 0)),
  .inl (0, .inl (List.replicate 3 0)),
  .inl (0, .inl (List.replicate 3 0)),
  .inl (1, .inr (.inl (List.replicate 240 0))),
  .inl (3, .inl (List.replicate 12 0)),
  .inl (0, .inl (List.replicate 3 0)),
  .inl (1, .inr (.inl (List.replicate 110 0))),
  .inl (1, .inr (.inl (List.replicate 20 0))),
  .inl (3, .inl (List.replicate 20 0)),
  .inl (0, .inl (List.replicate 60 0)),
  .inl (0, .inl (List.replicate 60 0)),
  .inl (1, .inr (.inl (List.replicate 60 0))),
  .inl (3, .inl (List.replicate 60 0)),
  .inl (1, .inr (.inl (List.replicate 180 0)))]
theorem ev_x : sm_ex none 400 12 1 0 (lv_args 0 [.ref 0]) [] [.inr (0, [.null, .null, .null, .null, .null, .null, .null, .null, .null, .null, .int 0, .int 0, .int 0, .int 0, .int 0])] = some (none, hpx) := sm_dec (by decide +kernel)
theorem ev_m : sm_ex none 400 12 131 0 (lv_args 0 [.ref 42]) [] (hpx ++ [.inr (10, [.null, .int 0, .int 0, .null, .null, .int 0, .int 0, .int 0, .null, .null, .int 0, .null, .int 0, .int 0, .null, .int 0, .int 0, .int 0, .null, .int 0, .int 0, .int 0, .int 0, .null, .null, .int 0, .int 0, .int 0, .int 0, .int 0, .int 0, .int 0, .int 0, .int 0, .int 0, .null, .null, .null, .int 0, .int 0, .null, .null, .null, .null, .null, .null, .null, .null, .int 0, .null, .null, .null, .null, .int 0, .int 0, .null, .int 0, .int 0, .int 0])]) = some (none, hp0) := sm_dec (by decide +kernel)
theorem ev_3 : sm_ex none 100 8 3 0 (lv_args 0 [.ref 0]) [] hp0 = some (some (.int 0), hp0) := sm_dec (by decide +kernel)
theorem ev_133 : sm_ex none 100 8 133 0 (lv_args 0 [.ref 42]) [] hp0 = some (some (.int 0), hp0) := sm_dec (by decide +kernel)
theorem ev_5 : sm_ex none 100 8 5 0 (lv_args 0 [.ref 0]) [] hp0 = some (some (.int 0), hp0) := sm_dec (by decide +kernel)
theorem ev_134 : sm_ex none 100 8 134 0 (lv_args 0 [.ref 42]) [] hp0 = some (some (.int 0), hp0) := sm_dec (by decide +kernel)
theorem ev_6 : sm_ex none 100 8 6 0 (lv_args 0 [.ref 0]) [] hp0 = some (some (.int 0), hp0) := sm_dec (by decide +kernel)
theorem ev_187 : sm_ex none 100 8 187 0 (lv_args 0 [.ref 42]) [] hp0 = some (some (.int 0), hp0) := sm_dec (by decide +kernel)
theorem ev_7 : sm_ex none 100 8 7 0 (lv_args 0 [.ref 0]) [] hp0 = some (some (.int 0), hp0) := sm_dec (by decide +kernel)
theorem ev_188 : sm_ex none 100 8 188 0 (lv_args 0 [.ref 42]) [] hp0 = some (some (.int 0), hp0) := sm_dec (by decide +kernel)
theorem ev_9 : sm_ex none 100 8 9 0 (lv_args 0 [.ref 0]) [] hp0 = some (some (.int 0), hp0) := sm_dec (by decide +kernel)
theorem ev_190 : sm_ex none 100 8 190 0 (lv_args 0 [.ref 42]) [] hp0 = some (some (.int 0), hp0) := sm_dec (by decide +kernel)
theorem ev_10 : sm_ex none 100 8 10 0 (lv_args 0 [.ref 0]) [] hp0 = some (some (.int 0), hp0) := sm_dec (by decide +kernel)
theorem ev_191 : sm_ex none 100 8 191 0 (lv_args 0 [.ref 42]) [] hp0 = some (some (.int 0), hp0) := sm_dec (by decide +kernel)
def hr1 : sm_H := [.inr (0, [.ref 1, .ref 2, .ref 12, .ref 17, .ref 23, .ref 25, .ref 29, .ref 30, .ref 40, .ref 41, .int 0, .int 0, .int 0, .int 0, .int 0]),
  .inl (2, .inl (List.replicate 80 0)),
  .inl (4, .inr (.inr [some 3, some 6, some 9])),
  .inr (1, [.ref 4, .ref 5, .int 0, .int 0]),
  .inl (1, .inr (.inl (List.replicate 80 0))),
  .inl (3, .inl (List.replicate 4 0)),
  .inr (1, [.ref 7, .ref 8, .int 0, .int 0]),
  .inl (1, .inr (.inl (List.replicate 80 0))),
  .inl (3, .inl (List.replicate 4 0)),
  .inr (1, [.ref 10, .ref 11, .int 0, .int 0]),
  .inl (1, .inr (.inl (List.replicate 80 0))),
  .inl (3, .inl (List.replicate 4 0)),
  .inr (4, [.ref 13, .ref 14, .ref 15, .ref 16, .int 0, .int 0, .int (-1), .int 0, .int 0, .int 0, .int 0, .int 0, .int 0, .int 0, .int 0, .int 2147483647, .int 0]),
  .inl (0, .inl (List.replicate 80 0)),
  .inl (0, .inl (List.replicate 80 0)),
  .inl (0, .inl (List.replicate 80 0)),
  .inl (0, .inl (List.replicate 80 0)),
  .inr (3, [.ref 18, .ref 19, .ref 20, .ref 21, .ref 22, .int 0]),
  .inl (0, .inl (List.replicate 80 0)),
  .inl (0, .inl (List.replicate 80 0)),
  .inl (0, .inl (List.replicate 80 0)),
  .inl (0, .inl (List.replicate 80 0)),
  .inl (1, .inr (.inl (List.replicate 80 0))),
  .inr (2, [.ref 24, .ref 3, .ref 3]),
  .inl (0, .inl (List.replicate 2 0)),
  .inr (6, [.ref 26, .ref 12, .ref 17, .int (-1)]),
  .inr (5, [.ref 27, .ref 28, .int 0, .int 0]),
  .inl (0, .inl (List.replicate 80 0)),
  .inl (0, .inl (List.replicate 80 0)),
  .inr (7, [.ref 2, .ref 12, .ref 17]),
  .inr (9, [.ref 12, .ref 17, .ref 23, .ref 36, .ref 37, .ref 38, .ref 39, .ref 31, .ref 32, .ref 33, .ref 34, .ref 35, .ref 36, .ref 39, .int 0, .int 0]),
  .inl (0, .inl (List.replicate 20 0)),
  .inl (0, .inl (List.replicate 20 0)),
  .inl (1, .inr (.inl (List.replicate 60 0))),
  .inl (0, .inl (List.replicate 60 0)),
  .inl (0, .inl (List.replicate 60 0)),
  .inr (8, [.ref 12, .ref 17, .int 0, .int 0, .int 1, .int 0, .int 0, .int 0]),
  .inr (8, [.ref 12, .ref 17, .int 1, .int 0, .int 1, .int 0, .int 0, .int 0]),
  .inr (8, [.ref 12, .ref 17, .int 0, .int 2, .int 1, .int 0, .int 0, .int 0]),
  .inr (8, [.ref 12, .ref 17, .int 1, .int 1, .int 1, .int 0, .int 0, .int 0]),
  .inl (1, .inr (.inl (List.replicate 180 0))),
  .inl (1, .inr (.inl (List.replicate 20 0))),
  .inr (10, [.ref 43, .int 0, .int 0, .ref 44, .ref 45, .int 0, .int 0, .int 0, .ref 46, .ref 47, .int 0, .ref 48, .int 0, .int 0, .ref 49, .int 0, .int 0, .int 0, .ref 50, .int 0, .int 0, .int 0, .int 0, .ref 51, .ref 52, .int 0, .int 0, .int 0, .int 0, .int 0, .int 0, .int 0, .int 0, .int 0, .int 0, .ref 53, .ref 54, .ref 55, .int 0, .int 0, .ref 56, .ref 57, .ref 58, .ref 59, .ref 60, .ref 61, .ref 62, .ref 63, .int 0, .ref 64, .ref 65, .ref 66, .ref 67, .int 0, .int 0, .ref 68, .int 0, .int 0, .int 0]),
  .inl (2, .inl (List.replicate 100 0)),
  .inl (0, .inl (List.replicate 101 0)),
  .inl (0, .inl (List.replicate 101 0)),
  .inl (0, .inl (List.replicate 110 0)),
  .inl (0, .inl (List.replicate 110 0)),
  .inl (0, .inl (List.replicate 101 0)),
  .inl (0, .inl (List.replicate 101 0)),
  .inl (0, .inl (List.replicate 2 0)),
  .inl (0, .inl (List.replicate 4 0)),
  .inl (0, .inl (List.replicate 4 0)),
  .inl (0, .inl (List.replicate 40 0)),
  .inl (0, .inl (List.replicate 40 0)),
  .inl (0, .inl (List.replicate 40 0)),
  .inl (0, .inl (List.replicate 3 0)),
  .inl (0, .inl (List.replicate 3 0)),
  .inl (1, .inr (.inl (List.replicate 240 0))),
  .inl (3, .inl (List.replicate 12 0)),
  .inl (0, .inl (List.replicate 3 0)),
  .inl (1, .inr (.inl (List.replicate 110 0))),
  .inl (1, .inr (.inl (List.replicate 20 0))),
  .inl (3, .inl (List.replicate 20 0)),
  .inl (0, .inl (List.replicate 60 0)),
  .inl (0, .inl (List.replicate 60 0)),
  .inl (1, .inr (.inl (List.replicate 60 0))),
  .inl (3, .inl (List.replicate 60 0)),
  .inl (1, .inr (.inl (List.replicate 180 0)))]
def hr2 : sm_H := [.inr (0, [.ref 1, .ref 2, .ref 12, .ref 17, .ref 23, .ref 25, .ref 29, .ref 30, .ref 40, .ref 41, .int 0, .int 0, .int 0, .int 0, .int 0]),
  .inl (2, .inl (List.replicate 80 0)),
  .inl (4, .inr (.inr [some 3, some 6, some 9])),
  .inr (1, [.ref 4, .ref 5, .int 0, .int 0]),
  .inl (1, .inr (.inl (List.replicate 80 0))),
  .inl (3, .inl (List.replicate 4 0)),
  .inr (1, [.ref 7, .ref 8, .int 0, .int 0]),
  .inl (1, .inr (.inl (List.replicate 80 0))),
  .inl (3, .inl (List.replicate 4 0)),
  .inr (1, [.ref 10, .ref 11, .int 0, .int 0]),
  .inl (1, .inr (.inl (List.replicate 80 0))),
  .inl (3, .inl (List.replicate 4 0)),
  .inr (4, [.ref 13, .ref 14, .ref 15, .ref 16, .int 0, .int 0, .int (-1), .int 0, .int 0, .int 0, .int 0, .int 0, .int 0, .int 0, .int 0, .int 2147483647, .int 0]),
  .inl (0, .inl (List.replicate 80 0)),
  .inl (0, .inl (List.replicate 80 0)),
  .inl (0, .inl (List.replicate 80 0)),
  .inl (0, .inl (List.replicate 80 0)),
  .inr (3, [.ref 18, .ref 19, .ref 20, .ref 21, .ref 22, .int 0]),
  .inl (0, .inl (List.replicate 80 0)),
  .inl (0, .inl (List.replicate 80 0)),
  .inl (0, .inl (List.replicate 80 0)),
  .inl (0, .inl (List.replicate 80 0)),
  .inl (1, .inr (.inl (List.replicate 80 0))),
  .inr (2, [.ref 24, .ref 3, .ref 3]),
  .inl (0, .inl (List.replicate 2 0)),
  .inr (6, [.ref 26, .ref 12, .ref 17, .int (-1)]),
  .inr (5, [.ref 27, .ref 28, .int 0, .int 0]),
  .inl (0, .inl (List.replicate 80 0)),
  .inl (0, .inl (List.replicate 80 0)),
  .inr (7, [.ref 2, .ref 12, .ref 17]),
  .inr (9, [.ref 12, .ref 17, .ref 23, .ref 36, .ref 37, .ref 38, .ref 39, .ref 31, .ref 32, .ref 33, .ref 34, .ref 35, .ref 36, .ref 39, .int 0, .int 0]),
  .inl (0, .inl (List.replicate 20 0)),
  .inl (0, .inl (List.replicate 20 0)),
  .inl (1, .inr (.inl (List.replicate 60 0))),
  .inl (0, .inl (List.replicate 60 0)),
  .inl (0, .inl (List.replicate 60 0)),
  .inr (8, [.ref 12, .ref 17, .int 0, .int 0, .int 1, .int 0, .int 0, .int 0]),
  .inr (8, [.ref 12, .ref 17, .int 1, .int 0, .int 1, .int 0, .int 0, .int 0]),
  .inr (8, [.ref 12, .ref 17, .int 0, .int 2, .int 1, .int 0, .int 0, .int 0]),
  .inr (8, [.ref 12, .ref 17, .int 1, .int 1, .int 1, .int 0, .int 0, .int 0]),
  .inl (1, .inr (.inl (List.replicate 180 0))),
  .inl (1, .inr (.inl (List.replicate 20 0))),
  .inr (10, [.ref 43, .int 0, .int 0, .ref 44, .ref 45, .int 1, .int 1, .int 0, .ref 46, .ref 47, .int 0, .ref 48, .int 0, .int 0, .ref 49, .int 0, .int 0, .int 0, .ref 50, .int 0, .int 0, .int 0, .int 0, .ref 51, .ref 52, .int 0, .int 0, .int 0, .int 0, .int 0, .int 0, .int 0, .int 60, .int 0, .int 0, .ref 53, .ref 54, .ref 55, .int 0, .int 0, .ref 56, .ref 57, .ref 58, .ref 59, .ref 60, .ref 61, .ref 62, .ref 63, .int 0, .ref 64, .ref 65, .ref 66, .ref 67, .int 0, .int 0, .ref 68, .int 0, .int 0, .int 0]),
  .inl (2, .inl (List.replicate 100 0)),
  .inl (0, .inl (List.replicate 101 0)),
  .inl (0, .inl (List.replicate 101 0)),
  .inl (0, .inl (List.replicate 110 0)),
  .inl (0, .inl (List.replicate 110 0)),
  .inl (0, .inl (List.replicate 101 0)),
  .inl (0, .inl (List.replicate 101 0)),
  .inl (0, .inl (List.replicate 2 0)),
  .inl (0, .inl (List.replicate 4 0)),
  .inl (0, .inl (List.replicate 4 0)),
  .inl (0, .inl (List.replicate 40 0)),
  .inl (0, .inl (List.replicate 40 0)),
  .inl (0, .inl (List.replicate 40 0)),
  .inl (0, .inl (List.replicate 3 0)),
  .inl (0, .inl (List.replicate 3 0)),
  .inl (1, .inr (.inl (List.replicate 240 0))),
  .inl (3, .inl (List.replicate 12 0)),
  .inl (0, .inl (List.replicate 3 0)),
  .inl (1, .inr (.inl (List.replicate 110 0))),
  .inl (1, .inr (.inl (List.replicate 20 0))),
  .inl (3, .inl (List.replicate 20 0)),
  .inl (0, .inl (List.replicate 60 0)),
  .inl (0, .inl (List.replicate 60 0)),
  .inl (1, .inr (.inl (List.replicate 60 0))),
  .inl (3, .inl (List.replicate 60 0)),
  .inl (1, .inr (.inl (List.replicate 180 0)))]
theorem ev_4 : sm_ex none 400 12 4 0 (lv_args 0 [.ref 0]) [] hp0 = some (some (.int 1), hr1) := sm_dec (by decide +kernel)
theorem ev_166 : sm_ex none 400 12 166 0 (lv_args 0 [.ref 42]) [] hr1 = some (some (.int 1), hr2) := sm_dec (by decide +kernel)
theorem t3_hi {t : Int32} (h : 3 ≤ t) : ¬ t < 0 ∧ 2 < t := by
  have h1 := Int32.le_iff_toInt_le.mp h
  have e3 : (3 : Int32).toInt = 3 := by decide
  have e2 : (2 : Int32).toInt = 2 := by decide
  have e0 : (0 : Int32).toInt = 0 := by decide
  rw [e3] at h1
  constructor
  · rw [Int32.lt_iff_toInt_lt, e0]; omega
  · rw [Int32.lt_iff_toInt_lt, e2]; omega
theorem t_ge0 {t : Int32} (h : ¬ t < 0) : 0 ≤ t := by
  rw [Int32.lt_iff_toInt_lt] at h
  rw [Int32.le_iff_toInt_le]
  omega
theorem t4_hi {t : Int32} (h : 4 ≤ t) : ¬ t < 0 ∧ 3 < t := by
  have h1 := Int32.le_iff_toInt_le.mp h
  have e3 : (3 : Int32).toInt = 3 := by decide
  have e4 : (4 : Int32).toInt = 4 := by decide
  have e0 : (0 : Int32).toInt = 0 := by decide
  rw [e4] at h1
  constructor
  · rw [Int32.lt_iff_toInt_lt, e0]; omega
  · rw [Int32.lt_iff_toInt_lt, e3]; omega
set_option maxRecDepth 20000 in
theorem fx_value_n (r c : Int32) (h1 : r < 0) : sm_run none 8 8 0 (lv_args 0 [.ref 0, .int r, .int c]) [] hp0 (some (.long 2199023255552), hp0) := by
  refine rn_p (pc' := 1) (lv' := [(0, .ref 0), (1, .int r), (2, .int c)]) (st' := [.int r]) rfl rfl ?_
  refine rn_t (pc' := 24) (lv' := [(0, .ref 0), (1, .int r), (2, .int c)]) (st' := []) rfl rfl h1 ?_
  refine rn_p (pc' := 27) (lv' := [(0, .ref 0), (1, .int r), (2, .int c)]) (st' := [.long 2199023255552]) rfl rfl ?_
  exact rn_r rfl rfl
set_option maxRecDepth 20000 in
theorem fx_value_p (r c : Int32) (h1 : ¬ r < 0) : sm_run none 8 8 0 (lv_args 0 [.ref 0, .int r, .int c]) [] hp0 (some (.long 2199023255552), hp0) := by
  refine rn_p (pc' := 1) (lv' := [(0, .ref 0), (1, .int r), (2, .int c)]) (st' := [.int r]) rfl rfl ?_
  refine rn_f (pc' := 4) (lv' := [(0, .ref 0), (1, .int r), (2, .int c)]) (st' := []) rfl rfl h1 ?_
  refine rn_p (pc' := 5) (lv' := [(0, .ref 0), (1, .int r), (2, .int c)]) (st' := [.int r]) rfl rfl ?_
  refine rn_p (pc' := 6) (lv' := [(0, .ref 0), (1, .int r), (2, .int c)]) (st' := [.ref 0, .int r]) rfl rfl ?_
  refine rn_p (pc' := 9) (lv' := [(0, .ref 0), (1, .int r), (2, .int c)]) (st' := [.int 0, .int r]) rfl rfl ?_
  refine rn_t (pc' := 24) (lv' := [(0, .ref 0), (1, .int r), (2, .int c)]) (st' := []) rfl rfl (t_ge0 h1) ?_
  refine rn_p (pc' := 27) (lv' := [(0, .ref 0), (1, .int r), (2, .int c)]) (st' := [.long 2199023255552]) rfl rfl ?_
  exact rn_r rfl rfl
set_option maxRecDepth 20000 in
theorem fm_value (r c : Int32)  : sm_run none 8 189 0 (lv_args 0 [.ref 42, .int r, .int c]) [] hp0 (some (.long 2199023255552), hp0) := by
  refine rn_p (pc' := 1) (lv' := [(0, .ref 42), (1, .int r), (2, .int c)]) (st' := [.ref 42]) rfl rfl ?_
  refine rn_p (pc' := 4) (lv' := [(0, .ref 42), (1, .int r), (2, .int c)]) (st' := [.int 0]) rfl rfl ?_
  refine rn_p (pc' := 44) (lv' := [(0, .ref 42), (1, .int r), (2, .int c)]) (st' := []) rfl rfl ?_
  refine rn_p (pc' := 47) (lv' := [(0, .ref 42), (1, .int r), (2, .int c)]) (st' := [.long 2199023255552]) rfl rfl ?_
  exact rn_r rfl rfl
set_option maxRecDepth 20000 in
theorem fx_columns_n (t : Int32) (h1 : t < 0) : sm_run none 8 11 0 (lv_args 0 [.ref 0, .int t]) [] hp0 (some (.int 0), hp0) := by
  refine rn_p (pc' := 1) (lv' := [(0, .ref 0), (1, .int t)]) (st' := [.int t]) rfl rfl ?_
  refine rn_cs (As := [.int t]) (r := []) (v := (some (.int 0))) (g := hp0) (st2 := [.int 0]) (pc' := 4) rfl rfl rfl rfl rfl ?_ ?_
  · refine rn_p (pc' := 1) (lv' := [(0, .int t)]) (st' := [.int t]) rfl rfl ?_
    refine rn_t (pc' := 13) (lv' := [(0, .int t)]) (st' := []) rfl rfl h1 ?_
    refine rn_p (pc' := 14) (lv' := [(0, .int t)]) (st' := [.int 0]) rfl rfl ?_
    exact rn_r rfl rfl
  refine rn_p (pc' := 19) (lv' := [(0, .ref 0), (1, .int t)]) (st' := []) rfl rfl ?_
  refine rn_p (pc' := 20) (lv' := [(0, .ref 0), (1, .int t)]) (st' := [.int 0]) rfl rfl ?_
  exact rn_r rfl rfl
set_option maxRecDepth 20000 in
theorem fx_columns_h (t : Int32) (h1 : 3 ≤ t) : sm_run none 8 11 0 (lv_args 0 [.ref 0, .int t]) [] hp0 (some (.int 0), hp0) := by
  refine rn_p (pc' := 1) (lv' := [(0, .ref 0), (1, .int t)]) (st' := [.int t]) rfl rfl ?_
  refine rn_cs (As := [.int t]) (r := []) (v := (some (.int 0))) (g := hp0) (st2 := [.int 0]) (pc' := 4) rfl rfl rfl rfl rfl ?_ ?_
  · refine rn_p (pc' := 1) (lv' := [(0, .int t)]) (st' := [.int t]) rfl rfl ?_
    refine rn_f (pc' := 4) (lv' := [(0, .int t)]) (st' := []) rfl rfl (t3_hi h1).1 ?_
    refine rn_p (pc' := 5) (lv' := [(0, .int t)]) (st' := [.int t]) rfl rfl ?_
    refine rn_p (pc' := 6) (lv' := [(0, .int t)]) (st' := [.int 3, .int t]) rfl rfl ?_
    refine rn_t (pc' := 13) (lv' := [(0, .int t)]) (st' := []) rfl rfl h1 ?_
    refine rn_p (pc' := 14) (lv' := [(0, .int t)]) (st' := [.int 0]) rfl rfl ?_
    exact rn_r rfl rfl
  refine rn_p (pc' := 19) (lv' := [(0, .ref 0), (1, .int t)]) (st' := []) rfl rfl ?_
  refine rn_p (pc' := 20) (lv' := [(0, .ref 0), (1, .int t)]) (st' := [.int 0]) rfl rfl ?_
  exact rn_r rfl rfl
theorem fx_columns_0  : sm_run none 8 11 0 (lv_args 0 [.ref 0, .int 0]) [] hp0 (some (.int 0), hp0) := ⟨100, sm_dec (by decide +kernel)⟩
theorem fx_columns_1  : sm_run none 8 11 0 (lv_args 0 [.ref 0, .int 1]) [] hp0 (some (.int 0), hp0) := ⟨100, sm_dec (by decide +kernel)⟩
theorem fx_columns_2  : sm_run none 8 11 0 (lv_args 0 [.ref 0, .int 2]) [] hp0 (some (.int 0), hp0) := ⟨100, sm_dec (by decide +kernel)⟩
set_option maxRecDepth 20000 in
theorem fx_columns (t : Int32) : sm_run none 8 11 0 (lv_args 0 [.ref 0, .int t]) [] hp0 (some (.int 0), hp0) := by
  rcases pk_ix t (n := 3) (by decide) with h1 | h1 | ⟨j, hj, rfl⟩
  · exact fx_columns_n t h1
  · exact fx_columns_h t h1
  · rcases (show j = 0 ∨ j = 1 ∨ j = 2 by omega) with rfl | rfl | rfl
    · exact fx_columns_0
    · exact fx_columns_1
    · exact fx_columns_2
set_option maxRecDepth 20000 in
theorem fm_columns_n (t : Int32) (h1 : t < 0) : sm_run none 8 193 0 (lv_args 0 [.ref 42, .int t]) [] hp0 (some (.int 0), hp0) := by
  refine rn_p (pc' := 1) (lv' := [(0, .ref 42), (1, .int t)]) (st' := [.int t]) rfl rfl ?_
  refine rn_cs (As := [.int t]) (r := []) (v := (some (.int 0))) (g := hp0) (st2 := [.int 0]) (pc' := 4) rfl rfl rfl rfl rfl ?_ ?_
  · refine rn_p (pc' := 1) (lv' := [(0, .int t)]) (st' := [.int t]) rfl rfl ?_
    refine rn_t (pc' := 13) (lv' := [(0, .int t)]) (st' := []) rfl rfl h1 ?_
    refine rn_p (pc' := 14) (lv' := [(0, .int t)]) (st' := [.int 0]) rfl rfl ?_
    exact rn_r rfl rfl
  refine rn_p (pc' := 16) (lv' := [(0, .ref 42), (1, .int t)]) (st' := []) rfl rfl ?_
  refine rn_p (pc' := 17) (lv' := [(0, .ref 42), (1, .int t)]) (st' := [.int 0]) rfl rfl ?_
  exact rn_r rfl rfl
set_option maxRecDepth 20000 in
theorem fm_columns_h (t : Int32) (h1 : 3 ≤ t) : sm_run none 8 193 0 (lv_args 0 [.ref 42, .int t]) [] hp0 (some (.int 0), hp0) := by
  refine rn_p (pc' := 1) (lv' := [(0, .ref 42), (1, .int t)]) (st' := [.int t]) rfl rfl ?_
  refine rn_cs (As := [.int t]) (r := []) (v := (some (.int 0))) (g := hp0) (st2 := [.int 0]) (pc' := 4) rfl rfl rfl rfl rfl ?_ ?_
  · refine rn_p (pc' := 1) (lv' := [(0, .int t)]) (st' := [.int t]) rfl rfl ?_
    refine rn_f (pc' := 4) (lv' := [(0, .int t)]) (st' := []) rfl rfl (t3_hi h1).1 ?_
    refine rn_p (pc' := 5) (lv' := [(0, .int t)]) (st' := [.int t]) rfl rfl ?_
    refine rn_p (pc' := 6) (lv' := [(0, .int t)]) (st' := [.int 2, .int t]) rfl rfl ?_
    refine rn_t (pc' := 13) (lv' := [(0, .int t)]) (st' := []) rfl rfl (t3_hi h1).2 ?_
    refine rn_p (pc' := 14) (lv' := [(0, .int t)]) (st' := [.int 0]) rfl rfl ?_
    exact rn_r rfl rfl
  refine rn_p (pc' := 16) (lv' := [(0, .ref 42), (1, .int t)]) (st' := []) rfl rfl ?_
  refine rn_p (pc' := 17) (lv' := [(0, .ref 42), (1, .int t)]) (st' := [.int 0]) rfl rfl ?_
  exact rn_r rfl rfl
theorem fm_columns_0  : sm_run none 8 193 0 (lv_args 0 [.ref 42, .int 0]) [] hp0 (some (.int 0), hp0) := ⟨100, sm_dec (by decide +kernel)⟩
theorem fm_columns_1  : sm_run none 8 193 0 (lv_args 0 [.ref 42, .int 1]) [] hp0 (some (.int 0), hp0) := ⟨100, sm_dec (by decide +kernel)⟩
theorem fm_columns_2  : sm_run none 8 193 0 (lv_args 0 [.ref 42, .int 2]) [] hp0 (some (.int 0), hp0) := ⟨100, sm_dec (by decide +kernel)⟩
set_option maxRecDepth 20000 in
theorem fm_columns (t : Int32) : sm_run none 8 193 0 (lv_args 0 [.ref 42, .int t]) [] hp0 (some (.int 0), hp0) := by
  rcases pk_ix t (n := 3) (by decide) with h1 | h1 | ⟨j, hj, rfl⟩
  · exact fm_columns_n t h1
  · exact fm_columns_h t h1
  · rcases (show j = 0 ∨ j = 1 ∨ j = 2 by omega) with rfl | rfl | rfl
    · exact fm_columns_0
    · exact fm_columns_1
    · exact fm_columns_2
set_option maxRecDepth 20000 in
theorem fx_size_n (t : Int32) (h1 : t < 0) : sm_run none 8 12 0 (lv_args 0 [.ref 0, .int t]) [] hp0 (some (.int 0), hp0) := by
  refine rn_p (pc' := 1) (lv' := [(0, .ref 0), (1, .int t)]) (st' := [.int t]) rfl rfl ?_
  refine rn_cs (As := [.int t]) (r := []) (v := (some (.int 0))) (g := hp0) (st2 := [.int 0]) (pc' := 4) rfl rfl rfl rfl rfl ?_ ?_
  · refine rn_p (pc' := 1) (lv' := [(0, .int t)]) (st' := [.int t]) rfl rfl ?_
    refine rn_t (pc' := 13) (lv' := [(0, .int t)]) (st' := []) rfl rfl h1 ?_
    refine rn_p (pc' := 14) (lv' := [(0, .int t)]) (st' := [.int 0]) rfl rfl ?_
    exact rn_r rfl rfl
  refine rn_p (pc' := 19) (lv' := [(0, .ref 0), (1, .int t)]) (st' := []) rfl rfl ?_
  refine rn_p (pc' := 20) (lv' := [(0, .ref 0), (1, .int t)]) (st' := [.int 0]) rfl rfl ?_
  exact rn_r rfl rfl
set_option maxRecDepth 20000 in
theorem fx_size_h (t : Int32) (h1 : 3 ≤ t) : sm_run none 8 12 0 (lv_args 0 [.ref 0, .int t]) [] hp0 (some (.int 0), hp0) := by
  refine rn_p (pc' := 1) (lv' := [(0, .ref 0), (1, .int t)]) (st' := [.int t]) rfl rfl ?_
  refine rn_cs (As := [.int t]) (r := []) (v := (some (.int 0))) (g := hp0) (st2 := [.int 0]) (pc' := 4) rfl rfl rfl rfl rfl ?_ ?_
  · refine rn_p (pc' := 1) (lv' := [(0, .int t)]) (st' := [.int t]) rfl rfl ?_
    refine rn_f (pc' := 4) (lv' := [(0, .int t)]) (st' := []) rfl rfl (t3_hi h1).1 ?_
    refine rn_p (pc' := 5) (lv' := [(0, .int t)]) (st' := [.int t]) rfl rfl ?_
    refine rn_p (pc' := 6) (lv' := [(0, .int t)]) (st' := [.int 3, .int t]) rfl rfl ?_
    refine rn_t (pc' := 13) (lv' := [(0, .int t)]) (st' := []) rfl rfl h1 ?_
    refine rn_p (pc' := 14) (lv' := [(0, .int t)]) (st' := [.int 0]) rfl rfl ?_
    exact rn_r rfl rfl
  refine rn_p (pc' := 19) (lv' := [(0, .ref 0), (1, .int t)]) (st' := []) rfl rfl ?_
  refine rn_p (pc' := 20) (lv' := [(0, .ref 0), (1, .int t)]) (st' := [.int 0]) rfl rfl ?_
  exact rn_r rfl rfl
theorem fx_size_0  : sm_run none 8 12 0 (lv_args 0 [.ref 0, .int 0]) [] hp0 (some (.int 0), hp0) := ⟨100, sm_dec (by decide +kernel)⟩
theorem fx_size_1  : sm_run none 8 12 0 (lv_args 0 [.ref 0, .int 1]) [] hp0 (some (.int 0), hp0) := ⟨100, sm_dec (by decide +kernel)⟩
theorem fx_size_2  : sm_run none 8 12 0 (lv_args 0 [.ref 0, .int 2]) [] hp0 (some (.int 0), hp0) := ⟨100, sm_dec (by decide +kernel)⟩
set_option maxRecDepth 20000 in
theorem fx_size (t : Int32) : sm_run none 8 12 0 (lv_args 0 [.ref 0, .int t]) [] hp0 (some (.int 0), hp0) := by
  rcases pk_ix t (n := 3) (by decide) with h1 | h1 | ⟨j, hj, rfl⟩
  · exact fx_size_n t h1
  · exact fx_size_h t h1
  · rcases (show j = 0 ∨ j = 1 ∨ j = 2 by omega) with rfl | rfl | rfl
    · exact fx_size_0
    · exact fx_size_1
    · exact fx_size_2
set_option maxRecDepth 20000 in
theorem fm_size_n (t : Int32) (h1 : t < 0) : sm_run none 8 194 0 (lv_args 0 [.ref 42, .int t]) [] hp0 (some (.int 0), hp0) := by
  refine rn_p (pc' := 1) (lv' := [(0, .ref 42), (1, .int t)]) (st' := [.int t]) rfl rfl ?_
  refine rn_cs (As := [.int t]) (r := []) (v := (some (.int 0))) (g := hp0) (st2 := [.int 0]) (pc' := 4) rfl rfl rfl rfl rfl ?_ ?_
  · refine rn_p (pc' := 1) (lv' := [(0, .int t)]) (st' := [.int t]) rfl rfl ?_
    refine rn_t (pc' := 13) (lv' := [(0, .int t)]) (st' := []) rfl rfl h1 ?_
    refine rn_p (pc' := 14) (lv' := [(0, .int t)]) (st' := [.int 0]) rfl rfl ?_
    exact rn_r rfl rfl
  refine rn_p (pc' := 16) (lv' := [(0, .ref 42), (1, .int t)]) (st' := []) rfl rfl ?_
  refine rn_p (pc' := 17) (lv' := [(0, .ref 42), (1, .int t)]) (st' := [.int 0]) rfl rfl ?_
  exact rn_r rfl rfl
set_option maxRecDepth 20000 in
theorem fm_size_h (t : Int32) (h1 : 3 ≤ t) : sm_run none 8 194 0 (lv_args 0 [.ref 42, .int t]) [] hp0 (some (.int 0), hp0) := by
  refine rn_p (pc' := 1) (lv' := [(0, .ref 42), (1, .int t)]) (st' := [.int t]) rfl rfl ?_
  refine rn_cs (As := [.int t]) (r := []) (v := (some (.int 0))) (g := hp0) (st2 := [.int 0]) (pc' := 4) rfl rfl rfl rfl rfl ?_ ?_
  · refine rn_p (pc' := 1) (lv' := [(0, .int t)]) (st' := [.int t]) rfl rfl ?_
    refine rn_f (pc' := 4) (lv' := [(0, .int t)]) (st' := []) rfl rfl (t3_hi h1).1 ?_
    refine rn_p (pc' := 5) (lv' := [(0, .int t)]) (st' := [.int t]) rfl rfl ?_
    refine rn_p (pc' := 6) (lv' := [(0, .int t)]) (st' := [.int 2, .int t]) rfl rfl ?_
    refine rn_t (pc' := 13) (lv' := [(0, .int t)]) (st' := []) rfl rfl (t3_hi h1).2 ?_
    refine rn_p (pc' := 14) (lv' := [(0, .int t)]) (st' := [.int 0]) rfl rfl ?_
    exact rn_r rfl rfl
  refine rn_p (pc' := 16) (lv' := [(0, .ref 42), (1, .int t)]) (st' := []) rfl rfl ?_
  refine rn_p (pc' := 17) (lv' := [(0, .ref 42), (1, .int t)]) (st' := [.int 0]) rfl rfl ?_
  exact rn_r rfl rfl
theorem fm_size_0  : sm_run none 8 194 0 (lv_args 0 [.ref 42, .int 0]) [] hp0 (some (.int 0), hp0) := ⟨100, sm_dec (by decide +kernel)⟩
theorem fm_size_1  : sm_run none 8 194 0 (lv_args 0 [.ref 42, .int 1]) [] hp0 (some (.int 0), hp0) := ⟨100, sm_dec (by decide +kernel)⟩
theorem fm_size_2  : sm_run none 8 194 0 (lv_args 0 [.ref 42, .int 2]) [] hp0 (some (.int 0), hp0) := ⟨100, sm_dec (by decide +kernel)⟩
set_option maxRecDepth 20000 in
theorem fm_size (t : Int32) : sm_run none 8 194 0 (lv_args 0 [.ref 42, .int t]) [] hp0 (some (.int 0), hp0) := by
  rcases pk_ix t (n := 3) (by decide) with h1 | h1 | ⟨j, hj, rfl⟩
  · exact fm_size_n t h1
  · exact fm_size_h t h1
  · rcases (show j = 0 ∨ j = 1 ∨ j = 2 by omega) with rfl | rfl | rfl
    · exact fm_size_0
    · exact fm_size_1
    · exact fm_size_2
set_option maxRecDepth 20000 in
theorem fx_indexed_n (t c : Int32) (h1 : t < 0) : sm_run none 8 13 0 (lv_args 0 [.ref 0, .int t, .int c]) [] hp0 (some (.int 0), hp0) := by
  refine rn_p (pc' := 1) (lv' := [(0, .ref 0), (1, .int t), (2, .int c)]) (st' := [.int t]) rfl rfl ?_
  refine rn_cs (As := [.int t]) (r := []) (v := (some (.int 0))) (g := hp0) (st2 := [.int 0]) (pc' := 4) rfl rfl rfl rfl rfl ?_ ?_
  · refine rn_p (pc' := 1) (lv' := [(0, .int t)]) (st' := [.int t]) rfl rfl ?_
    refine rn_t (pc' := 13) (lv' := [(0, .int t)]) (st' := []) rfl rfl h1 ?_
    refine rn_p (pc' := 14) (lv' := [(0, .int t)]) (st' := [.int 0]) rfl rfl ?_
    exact rn_r rfl rfl
  refine rn_p (pc' := 24) (lv' := [(0, .ref 0), (1, .int t), (2, .int c)]) (st' := []) rfl rfl ?_
  refine rn_p (pc' := 25) (lv' := [(0, .ref 0), (1, .int t), (2, .int c)]) (st' := [.int 0]) rfl rfl ?_
  exact rn_r rfl rfl
set_option maxRecDepth 20000 in
theorem fx_indexed_h (t c : Int32) (h1 : 3 ≤ t) : sm_run none 8 13 0 (lv_args 0 [.ref 0, .int t, .int c]) [] hp0 (some (.int 0), hp0) := by
  refine rn_p (pc' := 1) (lv' := [(0, .ref 0), (1, .int t), (2, .int c)]) (st' := [.int t]) rfl rfl ?_
  refine rn_cs (As := [.int t]) (r := []) (v := (some (.int 0))) (g := hp0) (st2 := [.int 0]) (pc' := 4) rfl rfl rfl rfl rfl ?_ ?_
  · refine rn_p (pc' := 1) (lv' := [(0, .int t)]) (st' := [.int t]) rfl rfl ?_
    refine rn_f (pc' := 4) (lv' := [(0, .int t)]) (st' := []) rfl rfl (t3_hi h1).1 ?_
    refine rn_p (pc' := 5) (lv' := [(0, .int t)]) (st' := [.int t]) rfl rfl ?_
    refine rn_p (pc' := 6) (lv' := [(0, .int t)]) (st' := [.int 3, .int t]) rfl rfl ?_
    refine rn_t (pc' := 13) (lv' := [(0, .int t)]) (st' := []) rfl rfl h1 ?_
    refine rn_p (pc' := 14) (lv' := [(0, .int t)]) (st' := [.int 0]) rfl rfl ?_
    exact rn_r rfl rfl
  refine rn_p (pc' := 24) (lv' := [(0, .ref 0), (1, .int t), (2, .int c)]) (st' := []) rfl rfl ?_
  refine rn_p (pc' := 25) (lv' := [(0, .ref 0), (1, .int t), (2, .int c)]) (st' := [.int 0]) rfl rfl ?_
  exact rn_r rfl rfl
set_option maxRecDepth 20000 in
theorem fx_indexed_0a (c : Int32) (h2 : c < 0) : sm_run none 8 13 0 (lv_args 0 [.ref 0, .int 0, .int c]) [] hp0 (some (.int 0), hp0) := by
  refine rn_p (pc' := 1) (lv' := [(0, .ref 0), (1, .int 0), (2, .int c)]) (st' := [.int 0]) rfl rfl ?_
  refine rn_cs (As := [.int 0]) (r := []) (v := (some (.int 1))) (g := hp0) (st2 := [.int 1]) (pc' := 4) rfl rfl rfl rfl rfl ?_ ?_
  · refine rn_p (pc' := 1) (lv' := [(0, .int 0)]) (st' := [.int 0]) rfl rfl ?_
    refine rn_p (pc' := 4) (lv' := [(0, .int 0)]) (st' := []) rfl rfl ?_
    refine rn_p (pc' := 5) (lv' := [(0, .int 0)]) (st' := [.int 0]) rfl rfl ?_
    refine rn_p (pc' := 6) (lv' := [(0, .int 0)]) (st' := [.int 3, .int 0]) rfl rfl ?_
    refine rn_p (pc' := 9) (lv' := [(0, .int 0)]) (st' := []) rfl rfl ?_
    refine rn_p (pc' := 10) (lv' := [(0, .int 0)]) (st' := [.int 1]) rfl rfl ?_
    refine rn_p (pc' := 14) (lv' := [(0, .int 0)]) (st' := [.int 1]) rfl rfl ?_
    exact rn_r rfl rfl
  refine rn_p (pc' := 7) (lv' := [(0, .ref 0), (1, .int 0), (2, .int c)]) (st' := []) rfl rfl ?_
  refine rn_p (pc' := 8) (lv' := [(0, .ref 0), (1, .int 0), (2, .int c)]) (st' := [.ref 0]) rfl rfl ?_
  refine rn_p (pc' := 11) (lv' := [(0, .ref 0), (1, .int 0), (2, .int c)]) (st' := [.ref 2]) rfl rfl ?_
  refine rn_p (pc' := 12) (lv' := [(0, .ref 0), (1, .int 0), (2, .int c)]) (st' := [.int 0, .ref 2]) rfl rfl ?_
  refine rn_p (pc' := 13) (lv' := [(0, .ref 0), (1, .int 0), (2, .int c)]) (st' := [.ref 3]) rfl rfl ?_
  refine rn_p (pc' := 14) (lv' := [(0, .ref 0), (1, .int 0), (2, .int c)]) (st' := [.int c, .ref 3]) rfl rfl ?_
  refine rn_cv (As := [.ref 3, .int c]) (r := []) (v := (some (.int 0))) (g := hp0) (st2 := [.int 0]) (pc' := 17) rfl rfl rfl rfl ?_ ?_
  · refine rn_p (pc' := 1) (lv' := [(0, .ref 3), (1, .int c)]) (st' := [.ref 3]) rfl rfl ?_
    refine rn_p (pc' := 2) (lv' := [(0, .ref 3), (1, .int c)]) (st' := [.int c, .ref 3]) rfl rfl ?_
    refine rn_cv (As := [.ref 3, .int c]) (r := []) (v := (some (.int 0))) (g := hp0) (st2 := [.int 0]) (pc' := 5) rfl rfl rfl rfl ?_ ?_
    · refine rn_p (pc' := 1) (lv' := [(0, .ref 3), (1, .int c)]) (st' := [.int c]) rfl rfl ?_
      refine rn_t (pc' := 16) (lv' := [(0, .ref 3), (1, .int c)]) (st' := []) rfl rfl h2 ?_
      refine rn_p (pc' := 17) (lv' := [(0, .ref 3), (1, .int c)]) (st' := [.int 0]) rfl rfl ?_
      exact rn_r rfl rfl
    refine rn_p (pc' := 21) (lv' := [(0, .ref 3), (1, .int c)]) (st' := []) rfl rfl ?_
    refine rn_p (pc' := 22) (lv' := [(0, .ref 3), (1, .int c)]) (st' := [.int 0]) rfl rfl ?_
    exact rn_r rfl rfl
  refine rn_p (pc' := 24) (lv' := [(0, .ref 0), (1, .int 0), (2, .int c)]) (st' := []) rfl rfl ?_
  refine rn_p (pc' := 25) (lv' := [(0, .ref 0), (1, .int 0), (2, .int c)]) (st' := [.int 0]) rfl rfl ?_
  exact rn_r rfl rfl
set_option maxRecDepth 20000 in
theorem fx_indexed_0b (c : Int32) (h2 : ¬ c < 0) : sm_run none 8 13 0 (lv_args 0 [.ref 0, .int 0, .int c]) [] hp0 (some (.int 0), hp0) := by
  refine rn_p (pc' := 1) (lv' := [(0, .ref 0), (1, .int 0), (2, .int c)]) (st' := [.int 0]) rfl rfl ?_
  refine rn_cs (As := [.int 0]) (r := []) (v := (some (.int 1))) (g := hp0) (st2 := [.int 1]) (pc' := 4) rfl rfl rfl rfl rfl ?_ ?_
  · refine rn_p (pc' := 1) (lv' := [(0, .int 0)]) (st' := [.int 0]) rfl rfl ?_
    refine rn_p (pc' := 4) (lv' := [(0, .int 0)]) (st' := []) rfl rfl ?_
    refine rn_p (pc' := 5) (lv' := [(0, .int 0)]) (st' := [.int 0]) rfl rfl ?_
    refine rn_p (pc' := 6) (lv' := [(0, .int 0)]) (st' := [.int 3, .int 0]) rfl rfl ?_
    refine rn_p (pc' := 9) (lv' := [(0, .int 0)]) (st' := []) rfl rfl ?_
    refine rn_p (pc' := 10) (lv' := [(0, .int 0)]) (st' := [.int 1]) rfl rfl ?_
    refine rn_p (pc' := 14) (lv' := [(0, .int 0)]) (st' := [.int 1]) rfl rfl ?_
    exact rn_r rfl rfl
  refine rn_p (pc' := 7) (lv' := [(0, .ref 0), (1, .int 0), (2, .int c)]) (st' := []) rfl rfl ?_
  refine rn_p (pc' := 8) (lv' := [(0, .ref 0), (1, .int 0), (2, .int c)]) (st' := [.ref 0]) rfl rfl ?_
  refine rn_p (pc' := 11) (lv' := [(0, .ref 0), (1, .int 0), (2, .int c)]) (st' := [.ref 2]) rfl rfl ?_
  refine rn_p (pc' := 12) (lv' := [(0, .ref 0), (1, .int 0), (2, .int c)]) (st' := [.int 0, .ref 2]) rfl rfl ?_
  refine rn_p (pc' := 13) (lv' := [(0, .ref 0), (1, .int 0), (2, .int c)]) (st' := [.ref 3]) rfl rfl ?_
  refine rn_p (pc' := 14) (lv' := [(0, .ref 0), (1, .int 0), (2, .int c)]) (st' := [.int c, .ref 3]) rfl rfl ?_
  refine rn_cv (As := [.ref 3, .int c]) (r := []) (v := (some (.int 0))) (g := hp0) (st2 := [.int 0]) (pc' := 17) rfl rfl rfl rfl ?_ ?_
  · refine rn_p (pc' := 1) (lv' := [(0, .ref 3), (1, .int c)]) (st' := [.ref 3]) rfl rfl ?_
    refine rn_p (pc' := 2) (lv' := [(0, .ref 3), (1, .int c)]) (st' := [.int c, .ref 3]) rfl rfl ?_
    refine rn_cv (As := [.ref 3, .int c]) (r := []) (v := (some (.int 0))) (g := hp0) (st2 := [.int 0]) (pc' := 5) rfl rfl rfl rfl ?_ ?_
    · refine rn_p (pc' := 1) (lv' := [(0, .ref 3), (1, .int c)]) (st' := [.int c]) rfl rfl ?_
      refine rn_f (pc' := 4) (lv' := [(0, .ref 3), (1, .int c)]) (st' := []) rfl rfl h2 ?_
      refine rn_p (pc' := 5) (lv' := [(0, .ref 3), (1, .int c)]) (st' := [.int c]) rfl rfl ?_
      refine rn_p (pc' := 6) (lv' := [(0, .ref 3), (1, .int c)]) (st' := [.ref 3, .int c]) rfl rfl ?_
      refine rn_p (pc' := 9) (lv' := [(0, .ref 3), (1, .int c)]) (st' := [.int 0, .int c]) rfl rfl ?_
      refine rn_t (pc' := 16) (lv' := [(0, .ref 3), (1, .int c)]) (st' := []) rfl rfl (t_ge0 h2) ?_
      refine rn_p (pc' := 17) (lv' := [(0, .ref 3), (1, .int c)]) (st' := [.int 0]) rfl rfl ?_
      exact rn_r rfl rfl
    refine rn_p (pc' := 21) (lv' := [(0, .ref 3), (1, .int c)]) (st' := []) rfl rfl ?_
    refine rn_p (pc' := 22) (lv' := [(0, .ref 3), (1, .int c)]) (st' := [.int 0]) rfl rfl ?_
    exact rn_r rfl rfl
  refine rn_p (pc' := 24) (lv' := [(0, .ref 0), (1, .int 0), (2, .int c)]) (st' := []) rfl rfl ?_
  refine rn_p (pc' := 25) (lv' := [(0, .ref 0), (1, .int 0), (2, .int c)]) (st' := [.int 0]) rfl rfl ?_
  exact rn_r rfl rfl
theorem fx_indexed_0 (c : Int32) : sm_run none 8 13 0 (lv_args 0 [.ref 0, .int 0, .int c]) [] hp0 (some (.int 0), hp0) := by
  by_cases h2 : c < 0
  · exact fx_indexed_0a c h2
  · exact fx_indexed_0b c h2
set_option maxRecDepth 20000 in
theorem fx_indexed_1a (c : Int32) (h2 : c < 0) : sm_run none 8 13 0 (lv_args 0 [.ref 0, .int 1, .int c]) [] hp0 (some (.int 0), hp0) := by
  refine rn_p (pc' := 1) (lv' := [(0, .ref 0), (1, .int 1), (2, .int c)]) (st' := [.int 1]) rfl rfl ?_
  refine rn_cs (As := [.int 1]) (r := []) (v := (some (.int 1))) (g := hp0) (st2 := [.int 1]) (pc' := 4) rfl rfl rfl rfl rfl ?_ ?_
  · refine rn_p (pc' := 1) (lv' := [(0, .int 1)]) (st' := [.int 1]) rfl rfl ?_
    refine rn_p (pc' := 4) (lv' := [(0, .int 1)]) (st' := []) rfl rfl ?_
    refine rn_p (pc' := 5) (lv' := [(0, .int 1)]) (st' := [.int 1]) rfl rfl ?_
    refine rn_p (pc' := 6) (lv' := [(0, .int 1)]) (st' := [.int 3, .int 1]) rfl rfl ?_
    refine rn_p (pc' := 9) (lv' := [(0, .int 1)]) (st' := []) rfl rfl ?_
    refine rn_p (pc' := 10) (lv' := [(0, .int 1)]) (st' := [.int 1]) rfl rfl ?_
    refine rn_p (pc' := 14) (lv' := [(0, .int 1)]) (st' := [.int 1]) rfl rfl ?_
    exact rn_r rfl rfl
  refine rn_p (pc' := 7) (lv' := [(0, .ref 0), (1, .int 1), (2, .int c)]) (st' := []) rfl rfl ?_
  refine rn_p (pc' := 8) (lv' := [(0, .ref 0), (1, .int 1), (2, .int c)]) (st' := [.ref 0]) rfl rfl ?_
  refine rn_p (pc' := 11) (lv' := [(0, .ref 0), (1, .int 1), (2, .int c)]) (st' := [.ref 2]) rfl rfl ?_
  refine rn_p (pc' := 12) (lv' := [(0, .ref 0), (1, .int 1), (2, .int c)]) (st' := [.int 1, .ref 2]) rfl rfl ?_
  refine rn_p (pc' := 13) (lv' := [(0, .ref 0), (1, .int 1), (2, .int c)]) (st' := [.ref 6]) rfl rfl ?_
  refine rn_p (pc' := 14) (lv' := [(0, .ref 0), (1, .int 1), (2, .int c)]) (st' := [.int c, .ref 6]) rfl rfl ?_
  refine rn_cv (As := [.ref 6, .int c]) (r := []) (v := (some (.int 0))) (g := hp0) (st2 := [.int 0]) (pc' := 17) rfl rfl rfl rfl ?_ ?_
  · refine rn_p (pc' := 1) (lv' := [(0, .ref 6), (1, .int c)]) (st' := [.ref 6]) rfl rfl ?_
    refine rn_p (pc' := 2) (lv' := [(0, .ref 6), (1, .int c)]) (st' := [.int c, .ref 6]) rfl rfl ?_
    refine rn_cv (As := [.ref 6, .int c]) (r := []) (v := (some (.int 0))) (g := hp0) (st2 := [.int 0]) (pc' := 5) rfl rfl rfl rfl ?_ ?_
    · refine rn_p (pc' := 1) (lv' := [(0, .ref 6), (1, .int c)]) (st' := [.int c]) rfl rfl ?_
      refine rn_t (pc' := 16) (lv' := [(0, .ref 6), (1, .int c)]) (st' := []) rfl rfl h2 ?_
      refine rn_p (pc' := 17) (lv' := [(0, .ref 6), (1, .int c)]) (st' := [.int 0]) rfl rfl ?_
      exact rn_r rfl rfl
    refine rn_p (pc' := 21) (lv' := [(0, .ref 6), (1, .int c)]) (st' := []) rfl rfl ?_
    refine rn_p (pc' := 22) (lv' := [(0, .ref 6), (1, .int c)]) (st' := [.int 0]) rfl rfl ?_
    exact rn_r rfl rfl
  refine rn_p (pc' := 24) (lv' := [(0, .ref 0), (1, .int 1), (2, .int c)]) (st' := []) rfl rfl ?_
  refine rn_p (pc' := 25) (lv' := [(0, .ref 0), (1, .int 1), (2, .int c)]) (st' := [.int 0]) rfl rfl ?_
  exact rn_r rfl rfl
set_option maxRecDepth 20000 in
theorem fx_indexed_1b (c : Int32) (h2 : ¬ c < 0) : sm_run none 8 13 0 (lv_args 0 [.ref 0, .int 1, .int c]) [] hp0 (some (.int 0), hp0) := by
  refine rn_p (pc' := 1) (lv' := [(0, .ref 0), (1, .int 1), (2, .int c)]) (st' := [.int 1]) rfl rfl ?_
  refine rn_cs (As := [.int 1]) (r := []) (v := (some (.int 1))) (g := hp0) (st2 := [.int 1]) (pc' := 4) rfl rfl rfl rfl rfl ?_ ?_
  · refine rn_p (pc' := 1) (lv' := [(0, .int 1)]) (st' := [.int 1]) rfl rfl ?_
    refine rn_p (pc' := 4) (lv' := [(0, .int 1)]) (st' := []) rfl rfl ?_
    refine rn_p (pc' := 5) (lv' := [(0, .int 1)]) (st' := [.int 1]) rfl rfl ?_
    refine rn_p (pc' := 6) (lv' := [(0, .int 1)]) (st' := [.int 3, .int 1]) rfl rfl ?_
    refine rn_p (pc' := 9) (lv' := [(0, .int 1)]) (st' := []) rfl rfl ?_
    refine rn_p (pc' := 10) (lv' := [(0, .int 1)]) (st' := [.int 1]) rfl rfl ?_
    refine rn_p (pc' := 14) (lv' := [(0, .int 1)]) (st' := [.int 1]) rfl rfl ?_
    exact rn_r rfl rfl
  refine rn_p (pc' := 7) (lv' := [(0, .ref 0), (1, .int 1), (2, .int c)]) (st' := []) rfl rfl ?_
  refine rn_p (pc' := 8) (lv' := [(0, .ref 0), (1, .int 1), (2, .int c)]) (st' := [.ref 0]) rfl rfl ?_
  refine rn_p (pc' := 11) (lv' := [(0, .ref 0), (1, .int 1), (2, .int c)]) (st' := [.ref 2]) rfl rfl ?_
  refine rn_p (pc' := 12) (lv' := [(0, .ref 0), (1, .int 1), (2, .int c)]) (st' := [.int 1, .ref 2]) rfl rfl ?_
  refine rn_p (pc' := 13) (lv' := [(0, .ref 0), (1, .int 1), (2, .int c)]) (st' := [.ref 6]) rfl rfl ?_
  refine rn_p (pc' := 14) (lv' := [(0, .ref 0), (1, .int 1), (2, .int c)]) (st' := [.int c, .ref 6]) rfl rfl ?_
  refine rn_cv (As := [.ref 6, .int c]) (r := []) (v := (some (.int 0))) (g := hp0) (st2 := [.int 0]) (pc' := 17) rfl rfl rfl rfl ?_ ?_
  · refine rn_p (pc' := 1) (lv' := [(0, .ref 6), (1, .int c)]) (st' := [.ref 6]) rfl rfl ?_
    refine rn_p (pc' := 2) (lv' := [(0, .ref 6), (1, .int c)]) (st' := [.int c, .ref 6]) rfl rfl ?_
    refine rn_cv (As := [.ref 6, .int c]) (r := []) (v := (some (.int 0))) (g := hp0) (st2 := [.int 0]) (pc' := 5) rfl rfl rfl rfl ?_ ?_
    · refine rn_p (pc' := 1) (lv' := [(0, .ref 6), (1, .int c)]) (st' := [.int c]) rfl rfl ?_
      refine rn_f (pc' := 4) (lv' := [(0, .ref 6), (1, .int c)]) (st' := []) rfl rfl h2 ?_
      refine rn_p (pc' := 5) (lv' := [(0, .ref 6), (1, .int c)]) (st' := [.int c]) rfl rfl ?_
      refine rn_p (pc' := 6) (lv' := [(0, .ref 6), (1, .int c)]) (st' := [.ref 6, .int c]) rfl rfl ?_
      refine rn_p (pc' := 9) (lv' := [(0, .ref 6), (1, .int c)]) (st' := [.int 0, .int c]) rfl rfl ?_
      refine rn_t (pc' := 16) (lv' := [(0, .ref 6), (1, .int c)]) (st' := []) rfl rfl (t_ge0 h2) ?_
      refine rn_p (pc' := 17) (lv' := [(0, .ref 6), (1, .int c)]) (st' := [.int 0]) rfl rfl ?_
      exact rn_r rfl rfl
    refine rn_p (pc' := 21) (lv' := [(0, .ref 6), (1, .int c)]) (st' := []) rfl rfl ?_
    refine rn_p (pc' := 22) (lv' := [(0, .ref 6), (1, .int c)]) (st' := [.int 0]) rfl rfl ?_
    exact rn_r rfl rfl
  refine rn_p (pc' := 24) (lv' := [(0, .ref 0), (1, .int 1), (2, .int c)]) (st' := []) rfl rfl ?_
  refine rn_p (pc' := 25) (lv' := [(0, .ref 0), (1, .int 1), (2, .int c)]) (st' := [.int 0]) rfl rfl ?_
  exact rn_r rfl rfl
theorem fx_indexed_1 (c : Int32) : sm_run none 8 13 0 (lv_args 0 [.ref 0, .int 1, .int c]) [] hp0 (some (.int 0), hp0) := by
  by_cases h2 : c < 0
  · exact fx_indexed_1a c h2
  · exact fx_indexed_1b c h2
set_option maxRecDepth 20000 in
theorem fx_indexed_2a (c : Int32) (h2 : c < 0) : sm_run none 8 13 0 (lv_args 0 [.ref 0, .int 2, .int c]) [] hp0 (some (.int 0), hp0) := by
  refine rn_p (pc' := 1) (lv' := [(0, .ref 0), (1, .int 2), (2, .int c)]) (st' := [.int 2]) rfl rfl ?_
  refine rn_cs (As := [.int 2]) (r := []) (v := (some (.int 1))) (g := hp0) (st2 := [.int 1]) (pc' := 4) rfl rfl rfl rfl rfl ?_ ?_
  · refine rn_p (pc' := 1) (lv' := [(0, .int 2)]) (st' := [.int 2]) rfl rfl ?_
    refine rn_p (pc' := 4) (lv' := [(0, .int 2)]) (st' := []) rfl rfl ?_
    refine rn_p (pc' := 5) (lv' := [(0, .int 2)]) (st' := [.int 2]) rfl rfl ?_
    refine rn_p (pc' := 6) (lv' := [(0, .int 2)]) (st' := [.int 3, .int 2]) rfl rfl ?_
    refine rn_p (pc' := 9) (lv' := [(0, .int 2)]) (st' := []) rfl rfl ?_
    refine rn_p (pc' := 10) (lv' := [(0, .int 2)]) (st' := [.int 1]) rfl rfl ?_
    refine rn_p (pc' := 14) (lv' := [(0, .int 2)]) (st' := [.int 1]) rfl rfl ?_
    exact rn_r rfl rfl
  refine rn_p (pc' := 7) (lv' := [(0, .ref 0), (1, .int 2), (2, .int c)]) (st' := []) rfl rfl ?_
  refine rn_p (pc' := 8) (lv' := [(0, .ref 0), (1, .int 2), (2, .int c)]) (st' := [.ref 0]) rfl rfl ?_
  refine rn_p (pc' := 11) (lv' := [(0, .ref 0), (1, .int 2), (2, .int c)]) (st' := [.ref 2]) rfl rfl ?_
  refine rn_p (pc' := 12) (lv' := [(0, .ref 0), (1, .int 2), (2, .int c)]) (st' := [.int 2, .ref 2]) rfl rfl ?_
  refine rn_p (pc' := 13) (lv' := [(0, .ref 0), (1, .int 2), (2, .int c)]) (st' := [.ref 9]) rfl rfl ?_
  refine rn_p (pc' := 14) (lv' := [(0, .ref 0), (1, .int 2), (2, .int c)]) (st' := [.int c, .ref 9]) rfl rfl ?_
  refine rn_cv (As := [.ref 9, .int c]) (r := []) (v := (some (.int 0))) (g := hp0) (st2 := [.int 0]) (pc' := 17) rfl rfl rfl rfl ?_ ?_
  · refine rn_p (pc' := 1) (lv' := [(0, .ref 9), (1, .int c)]) (st' := [.ref 9]) rfl rfl ?_
    refine rn_p (pc' := 2) (lv' := [(0, .ref 9), (1, .int c)]) (st' := [.int c, .ref 9]) rfl rfl ?_
    refine rn_cv (As := [.ref 9, .int c]) (r := []) (v := (some (.int 0))) (g := hp0) (st2 := [.int 0]) (pc' := 5) rfl rfl rfl rfl ?_ ?_
    · refine rn_p (pc' := 1) (lv' := [(0, .ref 9), (1, .int c)]) (st' := [.int c]) rfl rfl ?_
      refine rn_t (pc' := 16) (lv' := [(0, .ref 9), (1, .int c)]) (st' := []) rfl rfl h2 ?_
      refine rn_p (pc' := 17) (lv' := [(0, .ref 9), (1, .int c)]) (st' := [.int 0]) rfl rfl ?_
      exact rn_r rfl rfl
    refine rn_p (pc' := 21) (lv' := [(0, .ref 9), (1, .int c)]) (st' := []) rfl rfl ?_
    refine rn_p (pc' := 22) (lv' := [(0, .ref 9), (1, .int c)]) (st' := [.int 0]) rfl rfl ?_
    exact rn_r rfl rfl
  refine rn_p (pc' := 24) (lv' := [(0, .ref 0), (1, .int 2), (2, .int c)]) (st' := []) rfl rfl ?_
  refine rn_p (pc' := 25) (lv' := [(0, .ref 0), (1, .int 2), (2, .int c)]) (st' := [.int 0]) rfl rfl ?_
  exact rn_r rfl rfl
set_option maxRecDepth 20000 in
theorem fx_indexed_2b (c : Int32) (h2 : ¬ c < 0) : sm_run none 8 13 0 (lv_args 0 [.ref 0, .int 2, .int c]) [] hp0 (some (.int 0), hp0) := by
  refine rn_p (pc' := 1) (lv' := [(0, .ref 0), (1, .int 2), (2, .int c)]) (st' := [.int 2]) rfl rfl ?_
  refine rn_cs (As := [.int 2]) (r := []) (v := (some (.int 1))) (g := hp0) (st2 := [.int 1]) (pc' := 4) rfl rfl rfl rfl rfl ?_ ?_
  · refine rn_p (pc' := 1) (lv' := [(0, .int 2)]) (st' := [.int 2]) rfl rfl ?_
    refine rn_p (pc' := 4) (lv' := [(0, .int 2)]) (st' := []) rfl rfl ?_
    refine rn_p (pc' := 5) (lv' := [(0, .int 2)]) (st' := [.int 2]) rfl rfl ?_
    refine rn_p (pc' := 6) (lv' := [(0, .int 2)]) (st' := [.int 3, .int 2]) rfl rfl ?_
    refine rn_p (pc' := 9) (lv' := [(0, .int 2)]) (st' := []) rfl rfl ?_
    refine rn_p (pc' := 10) (lv' := [(0, .int 2)]) (st' := [.int 1]) rfl rfl ?_
    refine rn_p (pc' := 14) (lv' := [(0, .int 2)]) (st' := [.int 1]) rfl rfl ?_
    exact rn_r rfl rfl
  refine rn_p (pc' := 7) (lv' := [(0, .ref 0), (1, .int 2), (2, .int c)]) (st' := []) rfl rfl ?_
  refine rn_p (pc' := 8) (lv' := [(0, .ref 0), (1, .int 2), (2, .int c)]) (st' := [.ref 0]) rfl rfl ?_
  refine rn_p (pc' := 11) (lv' := [(0, .ref 0), (1, .int 2), (2, .int c)]) (st' := [.ref 2]) rfl rfl ?_
  refine rn_p (pc' := 12) (lv' := [(0, .ref 0), (1, .int 2), (2, .int c)]) (st' := [.int 2, .ref 2]) rfl rfl ?_
  refine rn_p (pc' := 13) (lv' := [(0, .ref 0), (1, .int 2), (2, .int c)]) (st' := [.ref 9]) rfl rfl ?_
  refine rn_p (pc' := 14) (lv' := [(0, .ref 0), (1, .int 2), (2, .int c)]) (st' := [.int c, .ref 9]) rfl rfl ?_
  refine rn_cv (As := [.ref 9, .int c]) (r := []) (v := (some (.int 0))) (g := hp0) (st2 := [.int 0]) (pc' := 17) rfl rfl rfl rfl ?_ ?_
  · refine rn_p (pc' := 1) (lv' := [(0, .ref 9), (1, .int c)]) (st' := [.ref 9]) rfl rfl ?_
    refine rn_p (pc' := 2) (lv' := [(0, .ref 9), (1, .int c)]) (st' := [.int c, .ref 9]) rfl rfl ?_
    refine rn_cv (As := [.ref 9, .int c]) (r := []) (v := (some (.int 0))) (g := hp0) (st2 := [.int 0]) (pc' := 5) rfl rfl rfl rfl ?_ ?_
    · refine rn_p (pc' := 1) (lv' := [(0, .ref 9), (1, .int c)]) (st' := [.int c]) rfl rfl ?_
      refine rn_f (pc' := 4) (lv' := [(0, .ref 9), (1, .int c)]) (st' := []) rfl rfl h2 ?_
      refine rn_p (pc' := 5) (lv' := [(0, .ref 9), (1, .int c)]) (st' := [.int c]) rfl rfl ?_
      refine rn_p (pc' := 6) (lv' := [(0, .ref 9), (1, .int c)]) (st' := [.ref 9, .int c]) rfl rfl ?_
      refine rn_p (pc' := 9) (lv' := [(0, .ref 9), (1, .int c)]) (st' := [.int 0, .int c]) rfl rfl ?_
      refine rn_t (pc' := 16) (lv' := [(0, .ref 9), (1, .int c)]) (st' := []) rfl rfl (t_ge0 h2) ?_
      refine rn_p (pc' := 17) (lv' := [(0, .ref 9), (1, .int c)]) (st' := [.int 0]) rfl rfl ?_
      exact rn_r rfl rfl
    refine rn_p (pc' := 21) (lv' := [(0, .ref 9), (1, .int c)]) (st' := []) rfl rfl ?_
    refine rn_p (pc' := 22) (lv' := [(0, .ref 9), (1, .int c)]) (st' := [.int 0]) rfl rfl ?_
    exact rn_r rfl rfl
  refine rn_p (pc' := 24) (lv' := [(0, .ref 0), (1, .int 2), (2, .int c)]) (st' := []) rfl rfl ?_
  refine rn_p (pc' := 25) (lv' := [(0, .ref 0), (1, .int 2), (2, .int c)]) (st' := [.int 0]) rfl rfl ?_
  exact rn_r rfl rfl
theorem fx_indexed_2 (c : Int32) : sm_run none 8 13 0 (lv_args 0 [.ref 0, .int 2, .int c]) [] hp0 (some (.int 0), hp0) := by
  by_cases h2 : c < 0
  · exact fx_indexed_2a c h2
  · exact fx_indexed_2b c h2
set_option maxRecDepth 20000 in
theorem fx_indexed (t c : Int32) : sm_run none 8 13 0 (lv_args 0 [.ref 0, .int t, .int c]) [] hp0 (some (.int 0), hp0) := by
  rcases pk_ix t (n := 3) (by decide) with h1 | h1 | ⟨j, hj, rfl⟩
  · exact fx_indexed_n t c h1
  · exact fx_indexed_h t c h1
  · rcases (show j = 0 ∨ j = 1 ∨ j = 2 by omega) with rfl | rfl | rfl
    · exact fx_indexed_0 c
    · exact fx_indexed_1 c
    · exact fx_indexed_2 c
set_option maxRecDepth 20000 in
theorem fx_cell_n (t k c : Int32) (h1 : t < 0) : sm_run none 8 14 0 (lv_args 0 [.ref 0, .int t, .int k, .int c]) [] hp0 (some (.long 2199023255552), hp0) := by
  refine rn_p (pc' := 1) (lv' := [(0, .ref 0), (1, .int t), (2, .int k), (3, .int c)]) (st' := [.int t]) rfl rfl ?_
  refine rn_cs (As := [.int t]) (r := []) (v := (some (.int 0))) (g := hp0) (st2 := [.int 0]) (pc' := 4) rfl rfl rfl rfl rfl ?_ ?_
  · refine rn_p (pc' := 1) (lv' := [(0, .int t)]) (st' := [.int t]) rfl rfl ?_
    refine rn_t (pc' := 13) (lv' := [(0, .int t)]) (st' := []) rfl rfl h1 ?_
    refine rn_p (pc' := 14) (lv' := [(0, .int t)]) (st' := [.int 0]) rfl rfl ?_
    exact rn_r rfl rfl
  refine rn_p (pc' := 21) (lv' := [(0, .ref 0), (1, .int t), (2, .int k), (3, .int c)]) (st' := []) rfl rfl ?_
  refine rn_p (pc' := 24) (lv' := [(0, .ref 0), (1, .int t), (2, .int k), (3, .int c)]) (st' := [.long 2199023255552]) rfl rfl ?_
  exact rn_r rfl rfl
set_option maxRecDepth 20000 in
theorem fx_cell_h (t k c : Int32) (h1 : 3 ≤ t) : sm_run none 8 14 0 (lv_args 0 [.ref 0, .int t, .int k, .int c]) [] hp0 (some (.long 2199023255552), hp0) := by
  refine rn_p (pc' := 1) (lv' := [(0, .ref 0), (1, .int t), (2, .int k), (3, .int c)]) (st' := [.int t]) rfl rfl ?_
  refine rn_cs (As := [.int t]) (r := []) (v := (some (.int 0))) (g := hp0) (st2 := [.int 0]) (pc' := 4) rfl rfl rfl rfl rfl ?_ ?_
  · refine rn_p (pc' := 1) (lv' := [(0, .int t)]) (st' := [.int t]) rfl rfl ?_
    refine rn_f (pc' := 4) (lv' := [(0, .int t)]) (st' := []) rfl rfl (t3_hi h1).1 ?_
    refine rn_p (pc' := 5) (lv' := [(0, .int t)]) (st' := [.int t]) rfl rfl ?_
    refine rn_p (pc' := 6) (lv' := [(0, .int t)]) (st' := [.int 3, .int t]) rfl rfl ?_
    refine rn_t (pc' := 13) (lv' := [(0, .int t)]) (st' := []) rfl rfl h1 ?_
    refine rn_p (pc' := 14) (lv' := [(0, .int t)]) (st' := [.int 0]) rfl rfl ?_
    exact rn_r rfl rfl
  refine rn_p (pc' := 21) (lv' := [(0, .ref 0), (1, .int t), (2, .int k), (3, .int c)]) (st' := []) rfl rfl ?_
  refine rn_p (pc' := 24) (lv' := [(0, .ref 0), (1, .int t), (2, .int k), (3, .int c)]) (st' := [.long 2199023255552]) rfl rfl ?_
  exact rn_r rfl rfl
set_option maxRecDepth 20000 in
theorem fx_cell_0a (k c : Int32) (h2 : k < 0) : sm_run none 8 14 0 (lv_args 0 [.ref 0, .int 0, .int k, .int c]) [] hp0 (some (.long 2199023255552), hp0) := by
  refine rn_p (pc' := 1) (lv' := [(0, .ref 0), (1, .int 0), (2, .int k), (3, .int c)]) (st' := [.int 0]) rfl rfl ?_
  refine rn_cs (As := [.int 0]) (r := []) (v := (some (.int 1))) (g := hp0) (st2 := [.int 1]) (pc' := 4) rfl rfl rfl rfl rfl ?_ ?_
  · refine rn_p (pc' := 1) (lv' := [(0, .int 0)]) (st' := [.int 0]) rfl rfl ?_
    refine rn_p (pc' := 4) (lv' := [(0, .int 0)]) (st' := []) rfl rfl ?_
    refine rn_p (pc' := 5) (lv' := [(0, .int 0)]) (st' := [.int 0]) rfl rfl ?_
    refine rn_p (pc' := 6) (lv' := [(0, .int 0)]) (st' := [.int 3, .int 0]) rfl rfl ?_
    refine rn_p (pc' := 9) (lv' := [(0, .int 0)]) (st' := []) rfl rfl ?_
    refine rn_p (pc' := 10) (lv' := [(0, .int 0)]) (st' := [.int 1]) rfl rfl ?_
    refine rn_p (pc' := 14) (lv' := [(0, .int 0)]) (st' := [.int 1]) rfl rfl ?_
    exact rn_r rfl rfl
  refine rn_p (pc' := 7) (lv' := [(0, .ref 0), (1, .int 0), (2, .int k), (3, .int c)]) (st' := []) rfl rfl ?_
  refine rn_p (pc' := 8) (lv' := [(0, .ref 0), (1, .int 0), (2, .int k), (3, .int c)]) (st' := [.ref 0]) rfl rfl ?_
  refine rn_p (pc' := 11) (lv' := [(0, .ref 0), (1, .int 0), (2, .int k), (3, .int c)]) (st' := [.ref 2]) rfl rfl ?_
  refine rn_p (pc' := 12) (lv' := [(0, .ref 0), (1, .int 0), (2, .int k), (3, .int c)]) (st' := [.int 0, .ref 2]) rfl rfl ?_
  refine rn_p (pc' := 13) (lv' := [(0, .ref 0), (1, .int 0), (2, .int k), (3, .int c)]) (st' := [.ref 3]) rfl rfl ?_
  refine rn_p (pc' := 14) (lv' := [(0, .ref 0), (1, .int 0), (2, .int k), (3, .int c)]) (st' := [.int k, .ref 3]) rfl rfl ?_
  refine rn_p (pc' := 15) (lv' := [(0, .ref 0), (1, .int 0), (2, .int k), (3, .int c)]) (st' := [.int c, .int k, .ref 3]) rfl rfl ?_
  refine rn_cv (As := [.ref 3, .int k, .int c]) (r := []) (v := (some (.long 2199023255552))) (g := hp0) (st2 := [.long 2199023255552]) (pc' := 18) rfl rfl rfl rfl ?_ ?_
  · refine rn_p (pc' := 1) (lv' := [(0, .ref 3), (1, .int k), (2, .int c)]) (st' := [.int k]) rfl rfl ?_
    refine rn_t (pc' := 28) (lv' := [(0, .ref 3), (1, .int k), (2, .int c)]) (st' := []) rfl rfl h2 ?_
    refine rn_p (pc' := 29) (lv' := [(0, .ref 3), (1, .int k), (2, .int c)]) (st' := [.int 0]) rfl rfl ?_
    refine rn_p (pc' := 30) (lv' := [(3, .int 0), (0, .ref 3), (1, .int k), (2, .int c)]) (st' := []) rfl rfl ?_
    refine rn_p (pc' := 31) (lv' := [(3, .int 0), (0, .ref 3), (1, .int k), (2, .int c)]) (st' := [.int 0]) rfl rfl ?_
    refine rn_p (pc' := 47) (lv' := [(3, .int 0), (0, .ref 3), (1, .int k), (2, .int c)]) (st' := []) rfl rfl ?_
    refine rn_p (pc' := 50) (lv' := [(3, .int 0), (0, .ref 3), (1, .int k), (2, .int c)]) (st' := [.long 2199023255552]) rfl rfl ?_
    exact rn_r rfl rfl
  refine rn_p (pc' := 24) (lv' := [(0, .ref 0), (1, .int 0), (2, .int k), (3, .int c)]) (st' := [.long 2199023255552]) rfl rfl ?_
  exact rn_r rfl rfl
set_option maxRecDepth 20000 in
theorem fx_cell_0b (k c : Int32) (h2 : ¬ k < 0) : sm_run none 8 14 0 (lv_args 0 [.ref 0, .int 0, .int k, .int c]) [] hp0 (some (.long 2199023255552), hp0) := by
  refine rn_p (pc' := 1) (lv' := [(0, .ref 0), (1, .int 0), (2, .int k), (3, .int c)]) (st' := [.int 0]) rfl rfl ?_
  refine rn_cs (As := [.int 0]) (r := []) (v := (some (.int 1))) (g := hp0) (st2 := [.int 1]) (pc' := 4) rfl rfl rfl rfl rfl ?_ ?_
  · refine rn_p (pc' := 1) (lv' := [(0, .int 0)]) (st' := [.int 0]) rfl rfl ?_
    refine rn_p (pc' := 4) (lv' := [(0, .int 0)]) (st' := []) rfl rfl ?_
    refine rn_p (pc' := 5) (lv' := [(0, .int 0)]) (st' := [.int 0]) rfl rfl ?_
    refine rn_p (pc' := 6) (lv' := [(0, .int 0)]) (st' := [.int 3, .int 0]) rfl rfl ?_
    refine rn_p (pc' := 9) (lv' := [(0, .int 0)]) (st' := []) rfl rfl ?_
    refine rn_p (pc' := 10) (lv' := [(0, .int 0)]) (st' := [.int 1]) rfl rfl ?_
    refine rn_p (pc' := 14) (lv' := [(0, .int 0)]) (st' := [.int 1]) rfl rfl ?_
    exact rn_r rfl rfl
  refine rn_p (pc' := 7) (lv' := [(0, .ref 0), (1, .int 0), (2, .int k), (3, .int c)]) (st' := []) rfl rfl ?_
  refine rn_p (pc' := 8) (lv' := [(0, .ref 0), (1, .int 0), (2, .int k), (3, .int c)]) (st' := [.ref 0]) rfl rfl ?_
  refine rn_p (pc' := 11) (lv' := [(0, .ref 0), (1, .int 0), (2, .int k), (3, .int c)]) (st' := [.ref 2]) rfl rfl ?_
  refine rn_p (pc' := 12) (lv' := [(0, .ref 0), (1, .int 0), (2, .int k), (3, .int c)]) (st' := [.int 0, .ref 2]) rfl rfl ?_
  refine rn_p (pc' := 13) (lv' := [(0, .ref 0), (1, .int 0), (2, .int k), (3, .int c)]) (st' := [.ref 3]) rfl rfl ?_
  refine rn_p (pc' := 14) (lv' := [(0, .ref 0), (1, .int 0), (2, .int k), (3, .int c)]) (st' := [.int k, .ref 3]) rfl rfl ?_
  refine rn_p (pc' := 15) (lv' := [(0, .ref 0), (1, .int 0), (2, .int k), (3, .int c)]) (st' := [.int c, .int k, .ref 3]) rfl rfl ?_
  refine rn_cv (As := [.ref 3, .int k, .int c]) (r := []) (v := (some (.long 2199023255552))) (g := hp0) (st2 := [.long 2199023255552]) (pc' := 18) rfl rfl rfl rfl ?_ ?_
  · refine rn_p (pc' := 1) (lv' := [(0, .ref 3), (1, .int k), (2, .int c)]) (st' := [.int k]) rfl rfl ?_
    refine rn_f (pc' := 4) (lv' := [(0, .ref 3), (1, .int k), (2, .int c)]) (st' := []) rfl rfl h2 ?_
    refine rn_p (pc' := 5) (lv' := [(0, .ref 3), (1, .int k), (2, .int c)]) (st' := [.int k]) rfl rfl ?_
    refine rn_p (pc' := 6) (lv' := [(0, .ref 3), (1, .int k), (2, .int c)]) (st' := [.ref 3, .int k]) rfl rfl ?_
    refine rn_p (pc' := 9) (lv' := [(0, .ref 3), (1, .int k), (2, .int c)]) (st' := [.int 0, .int k]) rfl rfl ?_
    refine rn_t (pc' := 28) (lv' := [(0, .ref 3), (1, .int k), (2, .int c)]) (st' := []) rfl rfl (t_ge0 h2) ?_
    refine rn_p (pc' := 29) (lv' := [(0, .ref 3), (1, .int k), (2, .int c)]) (st' := [.int 0]) rfl rfl ?_
    refine rn_p (pc' := 30) (lv' := [(3, .int 0), (0, .ref 3), (1, .int k), (2, .int c)]) (st' := []) rfl rfl ?_
    refine rn_p (pc' := 31) (lv' := [(3, .int 0), (0, .ref 3), (1, .int k), (2, .int c)]) (st' := [.int 0]) rfl rfl ?_
    refine rn_p (pc' := 47) (lv' := [(3, .int 0), (0, .ref 3), (1, .int k), (2, .int c)]) (st' := []) rfl rfl ?_
    refine rn_p (pc' := 50) (lv' := [(3, .int 0), (0, .ref 3), (1, .int k), (2, .int c)]) (st' := [.long 2199023255552]) rfl rfl ?_
    exact rn_r rfl rfl
  refine rn_p (pc' := 24) (lv' := [(0, .ref 0), (1, .int 0), (2, .int k), (3, .int c)]) (st' := [.long 2199023255552]) rfl rfl ?_
  exact rn_r rfl rfl
theorem fx_cell_0 (k c : Int32) : sm_run none 8 14 0 (lv_args 0 [.ref 0, .int 0, .int k, .int c]) [] hp0 (some (.long 2199023255552), hp0) := by
  by_cases h2 : k < 0
  · exact fx_cell_0a k c h2
  · exact fx_cell_0b k c h2
set_option maxRecDepth 20000 in
theorem fx_cell_1a (k c : Int32) (h2 : k < 0) : sm_run none 8 14 0 (lv_args 0 [.ref 0, .int 1, .int k, .int c]) [] hp0 (some (.long 2199023255552), hp0) := by
  refine rn_p (pc' := 1) (lv' := [(0, .ref 0), (1, .int 1), (2, .int k), (3, .int c)]) (st' := [.int 1]) rfl rfl ?_
  refine rn_cs (As := [.int 1]) (r := []) (v := (some (.int 1))) (g := hp0) (st2 := [.int 1]) (pc' := 4) rfl rfl rfl rfl rfl ?_ ?_
  · refine rn_p (pc' := 1) (lv' := [(0, .int 1)]) (st' := [.int 1]) rfl rfl ?_
    refine rn_p (pc' := 4) (lv' := [(0, .int 1)]) (st' := []) rfl rfl ?_
    refine rn_p (pc' := 5) (lv' := [(0, .int 1)]) (st' := [.int 1]) rfl rfl ?_
    refine rn_p (pc' := 6) (lv' := [(0, .int 1)]) (st' := [.int 3, .int 1]) rfl rfl ?_
    refine rn_p (pc' := 9) (lv' := [(0, .int 1)]) (st' := []) rfl rfl ?_
    refine rn_p (pc' := 10) (lv' := [(0, .int 1)]) (st' := [.int 1]) rfl rfl ?_
    refine rn_p (pc' := 14) (lv' := [(0, .int 1)]) (st' := [.int 1]) rfl rfl ?_
    exact rn_r rfl rfl
  refine rn_p (pc' := 7) (lv' := [(0, .ref 0), (1, .int 1), (2, .int k), (3, .int c)]) (st' := []) rfl rfl ?_
  refine rn_p (pc' := 8) (lv' := [(0, .ref 0), (1, .int 1), (2, .int k), (3, .int c)]) (st' := [.ref 0]) rfl rfl ?_
  refine rn_p (pc' := 11) (lv' := [(0, .ref 0), (1, .int 1), (2, .int k), (3, .int c)]) (st' := [.ref 2]) rfl rfl ?_
  refine rn_p (pc' := 12) (lv' := [(0, .ref 0), (1, .int 1), (2, .int k), (3, .int c)]) (st' := [.int 1, .ref 2]) rfl rfl ?_
  refine rn_p (pc' := 13) (lv' := [(0, .ref 0), (1, .int 1), (2, .int k), (3, .int c)]) (st' := [.ref 6]) rfl rfl ?_
  refine rn_p (pc' := 14) (lv' := [(0, .ref 0), (1, .int 1), (2, .int k), (3, .int c)]) (st' := [.int k, .ref 6]) rfl rfl ?_
  refine rn_p (pc' := 15) (lv' := [(0, .ref 0), (1, .int 1), (2, .int k), (3, .int c)]) (st' := [.int c, .int k, .ref 6]) rfl rfl ?_
  refine rn_cv (As := [.ref 6, .int k, .int c]) (r := []) (v := (some (.long 2199023255552))) (g := hp0) (st2 := [.long 2199023255552]) (pc' := 18) rfl rfl rfl rfl ?_ ?_
  · refine rn_p (pc' := 1) (lv' := [(0, .ref 6), (1, .int k), (2, .int c)]) (st' := [.int k]) rfl rfl ?_
    refine rn_t (pc' := 28) (lv' := [(0, .ref 6), (1, .int k), (2, .int c)]) (st' := []) rfl rfl h2 ?_
    refine rn_p (pc' := 29) (lv' := [(0, .ref 6), (1, .int k), (2, .int c)]) (st' := [.int 0]) rfl rfl ?_
    refine rn_p (pc' := 30) (lv' := [(3, .int 0), (0, .ref 6), (1, .int k), (2, .int c)]) (st' := []) rfl rfl ?_
    refine rn_p (pc' := 31) (lv' := [(3, .int 0), (0, .ref 6), (1, .int k), (2, .int c)]) (st' := [.int 0]) rfl rfl ?_
    refine rn_p (pc' := 47) (lv' := [(3, .int 0), (0, .ref 6), (1, .int k), (2, .int c)]) (st' := []) rfl rfl ?_
    refine rn_p (pc' := 50) (lv' := [(3, .int 0), (0, .ref 6), (1, .int k), (2, .int c)]) (st' := [.long 2199023255552]) rfl rfl ?_
    exact rn_r rfl rfl
  refine rn_p (pc' := 24) (lv' := [(0, .ref 0), (1, .int 1), (2, .int k), (3, .int c)]) (st' := [.long 2199023255552]) rfl rfl ?_
  exact rn_r rfl rfl
set_option maxRecDepth 20000 in
theorem fx_cell_1b (k c : Int32) (h2 : ¬ k < 0) : sm_run none 8 14 0 (lv_args 0 [.ref 0, .int 1, .int k, .int c]) [] hp0 (some (.long 2199023255552), hp0) := by
  refine rn_p (pc' := 1) (lv' := [(0, .ref 0), (1, .int 1), (2, .int k), (3, .int c)]) (st' := [.int 1]) rfl rfl ?_
  refine rn_cs (As := [.int 1]) (r := []) (v := (some (.int 1))) (g := hp0) (st2 := [.int 1]) (pc' := 4) rfl rfl rfl rfl rfl ?_ ?_
  · refine rn_p (pc' := 1) (lv' := [(0, .int 1)]) (st' := [.int 1]) rfl rfl ?_
    refine rn_p (pc' := 4) (lv' := [(0, .int 1)]) (st' := []) rfl rfl ?_
    refine rn_p (pc' := 5) (lv' := [(0, .int 1)]) (st' := [.int 1]) rfl rfl ?_
    refine rn_p (pc' := 6) (lv' := [(0, .int 1)]) (st' := [.int 3, .int 1]) rfl rfl ?_
    refine rn_p (pc' := 9) (lv' := [(0, .int 1)]) (st' := []) rfl rfl ?_
    refine rn_p (pc' := 10) (lv' := [(0, .int 1)]) (st' := [.int 1]) rfl rfl ?_
    refine rn_p (pc' := 14) (lv' := [(0, .int 1)]) (st' := [.int 1]) rfl rfl ?_
    exact rn_r rfl rfl
  refine rn_p (pc' := 7) (lv' := [(0, .ref 0), (1, .int 1), (2, .int k), (3, .int c)]) (st' := []) rfl rfl ?_
  refine rn_p (pc' := 8) (lv' := [(0, .ref 0), (1, .int 1), (2, .int k), (3, .int c)]) (st' := [.ref 0]) rfl rfl ?_
  refine rn_p (pc' := 11) (lv' := [(0, .ref 0), (1, .int 1), (2, .int k), (3, .int c)]) (st' := [.ref 2]) rfl rfl ?_
  refine rn_p (pc' := 12) (lv' := [(0, .ref 0), (1, .int 1), (2, .int k), (3, .int c)]) (st' := [.int 1, .ref 2]) rfl rfl ?_
  refine rn_p (pc' := 13) (lv' := [(0, .ref 0), (1, .int 1), (2, .int k), (3, .int c)]) (st' := [.ref 6]) rfl rfl ?_
  refine rn_p (pc' := 14) (lv' := [(0, .ref 0), (1, .int 1), (2, .int k), (3, .int c)]) (st' := [.int k, .ref 6]) rfl rfl ?_
  refine rn_p (pc' := 15) (lv' := [(0, .ref 0), (1, .int 1), (2, .int k), (3, .int c)]) (st' := [.int c, .int k, .ref 6]) rfl rfl ?_
  refine rn_cv (As := [.ref 6, .int k, .int c]) (r := []) (v := (some (.long 2199023255552))) (g := hp0) (st2 := [.long 2199023255552]) (pc' := 18) rfl rfl rfl rfl ?_ ?_
  · refine rn_p (pc' := 1) (lv' := [(0, .ref 6), (1, .int k), (2, .int c)]) (st' := [.int k]) rfl rfl ?_
    refine rn_f (pc' := 4) (lv' := [(0, .ref 6), (1, .int k), (2, .int c)]) (st' := []) rfl rfl h2 ?_
    refine rn_p (pc' := 5) (lv' := [(0, .ref 6), (1, .int k), (2, .int c)]) (st' := [.int k]) rfl rfl ?_
    refine rn_p (pc' := 6) (lv' := [(0, .ref 6), (1, .int k), (2, .int c)]) (st' := [.ref 6, .int k]) rfl rfl ?_
    refine rn_p (pc' := 9) (lv' := [(0, .ref 6), (1, .int k), (2, .int c)]) (st' := [.int 0, .int k]) rfl rfl ?_
    refine rn_t (pc' := 28) (lv' := [(0, .ref 6), (1, .int k), (2, .int c)]) (st' := []) rfl rfl (t_ge0 h2) ?_
    refine rn_p (pc' := 29) (lv' := [(0, .ref 6), (1, .int k), (2, .int c)]) (st' := [.int 0]) rfl rfl ?_
    refine rn_p (pc' := 30) (lv' := [(3, .int 0), (0, .ref 6), (1, .int k), (2, .int c)]) (st' := []) rfl rfl ?_
    refine rn_p (pc' := 31) (lv' := [(3, .int 0), (0, .ref 6), (1, .int k), (2, .int c)]) (st' := [.int 0]) rfl rfl ?_
    refine rn_p (pc' := 47) (lv' := [(3, .int 0), (0, .ref 6), (1, .int k), (2, .int c)]) (st' := []) rfl rfl ?_
    refine rn_p (pc' := 50) (lv' := [(3, .int 0), (0, .ref 6), (1, .int k), (2, .int c)]) (st' := [.long 2199023255552]) rfl rfl ?_
    exact rn_r rfl rfl
  refine rn_p (pc' := 24) (lv' := [(0, .ref 0), (1, .int 1), (2, .int k), (3, .int c)]) (st' := [.long 2199023255552]) rfl rfl ?_
  exact rn_r rfl rfl
theorem fx_cell_1 (k c : Int32) : sm_run none 8 14 0 (lv_args 0 [.ref 0, .int 1, .int k, .int c]) [] hp0 (some (.long 2199023255552), hp0) := by
  by_cases h2 : k < 0
  · exact fx_cell_1a k c h2
  · exact fx_cell_1b k c h2
set_option maxRecDepth 20000 in
theorem fx_cell_2a (k c : Int32) (h2 : k < 0) : sm_run none 8 14 0 (lv_args 0 [.ref 0, .int 2, .int k, .int c]) [] hp0 (some (.long 2199023255552), hp0) := by
  refine rn_p (pc' := 1) (lv' := [(0, .ref 0), (1, .int 2), (2, .int k), (3, .int c)]) (st' := [.int 2]) rfl rfl ?_
  refine rn_cs (As := [.int 2]) (r := []) (v := (some (.int 1))) (g := hp0) (st2 := [.int 1]) (pc' := 4) rfl rfl rfl rfl rfl ?_ ?_
  · refine rn_p (pc' := 1) (lv' := [(0, .int 2)]) (st' := [.int 2]) rfl rfl ?_
    refine rn_p (pc' := 4) (lv' := [(0, .int 2)]) (st' := []) rfl rfl ?_
    refine rn_p (pc' := 5) (lv' := [(0, .int 2)]) (st' := [.int 2]) rfl rfl ?_
    refine rn_p (pc' := 6) (lv' := [(0, .int 2)]) (st' := [.int 3, .int 2]) rfl rfl ?_
    refine rn_p (pc' := 9) (lv' := [(0, .int 2)]) (st' := []) rfl rfl ?_
    refine rn_p (pc' := 10) (lv' := [(0, .int 2)]) (st' := [.int 1]) rfl rfl ?_
    refine rn_p (pc' := 14) (lv' := [(0, .int 2)]) (st' := [.int 1]) rfl rfl ?_
    exact rn_r rfl rfl
  refine rn_p (pc' := 7) (lv' := [(0, .ref 0), (1, .int 2), (2, .int k), (3, .int c)]) (st' := []) rfl rfl ?_
  refine rn_p (pc' := 8) (lv' := [(0, .ref 0), (1, .int 2), (2, .int k), (3, .int c)]) (st' := [.ref 0]) rfl rfl ?_
  refine rn_p (pc' := 11) (lv' := [(0, .ref 0), (1, .int 2), (2, .int k), (3, .int c)]) (st' := [.ref 2]) rfl rfl ?_
  refine rn_p (pc' := 12) (lv' := [(0, .ref 0), (1, .int 2), (2, .int k), (3, .int c)]) (st' := [.int 2, .ref 2]) rfl rfl ?_
  refine rn_p (pc' := 13) (lv' := [(0, .ref 0), (1, .int 2), (2, .int k), (3, .int c)]) (st' := [.ref 9]) rfl rfl ?_
  refine rn_p (pc' := 14) (lv' := [(0, .ref 0), (1, .int 2), (2, .int k), (3, .int c)]) (st' := [.int k, .ref 9]) rfl rfl ?_
  refine rn_p (pc' := 15) (lv' := [(0, .ref 0), (1, .int 2), (2, .int k), (3, .int c)]) (st' := [.int c, .int k, .ref 9]) rfl rfl ?_
  refine rn_cv (As := [.ref 9, .int k, .int c]) (r := []) (v := (some (.long 2199023255552))) (g := hp0) (st2 := [.long 2199023255552]) (pc' := 18) rfl rfl rfl rfl ?_ ?_
  · refine rn_p (pc' := 1) (lv' := [(0, .ref 9), (1, .int k), (2, .int c)]) (st' := [.int k]) rfl rfl ?_
    refine rn_t (pc' := 28) (lv' := [(0, .ref 9), (1, .int k), (2, .int c)]) (st' := []) rfl rfl h2 ?_
    refine rn_p (pc' := 29) (lv' := [(0, .ref 9), (1, .int k), (2, .int c)]) (st' := [.int 0]) rfl rfl ?_
    refine rn_p (pc' := 30) (lv' := [(3, .int 0), (0, .ref 9), (1, .int k), (2, .int c)]) (st' := []) rfl rfl ?_
    refine rn_p (pc' := 31) (lv' := [(3, .int 0), (0, .ref 9), (1, .int k), (2, .int c)]) (st' := [.int 0]) rfl rfl ?_
    refine rn_p (pc' := 47) (lv' := [(3, .int 0), (0, .ref 9), (1, .int k), (2, .int c)]) (st' := []) rfl rfl ?_
    refine rn_p (pc' := 50) (lv' := [(3, .int 0), (0, .ref 9), (1, .int k), (2, .int c)]) (st' := [.long 2199023255552]) rfl rfl ?_
    exact rn_r rfl rfl
  refine rn_p (pc' := 24) (lv' := [(0, .ref 0), (1, .int 2), (2, .int k), (3, .int c)]) (st' := [.long 2199023255552]) rfl rfl ?_
  exact rn_r rfl rfl
set_option maxRecDepth 20000 in
theorem fx_cell_2b (k c : Int32) (h2 : ¬ k < 0) : sm_run none 8 14 0 (lv_args 0 [.ref 0, .int 2, .int k, .int c]) [] hp0 (some (.long 2199023255552), hp0) := by
  refine rn_p (pc' := 1) (lv' := [(0, .ref 0), (1, .int 2), (2, .int k), (3, .int c)]) (st' := [.int 2]) rfl rfl ?_
  refine rn_cs (As := [.int 2]) (r := []) (v := (some (.int 1))) (g := hp0) (st2 := [.int 1]) (pc' := 4) rfl rfl rfl rfl rfl ?_ ?_
  · refine rn_p (pc' := 1) (lv' := [(0, .int 2)]) (st' := [.int 2]) rfl rfl ?_
    refine rn_p (pc' := 4) (lv' := [(0, .int 2)]) (st' := []) rfl rfl ?_
    refine rn_p (pc' := 5) (lv' := [(0, .int 2)]) (st' := [.int 2]) rfl rfl ?_
    refine rn_p (pc' := 6) (lv' := [(0, .int 2)]) (st' := [.int 3, .int 2]) rfl rfl ?_
    refine rn_p (pc' := 9) (lv' := [(0, .int 2)]) (st' := []) rfl rfl ?_
    refine rn_p (pc' := 10) (lv' := [(0, .int 2)]) (st' := [.int 1]) rfl rfl ?_
    refine rn_p (pc' := 14) (lv' := [(0, .int 2)]) (st' := [.int 1]) rfl rfl ?_
    exact rn_r rfl rfl
  refine rn_p (pc' := 7) (lv' := [(0, .ref 0), (1, .int 2), (2, .int k), (3, .int c)]) (st' := []) rfl rfl ?_
  refine rn_p (pc' := 8) (lv' := [(0, .ref 0), (1, .int 2), (2, .int k), (3, .int c)]) (st' := [.ref 0]) rfl rfl ?_
  refine rn_p (pc' := 11) (lv' := [(0, .ref 0), (1, .int 2), (2, .int k), (3, .int c)]) (st' := [.ref 2]) rfl rfl ?_
  refine rn_p (pc' := 12) (lv' := [(0, .ref 0), (1, .int 2), (2, .int k), (3, .int c)]) (st' := [.int 2, .ref 2]) rfl rfl ?_
  refine rn_p (pc' := 13) (lv' := [(0, .ref 0), (1, .int 2), (2, .int k), (3, .int c)]) (st' := [.ref 9]) rfl rfl ?_
  refine rn_p (pc' := 14) (lv' := [(0, .ref 0), (1, .int 2), (2, .int k), (3, .int c)]) (st' := [.int k, .ref 9]) rfl rfl ?_
  refine rn_p (pc' := 15) (lv' := [(0, .ref 0), (1, .int 2), (2, .int k), (3, .int c)]) (st' := [.int c, .int k, .ref 9]) rfl rfl ?_
  refine rn_cv (As := [.ref 9, .int k, .int c]) (r := []) (v := (some (.long 2199023255552))) (g := hp0) (st2 := [.long 2199023255552]) (pc' := 18) rfl rfl rfl rfl ?_ ?_
  · refine rn_p (pc' := 1) (lv' := [(0, .ref 9), (1, .int k), (2, .int c)]) (st' := [.int k]) rfl rfl ?_
    refine rn_f (pc' := 4) (lv' := [(0, .ref 9), (1, .int k), (2, .int c)]) (st' := []) rfl rfl h2 ?_
    refine rn_p (pc' := 5) (lv' := [(0, .ref 9), (1, .int k), (2, .int c)]) (st' := [.int k]) rfl rfl ?_
    refine rn_p (pc' := 6) (lv' := [(0, .ref 9), (1, .int k), (2, .int c)]) (st' := [.ref 9, .int k]) rfl rfl ?_
    refine rn_p (pc' := 9) (lv' := [(0, .ref 9), (1, .int k), (2, .int c)]) (st' := [.int 0, .int k]) rfl rfl ?_
    refine rn_t (pc' := 28) (lv' := [(0, .ref 9), (1, .int k), (2, .int c)]) (st' := []) rfl rfl (t_ge0 h2) ?_
    refine rn_p (pc' := 29) (lv' := [(0, .ref 9), (1, .int k), (2, .int c)]) (st' := [.int 0]) rfl rfl ?_
    refine rn_p (pc' := 30) (lv' := [(3, .int 0), (0, .ref 9), (1, .int k), (2, .int c)]) (st' := []) rfl rfl ?_
    refine rn_p (pc' := 31) (lv' := [(3, .int 0), (0, .ref 9), (1, .int k), (2, .int c)]) (st' := [.int 0]) rfl rfl ?_
    refine rn_p (pc' := 47) (lv' := [(3, .int 0), (0, .ref 9), (1, .int k), (2, .int c)]) (st' := []) rfl rfl ?_
    refine rn_p (pc' := 50) (lv' := [(3, .int 0), (0, .ref 9), (1, .int k), (2, .int c)]) (st' := [.long 2199023255552]) rfl rfl ?_
    exact rn_r rfl rfl
  refine rn_p (pc' := 24) (lv' := [(0, .ref 0), (1, .int 2), (2, .int k), (3, .int c)]) (st' := [.long 2199023255552]) rfl rfl ?_
  exact rn_r rfl rfl
theorem fx_cell_2 (k c : Int32) : sm_run none 8 14 0 (lv_args 0 [.ref 0, .int 2, .int k, .int c]) [] hp0 (some (.long 2199023255552), hp0) := by
  by_cases h2 : k < 0
  · exact fx_cell_2a k c h2
  · exact fx_cell_2b k c h2
set_option maxRecDepth 20000 in
theorem fx_cell (t k c : Int32) : sm_run none 8 14 0 (lv_args 0 [.ref 0, .int t, .int k, .int c]) [] hp0 (some (.long 2199023255552), hp0) := by
  rcases pk_ix t (n := 3) (by decide) with h1 | h1 | ⟨j, hj, rfl⟩
  · exact fx_cell_n t k c h1
  · exact fx_cell_h t k c h1
  · rcases (show j = 0 ∨ j = 1 ∨ j = 2 by omega) with rfl | rfl | rfl
    · exact fx_cell_0 k c
    · exact fx_cell_1 k c
    · exact fx_cell_2 k c
set_option maxRecDepth 20000 in
theorem fx_count_n (t c : Int32) (v : Int64) (h1 : t < 0) : sm_run none 8 15 0 (lv_args 0 [.ref 0, .int t, .int c, .long v]) [] hp0 (some (.int 0), hp0) := by
  refine rn_p (pc' := 1) (lv' := [(0, .ref 0), (1, .int t), (2, .int c), (3, .long v)]) (st' := [.int t]) rfl rfl ?_
  refine rn_cs (As := [.int t]) (r := []) (v := (some (.int 0))) (g := hp0) (st2 := [.int 0]) (pc' := 4) rfl rfl rfl rfl rfl ?_ ?_
  · refine rn_p (pc' := 1) (lv' := [(0, .int t)]) (st' := [.int t]) rfl rfl ?_
    refine rn_t (pc' := 13) (lv' := [(0, .int t)]) (st' := []) rfl rfl h1 ?_
    refine rn_p (pc' := 14) (lv' := [(0, .int t)]) (st' := [.int 0]) rfl rfl ?_
    exact rn_r rfl rfl
  refine rn_p (pc' := 34) (lv' := [(0, .ref 0), (1, .int t), (2, .int c), (3, .long v)]) (st' := []) rfl rfl ?_
  refine rn_p (pc' := 35) (lv' := [(0, .ref 0), (1, .int t), (2, .int c), (3, .long v)]) (st' := [.int 0]) rfl rfl ?_
  exact rn_r rfl rfl
set_option maxRecDepth 20000 in
theorem fx_count_h (t c : Int32) (v : Int64) (h1 : 3 ≤ t) : sm_run none 8 15 0 (lv_args 0 [.ref 0, .int t, .int c, .long v]) [] hp0 (some (.int 0), hp0) := by
  refine rn_p (pc' := 1) (lv' := [(0, .ref 0), (1, .int t), (2, .int c), (3, .long v)]) (st' := [.int t]) rfl rfl ?_
  refine rn_cs (As := [.int t]) (r := []) (v := (some (.int 0))) (g := hp0) (st2 := [.int 0]) (pc' := 4) rfl rfl rfl rfl rfl ?_ ?_
  · refine rn_p (pc' := 1) (lv' := [(0, .int t)]) (st' := [.int t]) rfl rfl ?_
    refine rn_f (pc' := 4) (lv' := [(0, .int t)]) (st' := []) rfl rfl (t3_hi h1).1 ?_
    refine rn_p (pc' := 5) (lv' := [(0, .int t)]) (st' := [.int t]) rfl rfl ?_
    refine rn_p (pc' := 6) (lv' := [(0, .int t)]) (st' := [.int 3, .int t]) rfl rfl ?_
    refine rn_t (pc' := 13) (lv' := [(0, .int t)]) (st' := []) rfl rfl h1 ?_
    refine rn_p (pc' := 14) (lv' := [(0, .int t)]) (st' := [.int 0]) rfl rfl ?_
    exact rn_r rfl rfl
  refine rn_p (pc' := 34) (lv' := [(0, .ref 0), (1, .int t), (2, .int c), (3, .long v)]) (st' := []) rfl rfl ?_
  refine rn_p (pc' := 35) (lv' := [(0, .ref 0), (1, .int t), (2, .int c), (3, .long v)]) (st' := [.int 0]) rfl rfl ?_
  exact rn_r rfl rfl
set_option maxRecDepth 20000 in
theorem fx_count_0a (c : Int32) (v : Int64) (h2 : c < 0) : sm_run none 8 15 0 (lv_args 0 [.ref 0, .int 0, .int c, .long v]) [] hp0 (some (.int 0), hp0) := by
  refine rn_p (pc' := 1) (lv' := [(0, .ref 0), (1, .int 0), (2, .int c), (3, .long v)]) (st' := [.int 0]) rfl rfl ?_
  refine rn_cs (As := [.int 0]) (r := []) (v := (some (.int 1))) (g := hp0) (st2 := [.int 1]) (pc' := 4) rfl rfl rfl rfl rfl ?_ ?_
  · refine rn_p (pc' := 1) (lv' := [(0, .int 0)]) (st' := [.int 0]) rfl rfl ?_
    refine rn_p (pc' := 4) (lv' := [(0, .int 0)]) (st' := []) rfl rfl ?_
    refine rn_p (pc' := 5) (lv' := [(0, .int 0)]) (st' := [.int 0]) rfl rfl ?_
    refine rn_p (pc' := 6) (lv' := [(0, .int 0)]) (st' := [.int 3, .int 0]) rfl rfl ?_
    refine rn_p (pc' := 9) (lv' := [(0, .int 0)]) (st' := []) rfl rfl ?_
    refine rn_p (pc' := 10) (lv' := [(0, .int 0)]) (st' := [.int 1]) rfl rfl ?_
    refine rn_p (pc' := 14) (lv' := [(0, .int 0)]) (st' := [.int 1]) rfl rfl ?_
    exact rn_r rfl rfl
  refine rn_p (pc' := 7) (lv' := [(0, .ref 0), (1, .int 0), (2, .int c), (3, .long v)]) (st' := []) rfl rfl ?_
  refine rn_p (pc' := 8) (lv' := [(0, .ref 0), (1, .int 0), (2, .int c), (3, .long v)]) (st' := [.ref 0]) rfl rfl ?_
  refine rn_p (pc' := 11) (lv' := [(0, .ref 0), (1, .int 0), (2, .int c), (3, .long v)]) (st' := [.ref 2]) rfl rfl ?_
  refine rn_p (pc' := 12) (lv' := [(0, .ref 0), (1, .int 0), (2, .int c), (3, .long v)]) (st' := [.int 0, .ref 2]) rfl rfl ?_
  refine rn_p (pc' := 13) (lv' := [(0, .ref 0), (1, .int 0), (2, .int c), (3, .long v)]) (st' := [.ref 3]) rfl rfl ?_
  refine rn_p (pc' := 14) (lv' := [(0, .ref 0), (1, .int 0), (2, .int c), (3, .long v)]) (st' := [.int c, .ref 3]) rfl rfl ?_
  refine rn_cv (As := [.ref 3, .int c]) (r := []) (v := (some (.int 0))) (g := hp0) (st2 := [.int 0]) (pc' := 17) rfl rfl rfl rfl ?_ ?_
  · refine rn_p (pc' := 1) (lv' := [(0, .ref 3), (1, .int c)]) (st' := [.int c]) rfl rfl ?_
    refine rn_t (pc' := 16) (lv' := [(0, .ref 3), (1, .int c)]) (st' := []) rfl rfl h2 ?_
    refine rn_p (pc' := 17) (lv' := [(0, .ref 3), (1, .int c)]) (st' := [.int 0]) rfl rfl ?_
    exact rn_r rfl rfl
  refine rn_p (pc' := 34) (lv' := [(0, .ref 0), (1, .int 0), (2, .int c), (3, .long v)]) (st' := []) rfl rfl ?_
  refine rn_p (pc' := 35) (lv' := [(0, .ref 0), (1, .int 0), (2, .int c), (3, .long v)]) (st' := [.int 0]) rfl rfl ?_
  exact rn_r rfl rfl
set_option maxRecDepth 20000 in
theorem fx_count_0b (c : Int32) (v : Int64) (h2 : ¬ c < 0) : sm_run none 8 15 0 (lv_args 0 [.ref 0, .int 0, .int c, .long v]) [] hp0 (some (.int 0), hp0) := by
  refine rn_p (pc' := 1) (lv' := [(0, .ref 0), (1, .int 0), (2, .int c), (3, .long v)]) (st' := [.int 0]) rfl rfl ?_
  refine rn_cs (As := [.int 0]) (r := []) (v := (some (.int 1))) (g := hp0) (st2 := [.int 1]) (pc' := 4) rfl rfl rfl rfl rfl ?_ ?_
  · refine rn_p (pc' := 1) (lv' := [(0, .int 0)]) (st' := [.int 0]) rfl rfl ?_
    refine rn_p (pc' := 4) (lv' := [(0, .int 0)]) (st' := []) rfl rfl ?_
    refine rn_p (pc' := 5) (lv' := [(0, .int 0)]) (st' := [.int 0]) rfl rfl ?_
    refine rn_p (pc' := 6) (lv' := [(0, .int 0)]) (st' := [.int 3, .int 0]) rfl rfl ?_
    refine rn_p (pc' := 9) (lv' := [(0, .int 0)]) (st' := []) rfl rfl ?_
    refine rn_p (pc' := 10) (lv' := [(0, .int 0)]) (st' := [.int 1]) rfl rfl ?_
    refine rn_p (pc' := 14) (lv' := [(0, .int 0)]) (st' := [.int 1]) rfl rfl ?_
    exact rn_r rfl rfl
  refine rn_p (pc' := 7) (lv' := [(0, .ref 0), (1, .int 0), (2, .int c), (3, .long v)]) (st' := []) rfl rfl ?_
  refine rn_p (pc' := 8) (lv' := [(0, .ref 0), (1, .int 0), (2, .int c), (3, .long v)]) (st' := [.ref 0]) rfl rfl ?_
  refine rn_p (pc' := 11) (lv' := [(0, .ref 0), (1, .int 0), (2, .int c), (3, .long v)]) (st' := [.ref 2]) rfl rfl ?_
  refine rn_p (pc' := 12) (lv' := [(0, .ref 0), (1, .int 0), (2, .int c), (3, .long v)]) (st' := [.int 0, .ref 2]) rfl rfl ?_
  refine rn_p (pc' := 13) (lv' := [(0, .ref 0), (1, .int 0), (2, .int c), (3, .long v)]) (st' := [.ref 3]) rfl rfl ?_
  refine rn_p (pc' := 14) (lv' := [(0, .ref 0), (1, .int 0), (2, .int c), (3, .long v)]) (st' := [.int c, .ref 3]) rfl rfl ?_
  refine rn_cv (As := [.ref 3, .int c]) (r := []) (v := (some (.int 0))) (g := hp0) (st2 := [.int 0]) (pc' := 17) rfl rfl rfl rfl ?_ ?_
  · refine rn_p (pc' := 1) (lv' := [(0, .ref 3), (1, .int c)]) (st' := [.int c]) rfl rfl ?_
    refine rn_f (pc' := 4) (lv' := [(0, .ref 3), (1, .int c)]) (st' := []) rfl rfl h2 ?_
    refine rn_p (pc' := 5) (lv' := [(0, .ref 3), (1, .int c)]) (st' := [.int c]) rfl rfl ?_
    refine rn_p (pc' := 6) (lv' := [(0, .ref 3), (1, .int c)]) (st' := [.ref 3, .int c]) rfl rfl ?_
    refine rn_p (pc' := 9) (lv' := [(0, .ref 3), (1, .int c)]) (st' := [.int 0, .int c]) rfl rfl ?_
    refine rn_t (pc' := 16) (lv' := [(0, .ref 3), (1, .int c)]) (st' := []) rfl rfl (t_ge0 h2) ?_
    refine rn_p (pc' := 17) (lv' := [(0, .ref 3), (1, .int c)]) (st' := [.int 0]) rfl rfl ?_
    exact rn_r rfl rfl
  refine rn_p (pc' := 34) (lv' := [(0, .ref 0), (1, .int 0), (2, .int c), (3, .long v)]) (st' := []) rfl rfl ?_
  refine rn_p (pc' := 35) (lv' := [(0, .ref 0), (1, .int 0), (2, .int c), (3, .long v)]) (st' := [.int 0]) rfl rfl ?_
  exact rn_r rfl rfl
theorem fx_count_0 (c : Int32) (v : Int64) : sm_run none 8 15 0 (lv_args 0 [.ref 0, .int 0, .int c, .long v]) [] hp0 (some (.int 0), hp0) := by
  by_cases h2 : c < 0
  · exact fx_count_0a c v h2
  · exact fx_count_0b c v h2
set_option maxRecDepth 20000 in
theorem fx_count_1a (c : Int32) (v : Int64) (h2 : c < 0) : sm_run none 8 15 0 (lv_args 0 [.ref 0, .int 1, .int c, .long v]) [] hp0 (some (.int 0), hp0) := by
  refine rn_p (pc' := 1) (lv' := [(0, .ref 0), (1, .int 1), (2, .int c), (3, .long v)]) (st' := [.int 1]) rfl rfl ?_
  refine rn_cs (As := [.int 1]) (r := []) (v := (some (.int 1))) (g := hp0) (st2 := [.int 1]) (pc' := 4) rfl rfl rfl rfl rfl ?_ ?_
  · refine rn_p (pc' := 1) (lv' := [(0, .int 1)]) (st' := [.int 1]) rfl rfl ?_
    refine rn_p (pc' := 4) (lv' := [(0, .int 1)]) (st' := []) rfl rfl ?_
    refine rn_p (pc' := 5) (lv' := [(0, .int 1)]) (st' := [.int 1]) rfl rfl ?_
    refine rn_p (pc' := 6) (lv' := [(0, .int 1)]) (st' := [.int 3, .int 1]) rfl rfl ?_
    refine rn_p (pc' := 9) (lv' := [(0, .int 1)]) (st' := []) rfl rfl ?_
    refine rn_p (pc' := 10) (lv' := [(0, .int 1)]) (st' := [.int 1]) rfl rfl ?_
    refine rn_p (pc' := 14) (lv' := [(0, .int 1)]) (st' := [.int 1]) rfl rfl ?_
    exact rn_r rfl rfl
  refine rn_p (pc' := 7) (lv' := [(0, .ref 0), (1, .int 1), (2, .int c), (3, .long v)]) (st' := []) rfl rfl ?_
  refine rn_p (pc' := 8) (lv' := [(0, .ref 0), (1, .int 1), (2, .int c), (3, .long v)]) (st' := [.ref 0]) rfl rfl ?_
  refine rn_p (pc' := 11) (lv' := [(0, .ref 0), (1, .int 1), (2, .int c), (3, .long v)]) (st' := [.ref 2]) rfl rfl ?_
  refine rn_p (pc' := 12) (lv' := [(0, .ref 0), (1, .int 1), (2, .int c), (3, .long v)]) (st' := [.int 1, .ref 2]) rfl rfl ?_
  refine rn_p (pc' := 13) (lv' := [(0, .ref 0), (1, .int 1), (2, .int c), (3, .long v)]) (st' := [.ref 6]) rfl rfl ?_
  refine rn_p (pc' := 14) (lv' := [(0, .ref 0), (1, .int 1), (2, .int c), (3, .long v)]) (st' := [.int c, .ref 6]) rfl rfl ?_
  refine rn_cv (As := [.ref 6, .int c]) (r := []) (v := (some (.int 0))) (g := hp0) (st2 := [.int 0]) (pc' := 17) rfl rfl rfl rfl ?_ ?_
  · refine rn_p (pc' := 1) (lv' := [(0, .ref 6), (1, .int c)]) (st' := [.int c]) rfl rfl ?_
    refine rn_t (pc' := 16) (lv' := [(0, .ref 6), (1, .int c)]) (st' := []) rfl rfl h2 ?_
    refine rn_p (pc' := 17) (lv' := [(0, .ref 6), (1, .int c)]) (st' := [.int 0]) rfl rfl ?_
    exact rn_r rfl rfl
  refine rn_p (pc' := 34) (lv' := [(0, .ref 0), (1, .int 1), (2, .int c), (3, .long v)]) (st' := []) rfl rfl ?_
  refine rn_p (pc' := 35) (lv' := [(0, .ref 0), (1, .int 1), (2, .int c), (3, .long v)]) (st' := [.int 0]) rfl rfl ?_
  exact rn_r rfl rfl
set_option maxRecDepth 20000 in
theorem fx_count_1b (c : Int32) (v : Int64) (h2 : ¬ c < 0) : sm_run none 8 15 0 (lv_args 0 [.ref 0, .int 1, .int c, .long v]) [] hp0 (some (.int 0), hp0) := by
  refine rn_p (pc' := 1) (lv' := [(0, .ref 0), (1, .int 1), (2, .int c), (3, .long v)]) (st' := [.int 1]) rfl rfl ?_
  refine rn_cs (As := [.int 1]) (r := []) (v := (some (.int 1))) (g := hp0) (st2 := [.int 1]) (pc' := 4) rfl rfl rfl rfl rfl ?_ ?_
  · refine rn_p (pc' := 1) (lv' := [(0, .int 1)]) (st' := [.int 1]) rfl rfl ?_
    refine rn_p (pc' := 4) (lv' := [(0, .int 1)]) (st' := []) rfl rfl ?_
    refine rn_p (pc' := 5) (lv' := [(0, .int 1)]) (st' := [.int 1]) rfl rfl ?_
    refine rn_p (pc' := 6) (lv' := [(0, .int 1)]) (st' := [.int 3, .int 1]) rfl rfl ?_
    refine rn_p (pc' := 9) (lv' := [(0, .int 1)]) (st' := []) rfl rfl ?_
    refine rn_p (pc' := 10) (lv' := [(0, .int 1)]) (st' := [.int 1]) rfl rfl ?_
    refine rn_p (pc' := 14) (lv' := [(0, .int 1)]) (st' := [.int 1]) rfl rfl ?_
    exact rn_r rfl rfl
  refine rn_p (pc' := 7) (lv' := [(0, .ref 0), (1, .int 1), (2, .int c), (3, .long v)]) (st' := []) rfl rfl ?_
  refine rn_p (pc' := 8) (lv' := [(0, .ref 0), (1, .int 1), (2, .int c), (3, .long v)]) (st' := [.ref 0]) rfl rfl ?_
  refine rn_p (pc' := 11) (lv' := [(0, .ref 0), (1, .int 1), (2, .int c), (3, .long v)]) (st' := [.ref 2]) rfl rfl ?_
  refine rn_p (pc' := 12) (lv' := [(0, .ref 0), (1, .int 1), (2, .int c), (3, .long v)]) (st' := [.int 1, .ref 2]) rfl rfl ?_
  refine rn_p (pc' := 13) (lv' := [(0, .ref 0), (1, .int 1), (2, .int c), (3, .long v)]) (st' := [.ref 6]) rfl rfl ?_
  refine rn_p (pc' := 14) (lv' := [(0, .ref 0), (1, .int 1), (2, .int c), (3, .long v)]) (st' := [.int c, .ref 6]) rfl rfl ?_
  refine rn_cv (As := [.ref 6, .int c]) (r := []) (v := (some (.int 0))) (g := hp0) (st2 := [.int 0]) (pc' := 17) rfl rfl rfl rfl ?_ ?_
  · refine rn_p (pc' := 1) (lv' := [(0, .ref 6), (1, .int c)]) (st' := [.int c]) rfl rfl ?_
    refine rn_f (pc' := 4) (lv' := [(0, .ref 6), (1, .int c)]) (st' := []) rfl rfl h2 ?_
    refine rn_p (pc' := 5) (lv' := [(0, .ref 6), (1, .int c)]) (st' := [.int c]) rfl rfl ?_
    refine rn_p (pc' := 6) (lv' := [(0, .ref 6), (1, .int c)]) (st' := [.ref 6, .int c]) rfl rfl ?_
    refine rn_p (pc' := 9) (lv' := [(0, .ref 6), (1, .int c)]) (st' := [.int 0, .int c]) rfl rfl ?_
    refine rn_t (pc' := 16) (lv' := [(0, .ref 6), (1, .int c)]) (st' := []) rfl rfl (t_ge0 h2) ?_
    refine rn_p (pc' := 17) (lv' := [(0, .ref 6), (1, .int c)]) (st' := [.int 0]) rfl rfl ?_
    exact rn_r rfl rfl
  refine rn_p (pc' := 34) (lv' := [(0, .ref 0), (1, .int 1), (2, .int c), (3, .long v)]) (st' := []) rfl rfl ?_
  refine rn_p (pc' := 35) (lv' := [(0, .ref 0), (1, .int 1), (2, .int c), (3, .long v)]) (st' := [.int 0]) rfl rfl ?_
  exact rn_r rfl rfl
theorem fx_count_1 (c : Int32) (v : Int64) : sm_run none 8 15 0 (lv_args 0 [.ref 0, .int 1, .int c, .long v]) [] hp0 (some (.int 0), hp0) := by
  by_cases h2 : c < 0
  · exact fx_count_1a c v h2
  · exact fx_count_1b c v h2
set_option maxRecDepth 20000 in
theorem fx_count_2a (c : Int32) (v : Int64) (h2 : c < 0) : sm_run none 8 15 0 (lv_args 0 [.ref 0, .int 2, .int c, .long v]) [] hp0 (some (.int 0), hp0) := by
  refine rn_p (pc' := 1) (lv' := [(0, .ref 0), (1, .int 2), (2, .int c), (3, .long v)]) (st' := [.int 2]) rfl rfl ?_
  refine rn_cs (As := [.int 2]) (r := []) (v := (some (.int 1))) (g := hp0) (st2 := [.int 1]) (pc' := 4) rfl rfl rfl rfl rfl ?_ ?_
  · refine rn_p (pc' := 1) (lv' := [(0, .int 2)]) (st' := [.int 2]) rfl rfl ?_
    refine rn_p (pc' := 4) (lv' := [(0, .int 2)]) (st' := []) rfl rfl ?_
    refine rn_p (pc' := 5) (lv' := [(0, .int 2)]) (st' := [.int 2]) rfl rfl ?_
    refine rn_p (pc' := 6) (lv' := [(0, .int 2)]) (st' := [.int 3, .int 2]) rfl rfl ?_
    refine rn_p (pc' := 9) (lv' := [(0, .int 2)]) (st' := []) rfl rfl ?_
    refine rn_p (pc' := 10) (lv' := [(0, .int 2)]) (st' := [.int 1]) rfl rfl ?_
    refine rn_p (pc' := 14) (lv' := [(0, .int 2)]) (st' := [.int 1]) rfl rfl ?_
    exact rn_r rfl rfl
  refine rn_p (pc' := 7) (lv' := [(0, .ref 0), (1, .int 2), (2, .int c), (3, .long v)]) (st' := []) rfl rfl ?_
  refine rn_p (pc' := 8) (lv' := [(0, .ref 0), (1, .int 2), (2, .int c), (3, .long v)]) (st' := [.ref 0]) rfl rfl ?_
  refine rn_p (pc' := 11) (lv' := [(0, .ref 0), (1, .int 2), (2, .int c), (3, .long v)]) (st' := [.ref 2]) rfl rfl ?_
  refine rn_p (pc' := 12) (lv' := [(0, .ref 0), (1, .int 2), (2, .int c), (3, .long v)]) (st' := [.int 2, .ref 2]) rfl rfl ?_
  refine rn_p (pc' := 13) (lv' := [(0, .ref 0), (1, .int 2), (2, .int c), (3, .long v)]) (st' := [.ref 9]) rfl rfl ?_
  refine rn_p (pc' := 14) (lv' := [(0, .ref 0), (1, .int 2), (2, .int c), (3, .long v)]) (st' := [.int c, .ref 9]) rfl rfl ?_
  refine rn_cv (As := [.ref 9, .int c]) (r := []) (v := (some (.int 0))) (g := hp0) (st2 := [.int 0]) (pc' := 17) rfl rfl rfl rfl ?_ ?_
  · refine rn_p (pc' := 1) (lv' := [(0, .ref 9), (1, .int c)]) (st' := [.int c]) rfl rfl ?_
    refine rn_t (pc' := 16) (lv' := [(0, .ref 9), (1, .int c)]) (st' := []) rfl rfl h2 ?_
    refine rn_p (pc' := 17) (lv' := [(0, .ref 9), (1, .int c)]) (st' := [.int 0]) rfl rfl ?_
    exact rn_r rfl rfl
  refine rn_p (pc' := 34) (lv' := [(0, .ref 0), (1, .int 2), (2, .int c), (3, .long v)]) (st' := []) rfl rfl ?_
  refine rn_p (pc' := 35) (lv' := [(0, .ref 0), (1, .int 2), (2, .int c), (3, .long v)]) (st' := [.int 0]) rfl rfl ?_
  exact rn_r rfl rfl
set_option maxRecDepth 20000 in
theorem fx_count_2b (c : Int32) (v : Int64) (h2 : ¬ c < 0) : sm_run none 8 15 0 (lv_args 0 [.ref 0, .int 2, .int c, .long v]) [] hp0 (some (.int 0), hp0) := by
  refine rn_p (pc' := 1) (lv' := [(0, .ref 0), (1, .int 2), (2, .int c), (3, .long v)]) (st' := [.int 2]) rfl rfl ?_
  refine rn_cs (As := [.int 2]) (r := []) (v := (some (.int 1))) (g := hp0) (st2 := [.int 1]) (pc' := 4) rfl rfl rfl rfl rfl ?_ ?_
  · refine rn_p (pc' := 1) (lv' := [(0, .int 2)]) (st' := [.int 2]) rfl rfl ?_
    refine rn_p (pc' := 4) (lv' := [(0, .int 2)]) (st' := []) rfl rfl ?_
    refine rn_p (pc' := 5) (lv' := [(0, .int 2)]) (st' := [.int 2]) rfl rfl ?_
    refine rn_p (pc' := 6) (lv' := [(0, .int 2)]) (st' := [.int 3, .int 2]) rfl rfl ?_
    refine rn_p (pc' := 9) (lv' := [(0, .int 2)]) (st' := []) rfl rfl ?_
    refine rn_p (pc' := 10) (lv' := [(0, .int 2)]) (st' := [.int 1]) rfl rfl ?_
    refine rn_p (pc' := 14) (lv' := [(0, .int 2)]) (st' := [.int 1]) rfl rfl ?_
    exact rn_r rfl rfl
  refine rn_p (pc' := 7) (lv' := [(0, .ref 0), (1, .int 2), (2, .int c), (3, .long v)]) (st' := []) rfl rfl ?_
  refine rn_p (pc' := 8) (lv' := [(0, .ref 0), (1, .int 2), (2, .int c), (3, .long v)]) (st' := [.ref 0]) rfl rfl ?_
  refine rn_p (pc' := 11) (lv' := [(0, .ref 0), (1, .int 2), (2, .int c), (3, .long v)]) (st' := [.ref 2]) rfl rfl ?_
  refine rn_p (pc' := 12) (lv' := [(0, .ref 0), (1, .int 2), (2, .int c), (3, .long v)]) (st' := [.int 2, .ref 2]) rfl rfl ?_
  refine rn_p (pc' := 13) (lv' := [(0, .ref 0), (1, .int 2), (2, .int c), (3, .long v)]) (st' := [.ref 9]) rfl rfl ?_
  refine rn_p (pc' := 14) (lv' := [(0, .ref 0), (1, .int 2), (2, .int c), (3, .long v)]) (st' := [.int c, .ref 9]) rfl rfl ?_
  refine rn_cv (As := [.ref 9, .int c]) (r := []) (v := (some (.int 0))) (g := hp0) (st2 := [.int 0]) (pc' := 17) rfl rfl rfl rfl ?_ ?_
  · refine rn_p (pc' := 1) (lv' := [(0, .ref 9), (1, .int c)]) (st' := [.int c]) rfl rfl ?_
    refine rn_f (pc' := 4) (lv' := [(0, .ref 9), (1, .int c)]) (st' := []) rfl rfl h2 ?_
    refine rn_p (pc' := 5) (lv' := [(0, .ref 9), (1, .int c)]) (st' := [.int c]) rfl rfl ?_
    refine rn_p (pc' := 6) (lv' := [(0, .ref 9), (1, .int c)]) (st' := [.ref 9, .int c]) rfl rfl ?_
    refine rn_p (pc' := 9) (lv' := [(0, .ref 9), (1, .int c)]) (st' := [.int 0, .int c]) rfl rfl ?_
    refine rn_t (pc' := 16) (lv' := [(0, .ref 9), (1, .int c)]) (st' := []) rfl rfl (t_ge0 h2) ?_
    refine rn_p (pc' := 17) (lv' := [(0, .ref 9), (1, .int c)]) (st' := [.int 0]) rfl rfl ?_
    exact rn_r rfl rfl
  refine rn_p (pc' := 34) (lv' := [(0, .ref 0), (1, .int 2), (2, .int c), (3, .long v)]) (st' := []) rfl rfl ?_
  refine rn_p (pc' := 35) (lv' := [(0, .ref 0), (1, .int 2), (2, .int c), (3, .long v)]) (st' := [.int 0]) rfl rfl ?_
  exact rn_r rfl rfl
theorem fx_count_2 (c : Int32) (v : Int64) : sm_run none 8 15 0 (lv_args 0 [.ref 0, .int 2, .int c, .long v]) [] hp0 (some (.int 0), hp0) := by
  by_cases h2 : c < 0
  · exact fx_count_2a c v h2
  · exact fx_count_2b c v h2
set_option maxRecDepth 20000 in
theorem fx_count (t c : Int32) (v : Int64) : sm_run none 8 15 0 (lv_args 0 [.ref 0, .int t, .int c, .long v]) [] hp0 (some (.int 0), hp0) := by
  rcases pk_ix t (n := 3) (by decide) with h1 | h1 | ⟨j, hj, rfl⟩
  · exact fx_count_n t c v h1
  · exact fx_count_h t c v h1
  · rcases (show j = 0 ∨ j = 1 ∨ j = 2 by omega) with rfl | rfl | rfl
    · exact fx_count_0 c v
    · exact fx_count_1 c v
    · exact fx_count_2 c v
set_option maxRecDepth 20000 in
theorem fm_cell_n (t k c : Int32) (h1 : t < 0) : sm_run none 8 196 0 (lv_args 0 [.ref 42, .int t, .int k, .int c]) [] hp0 (some (.long 2199023255552), hp0) := by
  refine rn_p (pc' := 1) (lv' := [(0, .ref 42), (1, .int t), (2, .int k), (3, .int c)]) (st' := [.int t]) rfl rfl ?_
  refine rn_cs (As := [.int t]) (r := []) (v := (some (.int 0))) (g := hp0) (st2 := [.int 0]) (pc' := 4) rfl rfl rfl rfl rfl ?_ ?_
  · refine rn_p (pc' := 1) (lv' := [(0, .int t)]) (st' := [.int t]) rfl rfl ?_
    refine rn_t (pc' := 13) (lv' := [(0, .int t)]) (st' := []) rfl rfl h1 ?_
    refine rn_p (pc' := 14) (lv' := [(0, .int t)]) (st' := [.int 0]) rfl rfl ?_
    exact rn_r rfl rfl
  refine rn_p (pc' := 35) (lv' := [(0, .ref 42), (1, .int t), (2, .int k), (3, .int c)]) (st' := []) rfl rfl ?_
  refine rn_p (pc' := 38) (lv' := [(0, .ref 42), (1, .int t), (2, .int k), (3, .int c)]) (st' := [.long 2199023255552]) rfl rfl ?_
  exact rn_r rfl rfl
set_option maxRecDepth 20000 in
theorem fm_cell_h (t k c : Int32) (h1 : 3 ≤ t) : sm_run none 8 196 0 (lv_args 0 [.ref 42, .int t, .int k, .int c]) [] hp0 (some (.long 2199023255552), hp0) := by
  refine rn_p (pc' := 1) (lv' := [(0, .ref 42), (1, .int t), (2, .int k), (3, .int c)]) (st' := [.int t]) rfl rfl ?_
  refine rn_cs (As := [.int t]) (r := []) (v := (some (.int 0))) (g := hp0) (st2 := [.int 0]) (pc' := 4) rfl rfl rfl rfl rfl ?_ ?_
  · refine rn_p (pc' := 1) (lv' := [(0, .int t)]) (st' := [.int t]) rfl rfl ?_
    refine rn_f (pc' := 4) (lv' := [(0, .int t)]) (st' := []) rfl rfl (t3_hi h1).1 ?_
    refine rn_p (pc' := 5) (lv' := [(0, .int t)]) (st' := [.int t]) rfl rfl ?_
    refine rn_p (pc' := 6) (lv' := [(0, .int t)]) (st' := [.int 2, .int t]) rfl rfl ?_
    refine rn_t (pc' := 13) (lv' := [(0, .int t)]) (st' := []) rfl rfl (t3_hi h1).2 ?_
    refine rn_p (pc' := 14) (lv' := [(0, .int t)]) (st' := [.int 0]) rfl rfl ?_
    exact rn_r rfl rfl
  refine rn_p (pc' := 35) (lv' := [(0, .ref 42), (1, .int t), (2, .int k), (3, .int c)]) (st' := []) rfl rfl ?_
  refine rn_p (pc' := 38) (lv' := [(0, .ref 42), (1, .int t), (2, .int k), (3, .int c)]) (st' := [.long 2199023255552]) rfl rfl ?_
  exact rn_r rfl rfl
set_option maxRecDepth 20000 in
theorem fm_cell_0a (k c : Int32) (h2 : k < 0) : sm_run none 8 196 0 (lv_args 0 [.ref 42, .int 0, .int k, .int c]) [] hp0 (some (.long 2199023255552), hp0) := by
  refine rn_p (pc' := 1) (lv' := [(0, .ref 42), (1, .int 0), (2, .int k), (3, .int c)]) (st' := [.int 0]) rfl rfl ?_
  refine rn_cs (As := [.int 0]) (r := []) (v := (some (.int 1))) (g := hp0) (st2 := [.int 1]) (pc' := 4) rfl rfl rfl rfl rfl ?_ ?_
  · refine rn_p (pc' := 1) (lv' := [(0, .int 0)]) (st' := [.int 0]) rfl rfl ?_
    refine rn_p (pc' := 4) (lv' := [(0, .int 0)]) (st' := []) rfl rfl ?_
    refine rn_p (pc' := 5) (lv' := [(0, .int 0)]) (st' := [.int 0]) rfl rfl ?_
    refine rn_p (pc' := 6) (lv' := [(0, .int 0)]) (st' := [.int 2, .int 0]) rfl rfl ?_
    refine rn_p (pc' := 9) (lv' := [(0, .int 0)]) (st' := []) rfl rfl ?_
    refine rn_p (pc' := 10) (lv' := [(0, .int 0)]) (st' := [.int 1]) rfl rfl ?_
    refine rn_p (pc' := 14) (lv' := [(0, .int 0)]) (st' := [.int 1]) rfl rfl ?_
    exact rn_r rfl rfl
  refine rn_p (pc' := 7) (lv' := [(0, .ref 42), (1, .int 0), (2, .int k), (3, .int c)]) (st' := []) rfl rfl ?_
  refine rn_p (pc' := 8) (lv' := [(0, .ref 42), (1, .int 0), (2, .int k), (3, .int c)]) (st' := [.int k]) rfl rfl ?_
  refine rn_t (pc' := 35) (lv' := [(0, .ref 42), (1, .int 0), (2, .int k), (3, .int c)]) (st' := []) rfl rfl h2 ?_
  refine rn_p (pc' := 38) (lv' := [(0, .ref 42), (1, .int 0), (2, .int k), (3, .int c)]) (st' := [.long 2199023255552]) rfl rfl ?_
  exact rn_r rfl rfl
set_option maxRecDepth 20000 in
theorem fm_cell_0b (k c : Int32) (h2 : ¬ k < 0) : sm_run none 8 196 0 (lv_args 0 [.ref 42, .int 0, .int k, .int c]) [] hp0 (some (.long 2199023255552), hp0) := by
  refine rn_p (pc' := 1) (lv' := [(0, .ref 42), (1, .int 0), (2, .int k), (3, .int c)]) (st' := [.int 0]) rfl rfl ?_
  refine rn_cs (As := [.int 0]) (r := []) (v := (some (.int 1))) (g := hp0) (st2 := [.int 1]) (pc' := 4) rfl rfl rfl rfl rfl ?_ ?_
  · refine rn_p (pc' := 1) (lv' := [(0, .int 0)]) (st' := [.int 0]) rfl rfl ?_
    refine rn_p (pc' := 4) (lv' := [(0, .int 0)]) (st' := []) rfl rfl ?_
    refine rn_p (pc' := 5) (lv' := [(0, .int 0)]) (st' := [.int 0]) rfl rfl ?_
    refine rn_p (pc' := 6) (lv' := [(0, .int 0)]) (st' := [.int 2, .int 0]) rfl rfl ?_
    refine rn_p (pc' := 9) (lv' := [(0, .int 0)]) (st' := []) rfl rfl ?_
    refine rn_p (pc' := 10) (lv' := [(0, .int 0)]) (st' := [.int 1]) rfl rfl ?_
    refine rn_p (pc' := 14) (lv' := [(0, .int 0)]) (st' := [.int 1]) rfl rfl ?_
    exact rn_r rfl rfl
  refine rn_p (pc' := 7) (lv' := [(0, .ref 42), (1, .int 0), (2, .int k), (3, .int c)]) (st' := []) rfl rfl ?_
  refine rn_p (pc' := 8) (lv' := [(0, .ref 42), (1, .int 0), (2, .int k), (3, .int c)]) (st' := [.int k]) rfl rfl ?_
  refine rn_f (pc' := 11) (lv' := [(0, .ref 42), (1, .int 0), (2, .int k), (3, .int c)]) (st' := []) rfl rfl h2 ?_
  refine rn_p (pc' := 12) (lv' := [(0, .ref 42), (1, .int 0), (2, .int k), (3, .int c)]) (st' := [.int k]) rfl rfl ?_
  refine rn_p (pc' := 13) (lv' := [(0, .ref 42), (1, .int 0), (2, .int k), (3, .int c)]) (st' := [.ref 42, .int k]) rfl rfl ?_
  refine rn_p (pc' := 16) (lv' := [(0, .ref 42), (1, .int 0), (2, .int k), (3, .int c)]) (st' := [.ref 57, .int k]) rfl rfl ?_
  refine rn_p (pc' := 17) (lv' := [(0, .ref 42), (1, .int 0), (2, .int k), (3, .int c)]) (st' := [.int 0, .ref 57, .int k]) rfl rfl ?_
  refine rn_p (pc' := 18) (lv' := [(0, .ref 42), (1, .int 0), (2, .int k), (3, .int c)]) (st' := [.int 0, .int k]) rfl rfl ?_
  refine rn_t (pc' := 35) (lv' := [(0, .ref 42), (1, .int 0), (2, .int k), (3, .int c)]) (st' := []) rfl rfl (t_ge0 h2) ?_
  refine rn_p (pc' := 38) (lv' := [(0, .ref 42), (1, .int 0), (2, .int k), (3, .int c)]) (st' := [.long 2199023255552]) rfl rfl ?_
  exact rn_r rfl rfl
theorem fm_cell_0 (k c : Int32) : sm_run none 8 196 0 (lv_args 0 [.ref 42, .int 0, .int k, .int c]) [] hp0 (some (.long 2199023255552), hp0) := by
  by_cases h2 : k < 0
  · exact fm_cell_0a k c h2
  · exact fm_cell_0b k c h2
set_option maxRecDepth 20000 in
theorem fm_cell_1a (k c : Int32) (h2 : k < 0) : sm_run none 8 196 0 (lv_args 0 [.ref 42, .int 1, .int k, .int c]) [] hp0 (some (.long 2199023255552), hp0) := by
  refine rn_p (pc' := 1) (lv' := [(0, .ref 42), (1, .int 1), (2, .int k), (3, .int c)]) (st' := [.int 1]) rfl rfl ?_
  refine rn_cs (As := [.int 1]) (r := []) (v := (some (.int 1))) (g := hp0) (st2 := [.int 1]) (pc' := 4) rfl rfl rfl rfl rfl ?_ ?_
  · refine rn_p (pc' := 1) (lv' := [(0, .int 1)]) (st' := [.int 1]) rfl rfl ?_
    refine rn_p (pc' := 4) (lv' := [(0, .int 1)]) (st' := []) rfl rfl ?_
    refine rn_p (pc' := 5) (lv' := [(0, .int 1)]) (st' := [.int 1]) rfl rfl ?_
    refine rn_p (pc' := 6) (lv' := [(0, .int 1)]) (st' := [.int 2, .int 1]) rfl rfl ?_
    refine rn_p (pc' := 9) (lv' := [(0, .int 1)]) (st' := []) rfl rfl ?_
    refine rn_p (pc' := 10) (lv' := [(0, .int 1)]) (st' := [.int 1]) rfl rfl ?_
    refine rn_p (pc' := 14) (lv' := [(0, .int 1)]) (st' := [.int 1]) rfl rfl ?_
    exact rn_r rfl rfl
  refine rn_p (pc' := 7) (lv' := [(0, .ref 42), (1, .int 1), (2, .int k), (3, .int c)]) (st' := []) rfl rfl ?_
  refine rn_p (pc' := 8) (lv' := [(0, .ref 42), (1, .int 1), (2, .int k), (3, .int c)]) (st' := [.int k]) rfl rfl ?_
  refine rn_t (pc' := 35) (lv' := [(0, .ref 42), (1, .int 1), (2, .int k), (3, .int c)]) (st' := []) rfl rfl h2 ?_
  refine rn_p (pc' := 38) (lv' := [(0, .ref 42), (1, .int 1), (2, .int k), (3, .int c)]) (st' := [.long 2199023255552]) rfl rfl ?_
  exact rn_r rfl rfl
set_option maxRecDepth 20000 in
theorem fm_cell_1b (k c : Int32) (h2 : ¬ k < 0) : sm_run none 8 196 0 (lv_args 0 [.ref 42, .int 1, .int k, .int c]) [] hp0 (some (.long 2199023255552), hp0) := by
  refine rn_p (pc' := 1) (lv' := [(0, .ref 42), (1, .int 1), (2, .int k), (3, .int c)]) (st' := [.int 1]) rfl rfl ?_
  refine rn_cs (As := [.int 1]) (r := []) (v := (some (.int 1))) (g := hp0) (st2 := [.int 1]) (pc' := 4) rfl rfl rfl rfl rfl ?_ ?_
  · refine rn_p (pc' := 1) (lv' := [(0, .int 1)]) (st' := [.int 1]) rfl rfl ?_
    refine rn_p (pc' := 4) (lv' := [(0, .int 1)]) (st' := []) rfl rfl ?_
    refine rn_p (pc' := 5) (lv' := [(0, .int 1)]) (st' := [.int 1]) rfl rfl ?_
    refine rn_p (pc' := 6) (lv' := [(0, .int 1)]) (st' := [.int 2, .int 1]) rfl rfl ?_
    refine rn_p (pc' := 9) (lv' := [(0, .int 1)]) (st' := []) rfl rfl ?_
    refine rn_p (pc' := 10) (lv' := [(0, .int 1)]) (st' := [.int 1]) rfl rfl ?_
    refine rn_p (pc' := 14) (lv' := [(0, .int 1)]) (st' := [.int 1]) rfl rfl ?_
    exact rn_r rfl rfl
  refine rn_p (pc' := 7) (lv' := [(0, .ref 42), (1, .int 1), (2, .int k), (3, .int c)]) (st' := []) rfl rfl ?_
  refine rn_p (pc' := 8) (lv' := [(0, .ref 42), (1, .int 1), (2, .int k), (3, .int c)]) (st' := [.int k]) rfl rfl ?_
  refine rn_f (pc' := 11) (lv' := [(0, .ref 42), (1, .int 1), (2, .int k), (3, .int c)]) (st' := []) rfl rfl h2 ?_
  refine rn_p (pc' := 12) (lv' := [(0, .ref 42), (1, .int 1), (2, .int k), (3, .int c)]) (st' := [.int k]) rfl rfl ?_
  refine rn_p (pc' := 13) (lv' := [(0, .ref 42), (1, .int 1), (2, .int k), (3, .int c)]) (st' := [.ref 42, .int k]) rfl rfl ?_
  refine rn_p (pc' := 16) (lv' := [(0, .ref 42), (1, .int 1), (2, .int k), (3, .int c)]) (st' := [.ref 57, .int k]) rfl rfl ?_
  refine rn_p (pc' := 17) (lv' := [(0, .ref 42), (1, .int 1), (2, .int k), (3, .int c)]) (st' := [.int 1, .ref 57, .int k]) rfl rfl ?_
  refine rn_p (pc' := 18) (lv' := [(0, .ref 42), (1, .int 1), (2, .int k), (3, .int c)]) (st' := [.int 0, .int k]) rfl rfl ?_
  refine rn_t (pc' := 35) (lv' := [(0, .ref 42), (1, .int 1), (2, .int k), (3, .int c)]) (st' := []) rfl rfl (t_ge0 h2) ?_
  refine rn_p (pc' := 38) (lv' := [(0, .ref 42), (1, .int 1), (2, .int k), (3, .int c)]) (st' := [.long 2199023255552]) rfl rfl ?_
  exact rn_r rfl rfl
theorem fm_cell_1 (k c : Int32) : sm_run none 8 196 0 (lv_args 0 [.ref 42, .int 1, .int k, .int c]) [] hp0 (some (.long 2199023255552), hp0) := by
  by_cases h2 : k < 0
  · exact fm_cell_1a k c h2
  · exact fm_cell_1b k c h2
set_option maxRecDepth 20000 in
theorem fm_cell_2a (k c : Int32) (h2 : k < 0) : sm_run none 8 196 0 (lv_args 0 [.ref 42, .int 2, .int k, .int c]) [] hp0 (some (.long 2199023255552), hp0) := by
  refine rn_p (pc' := 1) (lv' := [(0, .ref 42), (1, .int 2), (2, .int k), (3, .int c)]) (st' := [.int 2]) rfl rfl ?_
  refine rn_cs (As := [.int 2]) (r := []) (v := (some (.int 1))) (g := hp0) (st2 := [.int 1]) (pc' := 4) rfl rfl rfl rfl rfl ?_ ?_
  · refine rn_p (pc' := 1) (lv' := [(0, .int 2)]) (st' := [.int 2]) rfl rfl ?_
    refine rn_p (pc' := 4) (lv' := [(0, .int 2)]) (st' := []) rfl rfl ?_
    refine rn_p (pc' := 5) (lv' := [(0, .int 2)]) (st' := [.int 2]) rfl rfl ?_
    refine rn_p (pc' := 6) (lv' := [(0, .int 2)]) (st' := [.int 2, .int 2]) rfl rfl ?_
    refine rn_p (pc' := 9) (lv' := [(0, .int 2)]) (st' := []) rfl rfl ?_
    refine rn_p (pc' := 10) (lv' := [(0, .int 2)]) (st' := [.int 1]) rfl rfl ?_
    refine rn_p (pc' := 14) (lv' := [(0, .int 2)]) (st' := [.int 1]) rfl rfl ?_
    exact rn_r rfl rfl
  refine rn_p (pc' := 7) (lv' := [(0, .ref 42), (1, .int 2), (2, .int k), (3, .int c)]) (st' := []) rfl rfl ?_
  refine rn_p (pc' := 8) (lv' := [(0, .ref 42), (1, .int 2), (2, .int k), (3, .int c)]) (st' := [.int k]) rfl rfl ?_
  refine rn_t (pc' := 35) (lv' := [(0, .ref 42), (1, .int 2), (2, .int k), (3, .int c)]) (st' := []) rfl rfl h2 ?_
  refine rn_p (pc' := 38) (lv' := [(0, .ref 42), (1, .int 2), (2, .int k), (3, .int c)]) (st' := [.long 2199023255552]) rfl rfl ?_
  exact rn_r rfl rfl
set_option maxRecDepth 20000 in
theorem fm_cell_2b (k c : Int32) (h2 : ¬ k < 0) : sm_run none 8 196 0 (lv_args 0 [.ref 42, .int 2, .int k, .int c]) [] hp0 (some (.long 2199023255552), hp0) := by
  refine rn_p (pc' := 1) (lv' := [(0, .ref 42), (1, .int 2), (2, .int k), (3, .int c)]) (st' := [.int 2]) rfl rfl ?_
  refine rn_cs (As := [.int 2]) (r := []) (v := (some (.int 1))) (g := hp0) (st2 := [.int 1]) (pc' := 4) rfl rfl rfl rfl rfl ?_ ?_
  · refine rn_p (pc' := 1) (lv' := [(0, .int 2)]) (st' := [.int 2]) rfl rfl ?_
    refine rn_p (pc' := 4) (lv' := [(0, .int 2)]) (st' := []) rfl rfl ?_
    refine rn_p (pc' := 5) (lv' := [(0, .int 2)]) (st' := [.int 2]) rfl rfl ?_
    refine rn_p (pc' := 6) (lv' := [(0, .int 2)]) (st' := [.int 2, .int 2]) rfl rfl ?_
    refine rn_p (pc' := 9) (lv' := [(0, .int 2)]) (st' := []) rfl rfl ?_
    refine rn_p (pc' := 10) (lv' := [(0, .int 2)]) (st' := [.int 1]) rfl rfl ?_
    refine rn_p (pc' := 14) (lv' := [(0, .int 2)]) (st' := [.int 1]) rfl rfl ?_
    exact rn_r rfl rfl
  refine rn_p (pc' := 7) (lv' := [(0, .ref 42), (1, .int 2), (2, .int k), (3, .int c)]) (st' := []) rfl rfl ?_
  refine rn_p (pc' := 8) (lv' := [(0, .ref 42), (1, .int 2), (2, .int k), (3, .int c)]) (st' := [.int k]) rfl rfl ?_
  refine rn_f (pc' := 11) (lv' := [(0, .ref 42), (1, .int 2), (2, .int k), (3, .int c)]) (st' := []) rfl rfl h2 ?_
  refine rn_p (pc' := 12) (lv' := [(0, .ref 42), (1, .int 2), (2, .int k), (3, .int c)]) (st' := [.int k]) rfl rfl ?_
  refine rn_p (pc' := 13) (lv' := [(0, .ref 42), (1, .int 2), (2, .int k), (3, .int c)]) (st' := [.ref 42, .int k]) rfl rfl ?_
  refine rn_p (pc' := 16) (lv' := [(0, .ref 42), (1, .int 2), (2, .int k), (3, .int c)]) (st' := [.ref 57, .int k]) rfl rfl ?_
  refine rn_p (pc' := 17) (lv' := [(0, .ref 42), (1, .int 2), (2, .int k), (3, .int c)]) (st' := [.int 2, .ref 57, .int k]) rfl rfl ?_
  refine rn_p (pc' := 18) (lv' := [(0, .ref 42), (1, .int 2), (2, .int k), (3, .int c)]) (st' := [.int 0, .int k]) rfl rfl ?_
  refine rn_t (pc' := 35) (lv' := [(0, .ref 42), (1, .int 2), (2, .int k), (3, .int c)]) (st' := []) rfl rfl (t_ge0 h2) ?_
  refine rn_p (pc' := 38) (lv' := [(0, .ref 42), (1, .int 2), (2, .int k), (3, .int c)]) (st' := [.long 2199023255552]) rfl rfl ?_
  exact rn_r rfl rfl
theorem fm_cell_2 (k c : Int32) : sm_run none 8 196 0 (lv_args 0 [.ref 42, .int 2, .int k, .int c]) [] hp0 (some (.long 2199023255552), hp0) := by
  by_cases h2 : k < 0
  · exact fm_cell_2a k c h2
  · exact fm_cell_2b k c h2
set_option maxRecDepth 20000 in
theorem fm_cell (t k c : Int32) : sm_run none 8 196 0 (lv_args 0 [.ref 42, .int t, .int k, .int c]) [] hp0 (some (.long 2199023255552), hp0) := by
  rcases pk_ix t (n := 3) (by decide) with h1 | h1 | ⟨j, hj, rfl⟩
  · exact fm_cell_n t k c h1
  · exact fm_cell_h t k c h1
  · rcases (show j = 0 ∨ j = 1 ∨ j = 2 by omega) with rfl | rfl | rfl
    · exact fm_cell_0 k c
    · exact fm_cell_1 k c
    · exact fm_cell_2 k c
set_option maxRecDepth 20000 in
theorem fm_count_n (t c : Int32) (v : Int64) (h1 : t < 0) : sm_run none 8 197 0 (lv_args 0 [.ref 42, .int t, .int c, .long v]) [] hp0 (some (.int 0), hp0) := by
  refine rn_p (pc' := 1) (lv' := [(0, .ref 42), (1, .int t), (2, .int c), (3, .long v)]) (st' := [.int 0]) rfl rfl ?_
  refine rn_p (pc' := 3) (lv' := [(5, .int 0), (0, .ref 42), (1, .int t), (2, .int c), (3, .long v)]) (st' := []) rfl rfl ?_
  refine rn_p (pc' := 4) (lv' := [(5, .int 0), (0, .ref 42), (1, .int t), (2, .int c), (3, .long v)]) (st' := [.int 0]) rfl rfl ?_
  refine rn_p (pc' := 6) (lv' := [(6, .int 0), (5, .int 0), (0, .ref 42), (1, .int t), (2, .int c), (3, .long v)]) (st' := []) rfl rfl ?_
  refine rn_p (pc' := 7) (lv' := [(6, .int 0), (5, .int 0), (0, .ref 42), (1, .int t), (2, .int c), (3, .long v)]) (st' := [.int t]) rfl rfl ?_
  refine rn_cs (As := [.int t]) (r := []) (v := (some (.int 0))) (g := hp0) (st2 := [.int 0]) (pc' := 10) rfl rfl rfl rfl rfl ?_ ?_
  · refine rn_p (pc' := 1) (lv' := [(0, .int t)]) (st' := [.int t]) rfl rfl ?_
    refine rn_t (pc' := 13) (lv' := [(0, .int t)]) (st' := []) rfl rfl h1 ?_
    refine rn_p (pc' := 14) (lv' := [(0, .int t)]) (st' := [.int 0]) rfl rfl ?_
    exact rn_r rfl rfl
  refine rn_p (pc' := 76) (lv' := [(6, .int 0), (5, .int 0), (0, .ref 42), (1, .int t), (2, .int c), (3, .long v)]) (st' := []) rfl rfl ?_
  refine rn_p (pc' := 78) (lv' := [(6, .int 0), (5, .int 0), (0, .ref 42), (1, .int t), (2, .int c), (3, .long v)]) (st' := [.int 0]) rfl rfl ?_
  exact rn_r rfl rfl
set_option maxRecDepth 20000 in
theorem fm_count_h (t c : Int32) (v : Int64) (h1 : 3 ≤ t) : sm_run none 8 197 0 (lv_args 0 [.ref 42, .int t, .int c, .long v]) [] hp0 (some (.int 0), hp0) := by
  refine rn_p (pc' := 1) (lv' := [(0, .ref 42), (1, .int t), (2, .int c), (3, .long v)]) (st' := [.int 0]) rfl rfl ?_
  refine rn_p (pc' := 3) (lv' := [(5, .int 0), (0, .ref 42), (1, .int t), (2, .int c), (3, .long v)]) (st' := []) rfl rfl ?_
  refine rn_p (pc' := 4) (lv' := [(5, .int 0), (0, .ref 42), (1, .int t), (2, .int c), (3, .long v)]) (st' := [.int 0]) rfl rfl ?_
  refine rn_p (pc' := 6) (lv' := [(6, .int 0), (5, .int 0), (0, .ref 42), (1, .int t), (2, .int c), (3, .long v)]) (st' := []) rfl rfl ?_
  refine rn_p (pc' := 7) (lv' := [(6, .int 0), (5, .int 0), (0, .ref 42), (1, .int t), (2, .int c), (3, .long v)]) (st' := [.int t]) rfl rfl ?_
  refine rn_cs (As := [.int t]) (r := []) (v := (some (.int 0))) (g := hp0) (st2 := [.int 0]) (pc' := 10) rfl rfl rfl rfl rfl ?_ ?_
  · refine rn_p (pc' := 1) (lv' := [(0, .int t)]) (st' := [.int t]) rfl rfl ?_
    refine rn_f (pc' := 4) (lv' := [(0, .int t)]) (st' := []) rfl rfl (t3_hi h1).1 ?_
    refine rn_p (pc' := 5) (lv' := [(0, .int t)]) (st' := [.int t]) rfl rfl ?_
    refine rn_p (pc' := 6) (lv' := [(0, .int t)]) (st' := [.int 2, .int t]) rfl rfl ?_
    refine rn_t (pc' := 13) (lv' := [(0, .int t)]) (st' := []) rfl rfl (t3_hi h1).2 ?_
    refine rn_p (pc' := 14) (lv' := [(0, .int t)]) (st' := [.int 0]) rfl rfl ?_
    exact rn_r rfl rfl
  refine rn_p (pc' := 76) (lv' := [(6, .int 0), (5, .int 0), (0, .ref 42), (1, .int t), (2, .int c), (3, .long v)]) (st' := []) rfl rfl ?_
  refine rn_p (pc' := 78) (lv' := [(6, .int 0), (5, .int 0), (0, .ref 42), (1, .int t), (2, .int c), (3, .long v)]) (st' := [.int 0]) rfl rfl ?_
  exact rn_r rfl rfl
set_option maxRecDepth 20000 in
theorem fm_count_0a (c : Int32) (v : Int64) (h2 : c < 0) : sm_run none 8 197 0 (lv_args 0 [.ref 42, .int 0, .int c, .long v]) [] hp0 (some (.int 0), hp0) := by
  refine rn_p (pc' := 1) (lv' := [(0, .ref 42), (1, .int 0), (2, .int c), (3, .long v)]) (st' := [.int 0]) rfl rfl ?_
  refine rn_p (pc' := 3) (lv' := [(5, .int 0), (0, .ref 42), (1, .int 0), (2, .int c), (3, .long v)]) (st' := []) rfl rfl ?_
  refine rn_p (pc' := 4) (lv' := [(5, .int 0), (0, .ref 42), (1, .int 0), (2, .int c), (3, .long v)]) (st' := [.int 0]) rfl rfl ?_
  refine rn_p (pc' := 6) (lv' := [(6, .int 0), (5, .int 0), (0, .ref 42), (1, .int 0), (2, .int c), (3, .long v)]) (st' := []) rfl rfl ?_
  refine rn_p (pc' := 7) (lv' := [(6, .int 0), (5, .int 0), (0, .ref 42), (1, .int 0), (2, .int c), (3, .long v)]) (st' := [.int 0]) rfl rfl ?_
  refine rn_cs (As := [.int 0]) (r := []) (v := (some (.int 1))) (g := hp0) (st2 := [.int 1]) (pc' := 10) rfl rfl rfl rfl rfl ?_ ?_
  · refine rn_p (pc' := 1) (lv' := [(0, .int 0)]) (st' := [.int 0]) rfl rfl ?_
    refine rn_p (pc' := 4) (lv' := [(0, .int 0)]) (st' := []) rfl rfl ?_
    refine rn_p (pc' := 5) (lv' := [(0, .int 0)]) (st' := [.int 0]) rfl rfl ?_
    refine rn_p (pc' := 6) (lv' := [(0, .int 0)]) (st' := [.int 2, .int 0]) rfl rfl ?_
    refine rn_p (pc' := 9) (lv' := [(0, .int 0)]) (st' := []) rfl rfl ?_
    refine rn_p (pc' := 10) (lv' := [(0, .int 0)]) (st' := [.int 1]) rfl rfl ?_
    refine rn_p (pc' := 14) (lv' := [(0, .int 0)]) (st' := [.int 1]) rfl rfl ?_
    exact rn_r rfl rfl
  refine rn_p (pc' := 13) (lv' := [(6, .int 0), (5, .int 0), (0, .ref 42), (1, .int 0), (2, .int c), (3, .long v)]) (st' := []) rfl rfl ?_
  refine rn_p (pc' := 14) (lv' := [(6, .int 0), (5, .int 0), (0, .ref 42), (1, .int 0), (2, .int c), (3, .long v)]) (st' := [.int c]) rfl rfl ?_
  refine rn_t (pc' := 76) (lv' := [(6, .int 0), (5, .int 0), (0, .ref 42), (1, .int 0), (2, .int c), (3, .long v)]) (st' := []) rfl rfl h2 ?_
  refine rn_p (pc' := 78) (lv' := [(6, .int 0), (5, .int 0), (0, .ref 42), (1, .int 0), (2, .int c), (3, .long v)]) (st' := [.int 0]) rfl rfl ?_
  exact rn_r rfl rfl
set_option maxRecDepth 20000 in
theorem fm_count_0b (c : Int32) (v : Int64) (h2 : ¬ c < 0) : sm_run none 8 197 0 (lv_args 0 [.ref 42, .int 0, .int c, .long v]) [] hp0 (some (.int 0), hp0) := by
  refine rn_p (pc' := 1) (lv' := [(0, .ref 42), (1, .int 0), (2, .int c), (3, .long v)]) (st' := [.int 0]) rfl rfl ?_
  refine rn_p (pc' := 3) (lv' := [(5, .int 0), (0, .ref 42), (1, .int 0), (2, .int c), (3, .long v)]) (st' := []) rfl rfl ?_
  refine rn_p (pc' := 4) (lv' := [(5, .int 0), (0, .ref 42), (1, .int 0), (2, .int c), (3, .long v)]) (st' := [.int 0]) rfl rfl ?_
  refine rn_p (pc' := 6) (lv' := [(6, .int 0), (5, .int 0), (0, .ref 42), (1, .int 0), (2, .int c), (3, .long v)]) (st' := []) rfl rfl ?_
  refine rn_p (pc' := 7) (lv' := [(6, .int 0), (5, .int 0), (0, .ref 42), (1, .int 0), (2, .int c), (3, .long v)]) (st' := [.int 0]) rfl rfl ?_
  refine rn_cs (As := [.int 0]) (r := []) (v := (some (.int 1))) (g := hp0) (st2 := [.int 1]) (pc' := 10) rfl rfl rfl rfl rfl ?_ ?_
  · refine rn_p (pc' := 1) (lv' := [(0, .int 0)]) (st' := [.int 0]) rfl rfl ?_
    refine rn_p (pc' := 4) (lv' := [(0, .int 0)]) (st' := []) rfl rfl ?_
    refine rn_p (pc' := 5) (lv' := [(0, .int 0)]) (st' := [.int 0]) rfl rfl ?_
    refine rn_p (pc' := 6) (lv' := [(0, .int 0)]) (st' := [.int 2, .int 0]) rfl rfl ?_
    refine rn_p (pc' := 9) (lv' := [(0, .int 0)]) (st' := []) rfl rfl ?_
    refine rn_p (pc' := 10) (lv' := [(0, .int 0)]) (st' := [.int 1]) rfl rfl ?_
    refine rn_p (pc' := 14) (lv' := [(0, .int 0)]) (st' := [.int 1]) rfl rfl ?_
    exact rn_r rfl rfl
  refine rn_p (pc' := 13) (lv' := [(6, .int 0), (5, .int 0), (0, .ref 42), (1, .int 0), (2, .int c), (3, .long v)]) (st' := []) rfl rfl ?_
  refine rn_p (pc' := 14) (lv' := [(6, .int 0), (5, .int 0), (0, .ref 42), (1, .int 0), (2, .int c), (3, .long v)]) (st' := [.int c]) rfl rfl ?_
  refine rn_f (pc' := 17) (lv' := [(6, .int 0), (5, .int 0), (0, .ref 42), (1, .int 0), (2, .int c), (3, .long v)]) (st' := []) rfl rfl h2 ?_
  refine rn_p (pc' := 18) (lv' := [(6, .int 0), (5, .int 0), (0, .ref 42), (1, .int 0), (2, .int c), (3, .long v)]) (st' := [.int c]) rfl rfl ?_
  refine rn_p (pc' := 19) (lv' := [(6, .int 0), (5, .int 0), (0, .ref 42), (1, .int 0), (2, .int c), (3, .long v)]) (st' := [.ref 42, .int c]) rfl rfl ?_
  refine rn_p (pc' := 22) (lv' := [(6, .int 0), (5, .int 0), (0, .ref 42), (1, .int 0), (2, .int c), (3, .long v)]) (st' := [.ref 56, .int c]) rfl rfl ?_
  refine rn_p (pc' := 23) (lv' := [(6, .int 0), (5, .int 0), (0, .ref 42), (1, .int 0), (2, .int c), (3, .long v)]) (st' := [.int 0, .ref 56, .int c]) rfl rfl ?_
  refine rn_p (pc' := 24) (lv' := [(6, .int 0), (5, .int 0), (0, .ref 42), (1, .int 0), (2, .int c), (3, .long v)]) (st' := [.int 0, .int c]) rfl rfl ?_
  refine rn_t (pc' := 76) (lv' := [(6, .int 0), (5, .int 0), (0, .ref 42), (1, .int 0), (2, .int c), (3, .long v)]) (st' := []) rfl rfl (t_ge0 h2) ?_
  refine rn_p (pc' := 78) (lv' := [(6, .int 0), (5, .int 0), (0, .ref 42), (1, .int 0), (2, .int c), (3, .long v)]) (st' := [.int 0]) rfl rfl ?_
  exact rn_r rfl rfl
theorem fm_count_0 (c : Int32) (v : Int64) : sm_run none 8 197 0 (lv_args 0 [.ref 42, .int 0, .int c, .long v]) [] hp0 (some (.int 0), hp0) := by
  by_cases h2 : c < 0
  · exact fm_count_0a c v h2
  · exact fm_count_0b c v h2
set_option maxRecDepth 20000 in
theorem fm_count_1a (c : Int32) (v : Int64) (h2 : c < 0) : sm_run none 8 197 0 (lv_args 0 [.ref 42, .int 1, .int c, .long v]) [] hp0 (some (.int 0), hp0) := by
  refine rn_p (pc' := 1) (lv' := [(0, .ref 42), (1, .int 1), (2, .int c), (3, .long v)]) (st' := [.int 0]) rfl rfl ?_
  refine rn_p (pc' := 3) (lv' := [(5, .int 0), (0, .ref 42), (1, .int 1), (2, .int c), (3, .long v)]) (st' := []) rfl rfl ?_
  refine rn_p (pc' := 4) (lv' := [(5, .int 0), (0, .ref 42), (1, .int 1), (2, .int c), (3, .long v)]) (st' := [.int 0]) rfl rfl ?_
  refine rn_p (pc' := 6) (lv' := [(6, .int 0), (5, .int 0), (0, .ref 42), (1, .int 1), (2, .int c), (3, .long v)]) (st' := []) rfl rfl ?_
  refine rn_p (pc' := 7) (lv' := [(6, .int 0), (5, .int 0), (0, .ref 42), (1, .int 1), (2, .int c), (3, .long v)]) (st' := [.int 1]) rfl rfl ?_
  refine rn_cs (As := [.int 1]) (r := []) (v := (some (.int 1))) (g := hp0) (st2 := [.int 1]) (pc' := 10) rfl rfl rfl rfl rfl ?_ ?_
  · refine rn_p (pc' := 1) (lv' := [(0, .int 1)]) (st' := [.int 1]) rfl rfl ?_
    refine rn_p (pc' := 4) (lv' := [(0, .int 1)]) (st' := []) rfl rfl ?_
    refine rn_p (pc' := 5) (lv' := [(0, .int 1)]) (st' := [.int 1]) rfl rfl ?_
    refine rn_p (pc' := 6) (lv' := [(0, .int 1)]) (st' := [.int 2, .int 1]) rfl rfl ?_
    refine rn_p (pc' := 9) (lv' := [(0, .int 1)]) (st' := []) rfl rfl ?_
    refine rn_p (pc' := 10) (lv' := [(0, .int 1)]) (st' := [.int 1]) rfl rfl ?_
    refine rn_p (pc' := 14) (lv' := [(0, .int 1)]) (st' := [.int 1]) rfl rfl ?_
    exact rn_r rfl rfl
  refine rn_p (pc' := 13) (lv' := [(6, .int 0), (5, .int 0), (0, .ref 42), (1, .int 1), (2, .int c), (3, .long v)]) (st' := []) rfl rfl ?_
  refine rn_p (pc' := 14) (lv' := [(6, .int 0), (5, .int 0), (0, .ref 42), (1, .int 1), (2, .int c), (3, .long v)]) (st' := [.int c]) rfl rfl ?_
  refine rn_t (pc' := 76) (lv' := [(6, .int 0), (5, .int 0), (0, .ref 42), (1, .int 1), (2, .int c), (3, .long v)]) (st' := []) rfl rfl h2 ?_
  refine rn_p (pc' := 78) (lv' := [(6, .int 0), (5, .int 0), (0, .ref 42), (1, .int 1), (2, .int c), (3, .long v)]) (st' := [.int 0]) rfl rfl ?_
  exact rn_r rfl rfl
set_option maxRecDepth 20000 in
theorem fm_count_1b (c : Int32) (v : Int64) (h2 : ¬ c < 0) : sm_run none 8 197 0 (lv_args 0 [.ref 42, .int 1, .int c, .long v]) [] hp0 (some (.int 0), hp0) := by
  refine rn_p (pc' := 1) (lv' := [(0, .ref 42), (1, .int 1), (2, .int c), (3, .long v)]) (st' := [.int 0]) rfl rfl ?_
  refine rn_p (pc' := 3) (lv' := [(5, .int 0), (0, .ref 42), (1, .int 1), (2, .int c), (3, .long v)]) (st' := []) rfl rfl ?_
  refine rn_p (pc' := 4) (lv' := [(5, .int 0), (0, .ref 42), (1, .int 1), (2, .int c), (3, .long v)]) (st' := [.int 0]) rfl rfl ?_
  refine rn_p (pc' := 6) (lv' := [(6, .int 0), (5, .int 0), (0, .ref 42), (1, .int 1), (2, .int c), (3, .long v)]) (st' := []) rfl rfl ?_
  refine rn_p (pc' := 7) (lv' := [(6, .int 0), (5, .int 0), (0, .ref 42), (1, .int 1), (2, .int c), (3, .long v)]) (st' := [.int 1]) rfl rfl ?_
  refine rn_cs (As := [.int 1]) (r := []) (v := (some (.int 1))) (g := hp0) (st2 := [.int 1]) (pc' := 10) rfl rfl rfl rfl rfl ?_ ?_
  · refine rn_p (pc' := 1) (lv' := [(0, .int 1)]) (st' := [.int 1]) rfl rfl ?_
    refine rn_p (pc' := 4) (lv' := [(0, .int 1)]) (st' := []) rfl rfl ?_
    refine rn_p (pc' := 5) (lv' := [(0, .int 1)]) (st' := [.int 1]) rfl rfl ?_
    refine rn_p (pc' := 6) (lv' := [(0, .int 1)]) (st' := [.int 2, .int 1]) rfl rfl ?_
    refine rn_p (pc' := 9) (lv' := [(0, .int 1)]) (st' := []) rfl rfl ?_
    refine rn_p (pc' := 10) (lv' := [(0, .int 1)]) (st' := [.int 1]) rfl rfl ?_
    refine rn_p (pc' := 14) (lv' := [(0, .int 1)]) (st' := [.int 1]) rfl rfl ?_
    exact rn_r rfl rfl
  refine rn_p (pc' := 13) (lv' := [(6, .int 0), (5, .int 0), (0, .ref 42), (1, .int 1), (2, .int c), (3, .long v)]) (st' := []) rfl rfl ?_
  refine rn_p (pc' := 14) (lv' := [(6, .int 0), (5, .int 0), (0, .ref 42), (1, .int 1), (2, .int c), (3, .long v)]) (st' := [.int c]) rfl rfl ?_
  refine rn_f (pc' := 17) (lv' := [(6, .int 0), (5, .int 0), (0, .ref 42), (1, .int 1), (2, .int c), (3, .long v)]) (st' := []) rfl rfl h2 ?_
  refine rn_p (pc' := 18) (lv' := [(6, .int 0), (5, .int 0), (0, .ref 42), (1, .int 1), (2, .int c), (3, .long v)]) (st' := [.int c]) rfl rfl ?_
  refine rn_p (pc' := 19) (lv' := [(6, .int 0), (5, .int 0), (0, .ref 42), (1, .int 1), (2, .int c), (3, .long v)]) (st' := [.ref 42, .int c]) rfl rfl ?_
  refine rn_p (pc' := 22) (lv' := [(6, .int 0), (5, .int 0), (0, .ref 42), (1, .int 1), (2, .int c), (3, .long v)]) (st' := [.ref 56, .int c]) rfl rfl ?_
  refine rn_p (pc' := 23) (lv' := [(6, .int 0), (5, .int 0), (0, .ref 42), (1, .int 1), (2, .int c), (3, .long v)]) (st' := [.int 1, .ref 56, .int c]) rfl rfl ?_
  refine rn_p (pc' := 24) (lv' := [(6, .int 0), (5, .int 0), (0, .ref 42), (1, .int 1), (2, .int c), (3, .long v)]) (st' := [.int 0, .int c]) rfl rfl ?_
  refine rn_t (pc' := 76) (lv' := [(6, .int 0), (5, .int 0), (0, .ref 42), (1, .int 1), (2, .int c), (3, .long v)]) (st' := []) rfl rfl (t_ge0 h2) ?_
  refine rn_p (pc' := 78) (lv' := [(6, .int 0), (5, .int 0), (0, .ref 42), (1, .int 1), (2, .int c), (3, .long v)]) (st' := [.int 0]) rfl rfl ?_
  exact rn_r rfl rfl
theorem fm_count_1 (c : Int32) (v : Int64) : sm_run none 8 197 0 (lv_args 0 [.ref 42, .int 1, .int c, .long v]) [] hp0 (some (.int 0), hp0) := by
  by_cases h2 : c < 0
  · exact fm_count_1a c v h2
  · exact fm_count_1b c v h2
set_option maxRecDepth 20000 in
theorem fm_count_2a (c : Int32) (v : Int64) (h2 : c < 0) : sm_run none 8 197 0 (lv_args 0 [.ref 42, .int 2, .int c, .long v]) [] hp0 (some (.int 0), hp0) := by
  refine rn_p (pc' := 1) (lv' := [(0, .ref 42), (1, .int 2), (2, .int c), (3, .long v)]) (st' := [.int 0]) rfl rfl ?_
  refine rn_p (pc' := 3) (lv' := [(5, .int 0), (0, .ref 42), (1, .int 2), (2, .int c), (3, .long v)]) (st' := []) rfl rfl ?_
  refine rn_p (pc' := 4) (lv' := [(5, .int 0), (0, .ref 42), (1, .int 2), (2, .int c), (3, .long v)]) (st' := [.int 0]) rfl rfl ?_
  refine rn_p (pc' := 6) (lv' := [(6, .int 0), (5, .int 0), (0, .ref 42), (1, .int 2), (2, .int c), (3, .long v)]) (st' := []) rfl rfl ?_
  refine rn_p (pc' := 7) (lv' := [(6, .int 0), (5, .int 0), (0, .ref 42), (1, .int 2), (2, .int c), (3, .long v)]) (st' := [.int 2]) rfl rfl ?_
  refine rn_cs (As := [.int 2]) (r := []) (v := (some (.int 1))) (g := hp0) (st2 := [.int 1]) (pc' := 10) rfl rfl rfl rfl rfl ?_ ?_
  · refine rn_p (pc' := 1) (lv' := [(0, .int 2)]) (st' := [.int 2]) rfl rfl ?_
    refine rn_p (pc' := 4) (lv' := [(0, .int 2)]) (st' := []) rfl rfl ?_
    refine rn_p (pc' := 5) (lv' := [(0, .int 2)]) (st' := [.int 2]) rfl rfl ?_
    refine rn_p (pc' := 6) (lv' := [(0, .int 2)]) (st' := [.int 2, .int 2]) rfl rfl ?_
    refine rn_p (pc' := 9) (lv' := [(0, .int 2)]) (st' := []) rfl rfl ?_
    refine rn_p (pc' := 10) (lv' := [(0, .int 2)]) (st' := [.int 1]) rfl rfl ?_
    refine rn_p (pc' := 14) (lv' := [(0, .int 2)]) (st' := [.int 1]) rfl rfl ?_
    exact rn_r rfl rfl
  refine rn_p (pc' := 13) (lv' := [(6, .int 0), (5, .int 0), (0, .ref 42), (1, .int 2), (2, .int c), (3, .long v)]) (st' := []) rfl rfl ?_
  refine rn_p (pc' := 14) (lv' := [(6, .int 0), (5, .int 0), (0, .ref 42), (1, .int 2), (2, .int c), (3, .long v)]) (st' := [.int c]) rfl rfl ?_
  refine rn_t (pc' := 76) (lv' := [(6, .int 0), (5, .int 0), (0, .ref 42), (1, .int 2), (2, .int c), (3, .long v)]) (st' := []) rfl rfl h2 ?_
  refine rn_p (pc' := 78) (lv' := [(6, .int 0), (5, .int 0), (0, .ref 42), (1, .int 2), (2, .int c), (3, .long v)]) (st' := [.int 0]) rfl rfl ?_
  exact rn_r rfl rfl
set_option maxRecDepth 20000 in
theorem fm_count_2b (c : Int32) (v : Int64) (h2 : ¬ c < 0) : sm_run none 8 197 0 (lv_args 0 [.ref 42, .int 2, .int c, .long v]) [] hp0 (some (.int 0), hp0) := by
  refine rn_p (pc' := 1) (lv' := [(0, .ref 42), (1, .int 2), (2, .int c), (3, .long v)]) (st' := [.int 0]) rfl rfl ?_
  refine rn_p (pc' := 3) (lv' := [(5, .int 0), (0, .ref 42), (1, .int 2), (2, .int c), (3, .long v)]) (st' := []) rfl rfl ?_
  refine rn_p (pc' := 4) (lv' := [(5, .int 0), (0, .ref 42), (1, .int 2), (2, .int c), (3, .long v)]) (st' := [.int 0]) rfl rfl ?_
  refine rn_p (pc' := 6) (lv' := [(6, .int 0), (5, .int 0), (0, .ref 42), (1, .int 2), (2, .int c), (3, .long v)]) (st' := []) rfl rfl ?_
  refine rn_p (pc' := 7) (lv' := [(6, .int 0), (5, .int 0), (0, .ref 42), (1, .int 2), (2, .int c), (3, .long v)]) (st' := [.int 2]) rfl rfl ?_
  refine rn_cs (As := [.int 2]) (r := []) (v := (some (.int 1))) (g := hp0) (st2 := [.int 1]) (pc' := 10) rfl rfl rfl rfl rfl ?_ ?_
  · refine rn_p (pc' := 1) (lv' := [(0, .int 2)]) (st' := [.int 2]) rfl rfl ?_
    refine rn_p (pc' := 4) (lv' := [(0, .int 2)]) (st' := []) rfl rfl ?_
    refine rn_p (pc' := 5) (lv' := [(0, .int 2)]) (st' := [.int 2]) rfl rfl ?_
    refine rn_p (pc' := 6) (lv' := [(0, .int 2)]) (st' := [.int 2, .int 2]) rfl rfl ?_
    refine rn_p (pc' := 9) (lv' := [(0, .int 2)]) (st' := []) rfl rfl ?_
    refine rn_p (pc' := 10) (lv' := [(0, .int 2)]) (st' := [.int 1]) rfl rfl ?_
    refine rn_p (pc' := 14) (lv' := [(0, .int 2)]) (st' := [.int 1]) rfl rfl ?_
    exact rn_r rfl rfl
  refine rn_p (pc' := 13) (lv' := [(6, .int 0), (5, .int 0), (0, .ref 42), (1, .int 2), (2, .int c), (3, .long v)]) (st' := []) rfl rfl ?_
  refine rn_p (pc' := 14) (lv' := [(6, .int 0), (5, .int 0), (0, .ref 42), (1, .int 2), (2, .int c), (3, .long v)]) (st' := [.int c]) rfl rfl ?_
  refine rn_f (pc' := 17) (lv' := [(6, .int 0), (5, .int 0), (0, .ref 42), (1, .int 2), (2, .int c), (3, .long v)]) (st' := []) rfl rfl h2 ?_
  refine rn_p (pc' := 18) (lv' := [(6, .int 0), (5, .int 0), (0, .ref 42), (1, .int 2), (2, .int c), (3, .long v)]) (st' := [.int c]) rfl rfl ?_
  refine rn_p (pc' := 19) (lv' := [(6, .int 0), (5, .int 0), (0, .ref 42), (1, .int 2), (2, .int c), (3, .long v)]) (st' := [.ref 42, .int c]) rfl rfl ?_
  refine rn_p (pc' := 22) (lv' := [(6, .int 0), (5, .int 0), (0, .ref 42), (1, .int 2), (2, .int c), (3, .long v)]) (st' := [.ref 56, .int c]) rfl rfl ?_
  refine rn_p (pc' := 23) (lv' := [(6, .int 0), (5, .int 0), (0, .ref 42), (1, .int 2), (2, .int c), (3, .long v)]) (st' := [.int 2, .ref 56, .int c]) rfl rfl ?_
  refine rn_p (pc' := 24) (lv' := [(6, .int 0), (5, .int 0), (0, .ref 42), (1, .int 2), (2, .int c), (3, .long v)]) (st' := [.int 0, .int c]) rfl rfl ?_
  refine rn_t (pc' := 76) (lv' := [(6, .int 0), (5, .int 0), (0, .ref 42), (1, .int 2), (2, .int c), (3, .long v)]) (st' := []) rfl rfl (t_ge0 h2) ?_
  refine rn_p (pc' := 78) (lv' := [(6, .int 0), (5, .int 0), (0, .ref 42), (1, .int 2), (2, .int c), (3, .long v)]) (st' := [.int 0]) rfl rfl ?_
  exact rn_r rfl rfl
theorem fm_count_2 (c : Int32) (v : Int64) : sm_run none 8 197 0 (lv_args 0 [.ref 42, .int 2, .int c, .long v]) [] hp0 (some (.int 0), hp0) := by
  by_cases h2 : c < 0
  · exact fm_count_2a c v h2
  · exact fm_count_2b c v h2
set_option maxRecDepth 20000 in
theorem fm_count (t c : Int32) (v : Int64) : sm_run none 8 197 0 (lv_args 0 [.ref 42, .int t, .int c, .long v]) [] hp0 (some (.int 0), hp0) := by
  rcases pk_ix t (n := 3) (by decide) with h1 | h1 | ⟨j, hj, rfl⟩
  · exact fm_count_n t c v h1
  · exact fm_count_h t c v h1
  · rcases (show j = 0 ∨ j = 1 ∨ j = 2 by omega) with rfl | rfl | rfl
    · exact fm_count_0 c v
    · exact fm_count_1 c v
    · exact fm_count_2 c v
set_option maxRecDepth 20000 in
theorem fm_indexed_n (t c : Int32) (h1 : t < 0) : sm_run none 8 195 0 (lv_args 0 [.ref 42, .int t, .int c]) [] hp0 (some (.int 0), hp0) := by
  refine rn_p (pc' := 1) (lv' := [(0, .ref 42), (1, .int t), (2, .int c)]) (st' := [.int t]) rfl rfl ?_
  refine rn_cs (As := [.int t]) (r := []) (v := (some (.int 0))) (g := hp0) (st2 := [.int 0]) (pc' := 4) rfl rfl rfl rfl rfl ?_ ?_
  · refine rn_p (pc' := 1) (lv' := [(0, .int t)]) (st' := [.int t]) rfl rfl ?_
    refine rn_t (pc' := 13) (lv' := [(0, .int t)]) (st' := []) rfl rfl h1 ?_
    refine rn_p (pc' := 14) (lv' := [(0, .int t)]) (st' := [.int 0]) rfl rfl ?_
    exact rn_r rfl rfl
  refine rn_p (pc' := 33) (lv' := [(0, .ref 42), (1, .int t), (2, .int c)]) (st' := []) rfl rfl ?_
  refine rn_p (pc' := 34) (lv' := [(0, .ref 42), (1, .int t), (2, .int c)]) (st' := [.int 0]) rfl rfl ?_
  exact rn_r rfl rfl
set_option maxRecDepth 20000 in
theorem fm_indexed_h (t c : Int32) (h1 : 3 ≤ t) : sm_run none 8 195 0 (lv_args 0 [.ref 42, .int t, .int c]) [] hp0 (some (.int 0), hp0) := by
  refine rn_p (pc' := 1) (lv' := [(0, .ref 42), (1, .int t), (2, .int c)]) (st' := [.int t]) rfl rfl ?_
  refine rn_cs (As := [.int t]) (r := []) (v := (some (.int 0))) (g := hp0) (st2 := [.int 0]) (pc' := 4) rfl rfl rfl rfl rfl ?_ ?_
  · refine rn_p (pc' := 1) (lv' := [(0, .int t)]) (st' := [.int t]) rfl rfl ?_
    refine rn_f (pc' := 4) (lv' := [(0, .int t)]) (st' := []) rfl rfl (t3_hi h1).1 ?_
    refine rn_p (pc' := 5) (lv' := [(0, .int t)]) (st' := [.int t]) rfl rfl ?_
    refine rn_p (pc' := 6) (lv' := [(0, .int t)]) (st' := [.int 2, .int t]) rfl rfl ?_
    refine rn_t (pc' := 13) (lv' := [(0, .int t)]) (st' := []) rfl rfl (t3_hi h1).2 ?_
    refine rn_p (pc' := 14) (lv' := [(0, .int t)]) (st' := [.int 0]) rfl rfl ?_
    exact rn_r rfl rfl
  refine rn_p (pc' := 33) (lv' := [(0, .ref 42), (1, .int t), (2, .int c)]) (st' := []) rfl rfl ?_
  refine rn_p (pc' := 34) (lv' := [(0, .ref 42), (1, .int t), (2, .int c)]) (st' := [.int 0]) rfl rfl ?_
  exact rn_r rfl rfl
set_option maxRecDepth 20000 in
theorem fm_indexed_0a (c : Int32) (h2 : c < 0) : sm_run none 8 195 0 (lv_args 0 [.ref 42, .int 0, .int c]) [] hp0 (some (.int 0), hp0) := by
  refine rn_p (pc' := 1) (lv' := [(0, .ref 42), (1, .int 0), (2, .int c)]) (st' := [.int 0]) rfl rfl ?_
  refine rn_cs (As := [.int 0]) (r := []) (v := (some (.int 1))) (g := hp0) (st2 := [.int 1]) (pc' := 4) rfl rfl rfl rfl rfl ?_ ?_
  · refine rn_p (pc' := 1) (lv' := [(0, .int 0)]) (st' := [.int 0]) rfl rfl ?_
    refine rn_p (pc' := 4) (lv' := [(0, .int 0)]) (st' := []) rfl rfl ?_
    refine rn_p (pc' := 5) (lv' := [(0, .int 0)]) (st' := [.int 0]) rfl rfl ?_
    refine rn_p (pc' := 6) (lv' := [(0, .int 0)]) (st' := [.int 2, .int 0]) rfl rfl ?_
    refine rn_p (pc' := 9) (lv' := [(0, .int 0)]) (st' := []) rfl rfl ?_
    refine rn_p (pc' := 10) (lv' := [(0, .int 0)]) (st' := [.int 1]) rfl rfl ?_
    refine rn_p (pc' := 14) (lv' := [(0, .int 0)]) (st' := [.int 1]) rfl rfl ?_
    exact rn_r rfl rfl
  refine rn_p (pc' := 7) (lv' := [(0, .ref 42), (1, .int 0), (2, .int c)]) (st' := []) rfl rfl ?_
  refine rn_p (pc' := 8) (lv' := [(0, .ref 42), (1, .int 0), (2, .int c)]) (st' := [.int c]) rfl rfl ?_
  refine rn_t (pc' := 33) (lv' := [(0, .ref 42), (1, .int 0), (2, .int c)]) (st' := []) rfl rfl h2 ?_
  refine rn_p (pc' := 34) (lv' := [(0, .ref 42), (1, .int 0), (2, .int c)]) (st' := [.int 0]) rfl rfl ?_
  exact rn_r rfl rfl
set_option maxRecDepth 20000 in
theorem fm_indexed_0b (c : Int32) (h2 : 4 ≤ c) : sm_run none 8 195 0 (lv_args 0 [.ref 42, .int 0, .int c]) [] hp0 (some (.int 0), hp0) := by
  refine rn_p (pc' := 1) (lv' := [(0, .ref 42), (1, .int 0), (2, .int c)]) (st' := [.int 0]) rfl rfl ?_
  refine rn_cs (As := [.int 0]) (r := []) (v := (some (.int 1))) (g := hp0) (st2 := [.int 1]) (pc' := 4) rfl rfl rfl rfl rfl ?_ ?_
  · refine rn_p (pc' := 1) (lv' := [(0, .int 0)]) (st' := [.int 0]) rfl rfl ?_
    refine rn_p (pc' := 4) (lv' := [(0, .int 0)]) (st' := []) rfl rfl ?_
    refine rn_p (pc' := 5) (lv' := [(0, .int 0)]) (st' := [.int 0]) rfl rfl ?_
    refine rn_p (pc' := 6) (lv' := [(0, .int 0)]) (st' := [.int 2, .int 0]) rfl rfl ?_
    refine rn_p (pc' := 9) (lv' := [(0, .int 0)]) (st' := []) rfl rfl ?_
    refine rn_p (pc' := 10) (lv' := [(0, .int 0)]) (st' := [.int 1]) rfl rfl ?_
    refine rn_p (pc' := 14) (lv' := [(0, .int 0)]) (st' := [.int 1]) rfl rfl ?_
    exact rn_r rfl rfl
  refine rn_p (pc' := 7) (lv' := [(0, .ref 42), (1, .int 0), (2, .int c)]) (st' := []) rfl rfl ?_
  refine rn_p (pc' := 8) (lv' := [(0, .ref 42), (1, .int 0), (2, .int c)]) (st' := [.int c]) rfl rfl ?_
  refine rn_f (pc' := 11) (lv' := [(0, .ref 42), (1, .int 0), (2, .int c)]) (st' := []) rfl rfl (t4_hi h2).1 ?_
  refine rn_p (pc' := 12) (lv' := [(0, .ref 42), (1, .int 0), (2, .int c)]) (st' := [.int c]) rfl rfl ?_
  refine rn_p (pc' := 13) (lv' := [(0, .ref 42), (1, .int 0), (2, .int c)]) (st' := [.int 3, .int c]) rfl rfl ?_
  refine rn_t (pc' := 33) (lv' := [(0, .ref 42), (1, .int 0), (2, .int c)]) (st' := []) rfl rfl (t4_hi h2).2 ?_
  refine rn_p (pc' := 34) (lv' := [(0, .ref 42), (1, .int 0), (2, .int c)]) (st' := [.int 0]) rfl rfl ?_
  exact rn_r rfl rfl
theorem fm_indexed_0_0 : sm_run none 8 195 0 (lv_args 0 [.ref 42, .int 0, .int 0]) [] hp0 (some (.int 0), hp0) := ⟨100, sm_dec (by decide +kernel)⟩
theorem fm_indexed_0_1 : sm_run none 8 195 0 (lv_args 0 [.ref 42, .int 0, .int 1]) [] hp0 (some (.int 0), hp0) := ⟨100, sm_dec (by decide +kernel)⟩
theorem fm_indexed_0_2 : sm_run none 8 195 0 (lv_args 0 [.ref 42, .int 0, .int 2]) [] hp0 (some (.int 0), hp0) := ⟨100, sm_dec (by decide +kernel)⟩
theorem fm_indexed_0_3 : sm_run none 8 195 0 (lv_args 0 [.ref 42, .int 0, .int 3]) [] hp0 (some (.int 0), hp0) := ⟨100, sm_dec (by decide +kernel)⟩
theorem fm_indexed_0 (c : Int32) : sm_run none 8 195 0 (lv_args 0 [.ref 42, .int 0, .int c]) [] hp0 (some (.int 0), hp0) := by
  rcases pk_ix c (n := 4) (by decide) with h2 | h2 | ⟨i, hi, rfl⟩
  · exact fm_indexed_0a c h2
  · exact fm_indexed_0b c h2
  · rcases (show i = 0 ∨ i = 1 ∨ i = 2 ∨ i = 3 by omega) with rfl | rfl | rfl | rfl
    · exact fm_indexed_0_0
    · exact fm_indexed_0_1
    · exact fm_indexed_0_2
    · exact fm_indexed_0_3
set_option maxRecDepth 20000 in
theorem fm_indexed_1a (c : Int32) (h2 : c < 0) : sm_run none 8 195 0 (lv_args 0 [.ref 42, .int 1, .int c]) [] hp0 (some (.int 0), hp0) := by
  refine rn_p (pc' := 1) (lv' := [(0, .ref 42), (1, .int 1), (2, .int c)]) (st' := [.int 1]) rfl rfl ?_
  refine rn_cs (As := [.int 1]) (r := []) (v := (some (.int 1))) (g := hp0) (st2 := [.int 1]) (pc' := 4) rfl rfl rfl rfl rfl ?_ ?_
  · refine rn_p (pc' := 1) (lv' := [(0, .int 1)]) (st' := [.int 1]) rfl rfl ?_
    refine rn_p (pc' := 4) (lv' := [(0, .int 1)]) (st' := []) rfl rfl ?_
    refine rn_p (pc' := 5) (lv' := [(0, .int 1)]) (st' := [.int 1]) rfl rfl ?_
    refine rn_p (pc' := 6) (lv' := [(0, .int 1)]) (st' := [.int 2, .int 1]) rfl rfl ?_
    refine rn_p (pc' := 9) (lv' := [(0, .int 1)]) (st' := []) rfl rfl ?_
    refine rn_p (pc' := 10) (lv' := [(0, .int 1)]) (st' := [.int 1]) rfl rfl ?_
    refine rn_p (pc' := 14) (lv' := [(0, .int 1)]) (st' := [.int 1]) rfl rfl ?_
    exact rn_r rfl rfl
  refine rn_p (pc' := 7) (lv' := [(0, .ref 42), (1, .int 1), (2, .int c)]) (st' := []) rfl rfl ?_
  refine rn_p (pc' := 8) (lv' := [(0, .ref 42), (1, .int 1), (2, .int c)]) (st' := [.int c]) rfl rfl ?_
  refine rn_t (pc' := 33) (lv' := [(0, .ref 42), (1, .int 1), (2, .int c)]) (st' := []) rfl rfl h2 ?_
  refine rn_p (pc' := 34) (lv' := [(0, .ref 42), (1, .int 1), (2, .int c)]) (st' := [.int 0]) rfl rfl ?_
  exact rn_r rfl rfl
set_option maxRecDepth 20000 in
theorem fm_indexed_1b (c : Int32) (h2 : 4 ≤ c) : sm_run none 8 195 0 (lv_args 0 [.ref 42, .int 1, .int c]) [] hp0 (some (.int 0), hp0) := by
  refine rn_p (pc' := 1) (lv' := [(0, .ref 42), (1, .int 1), (2, .int c)]) (st' := [.int 1]) rfl rfl ?_
  refine rn_cs (As := [.int 1]) (r := []) (v := (some (.int 1))) (g := hp0) (st2 := [.int 1]) (pc' := 4) rfl rfl rfl rfl rfl ?_ ?_
  · refine rn_p (pc' := 1) (lv' := [(0, .int 1)]) (st' := [.int 1]) rfl rfl ?_
    refine rn_p (pc' := 4) (lv' := [(0, .int 1)]) (st' := []) rfl rfl ?_
    refine rn_p (pc' := 5) (lv' := [(0, .int 1)]) (st' := [.int 1]) rfl rfl ?_
    refine rn_p (pc' := 6) (lv' := [(0, .int 1)]) (st' := [.int 2, .int 1]) rfl rfl ?_
    refine rn_p (pc' := 9) (lv' := [(0, .int 1)]) (st' := []) rfl rfl ?_
    refine rn_p (pc' := 10) (lv' := [(0, .int 1)]) (st' := [.int 1]) rfl rfl ?_
    refine rn_p (pc' := 14) (lv' := [(0, .int 1)]) (st' := [.int 1]) rfl rfl ?_
    exact rn_r rfl rfl
  refine rn_p (pc' := 7) (lv' := [(0, .ref 42), (1, .int 1), (2, .int c)]) (st' := []) rfl rfl ?_
  refine rn_p (pc' := 8) (lv' := [(0, .ref 42), (1, .int 1), (2, .int c)]) (st' := [.int c]) rfl rfl ?_
  refine rn_f (pc' := 11) (lv' := [(0, .ref 42), (1, .int 1), (2, .int c)]) (st' := []) rfl rfl (t4_hi h2).1 ?_
  refine rn_p (pc' := 12) (lv' := [(0, .ref 42), (1, .int 1), (2, .int c)]) (st' := [.int c]) rfl rfl ?_
  refine rn_p (pc' := 13) (lv' := [(0, .ref 42), (1, .int 1), (2, .int c)]) (st' := [.int 3, .int c]) rfl rfl ?_
  refine rn_t (pc' := 33) (lv' := [(0, .ref 42), (1, .int 1), (2, .int c)]) (st' := []) rfl rfl (t4_hi h2).2 ?_
  refine rn_p (pc' := 34) (lv' := [(0, .ref 42), (1, .int 1), (2, .int c)]) (st' := [.int 0]) rfl rfl ?_
  exact rn_r rfl rfl
theorem fm_indexed_1_0 : sm_run none 8 195 0 (lv_args 0 [.ref 42, .int 1, .int 0]) [] hp0 (some (.int 0), hp0) := ⟨100, sm_dec (by decide +kernel)⟩
theorem fm_indexed_1_1 : sm_run none 8 195 0 (lv_args 0 [.ref 42, .int 1, .int 1]) [] hp0 (some (.int 0), hp0) := ⟨100, sm_dec (by decide +kernel)⟩
theorem fm_indexed_1_2 : sm_run none 8 195 0 (lv_args 0 [.ref 42, .int 1, .int 2]) [] hp0 (some (.int 0), hp0) := ⟨100, sm_dec (by decide +kernel)⟩
theorem fm_indexed_1_3 : sm_run none 8 195 0 (lv_args 0 [.ref 42, .int 1, .int 3]) [] hp0 (some (.int 0), hp0) := ⟨100, sm_dec (by decide +kernel)⟩
theorem fm_indexed_1 (c : Int32) : sm_run none 8 195 0 (lv_args 0 [.ref 42, .int 1, .int c]) [] hp0 (some (.int 0), hp0) := by
  rcases pk_ix c (n := 4) (by decide) with h2 | h2 | ⟨i, hi, rfl⟩
  · exact fm_indexed_1a c h2
  · exact fm_indexed_1b c h2
  · rcases (show i = 0 ∨ i = 1 ∨ i = 2 ∨ i = 3 by omega) with rfl | rfl | rfl | rfl
    · exact fm_indexed_1_0
    · exact fm_indexed_1_1
    · exact fm_indexed_1_2
    · exact fm_indexed_1_3
set_option maxRecDepth 20000 in
theorem fm_indexed_2a (c : Int32) (h2 : c < 0) : sm_run none 8 195 0 (lv_args 0 [.ref 42, .int 2, .int c]) [] hp0 (some (.int 0), hp0) := by
  refine rn_p (pc' := 1) (lv' := [(0, .ref 42), (1, .int 2), (2, .int c)]) (st' := [.int 2]) rfl rfl ?_
  refine rn_cs (As := [.int 2]) (r := []) (v := (some (.int 1))) (g := hp0) (st2 := [.int 1]) (pc' := 4) rfl rfl rfl rfl rfl ?_ ?_
  · refine rn_p (pc' := 1) (lv' := [(0, .int 2)]) (st' := [.int 2]) rfl rfl ?_
    refine rn_p (pc' := 4) (lv' := [(0, .int 2)]) (st' := []) rfl rfl ?_
    refine rn_p (pc' := 5) (lv' := [(0, .int 2)]) (st' := [.int 2]) rfl rfl ?_
    refine rn_p (pc' := 6) (lv' := [(0, .int 2)]) (st' := [.int 2, .int 2]) rfl rfl ?_
    refine rn_p (pc' := 9) (lv' := [(0, .int 2)]) (st' := []) rfl rfl ?_
    refine rn_p (pc' := 10) (lv' := [(0, .int 2)]) (st' := [.int 1]) rfl rfl ?_
    refine rn_p (pc' := 14) (lv' := [(0, .int 2)]) (st' := [.int 1]) rfl rfl ?_
    exact rn_r rfl rfl
  refine rn_p (pc' := 7) (lv' := [(0, .ref 42), (1, .int 2), (2, .int c)]) (st' := []) rfl rfl ?_
  refine rn_p (pc' := 8) (lv' := [(0, .ref 42), (1, .int 2), (2, .int c)]) (st' := [.int c]) rfl rfl ?_
  refine rn_t (pc' := 33) (lv' := [(0, .ref 42), (1, .int 2), (2, .int c)]) (st' := []) rfl rfl h2 ?_
  refine rn_p (pc' := 34) (lv' := [(0, .ref 42), (1, .int 2), (2, .int c)]) (st' := [.int 0]) rfl rfl ?_
  exact rn_r rfl rfl
set_option maxRecDepth 20000 in
theorem fm_indexed_2b (c : Int32) (h2 : 4 ≤ c) : sm_run none 8 195 0 (lv_args 0 [.ref 42, .int 2, .int c]) [] hp0 (some (.int 0), hp0) := by
  refine rn_p (pc' := 1) (lv' := [(0, .ref 42), (1, .int 2), (2, .int c)]) (st' := [.int 2]) rfl rfl ?_
  refine rn_cs (As := [.int 2]) (r := []) (v := (some (.int 1))) (g := hp0) (st2 := [.int 1]) (pc' := 4) rfl rfl rfl rfl rfl ?_ ?_
  · refine rn_p (pc' := 1) (lv' := [(0, .int 2)]) (st' := [.int 2]) rfl rfl ?_
    refine rn_p (pc' := 4) (lv' := [(0, .int 2)]) (st' := []) rfl rfl ?_
    refine rn_p (pc' := 5) (lv' := [(0, .int 2)]) (st' := [.int 2]) rfl rfl ?_
    refine rn_p (pc' := 6) (lv' := [(0, .int 2)]) (st' := [.int 2, .int 2]) rfl rfl ?_
    refine rn_p (pc' := 9) (lv' := [(0, .int 2)]) (st' := []) rfl rfl ?_
    refine rn_p (pc' := 10) (lv' := [(0, .int 2)]) (st' := [.int 1]) rfl rfl ?_
    refine rn_p (pc' := 14) (lv' := [(0, .int 2)]) (st' := [.int 1]) rfl rfl ?_
    exact rn_r rfl rfl
  refine rn_p (pc' := 7) (lv' := [(0, .ref 42), (1, .int 2), (2, .int c)]) (st' := []) rfl rfl ?_
  refine rn_p (pc' := 8) (lv' := [(0, .ref 42), (1, .int 2), (2, .int c)]) (st' := [.int c]) rfl rfl ?_
  refine rn_f (pc' := 11) (lv' := [(0, .ref 42), (1, .int 2), (2, .int c)]) (st' := []) rfl rfl (t4_hi h2).1 ?_
  refine rn_p (pc' := 12) (lv' := [(0, .ref 42), (1, .int 2), (2, .int c)]) (st' := [.int c]) rfl rfl ?_
  refine rn_p (pc' := 13) (lv' := [(0, .ref 42), (1, .int 2), (2, .int c)]) (st' := [.int 3, .int c]) rfl rfl ?_
  refine rn_t (pc' := 33) (lv' := [(0, .ref 42), (1, .int 2), (2, .int c)]) (st' := []) rfl rfl (t4_hi h2).2 ?_
  refine rn_p (pc' := 34) (lv' := [(0, .ref 42), (1, .int 2), (2, .int c)]) (st' := [.int 0]) rfl rfl ?_
  exact rn_r rfl rfl
theorem fm_indexed_2_0 : sm_run none 8 195 0 (lv_args 0 [.ref 42, .int 2, .int 0]) [] hp0 (some (.int 0), hp0) := ⟨100, sm_dec (by decide +kernel)⟩
theorem fm_indexed_2_1 : sm_run none 8 195 0 (lv_args 0 [.ref 42, .int 2, .int 1]) [] hp0 (some (.int 0), hp0) := ⟨100, sm_dec (by decide +kernel)⟩
theorem fm_indexed_2_2 : sm_run none 8 195 0 (lv_args 0 [.ref 42, .int 2, .int 2]) [] hp0 (some (.int 0), hp0) := ⟨100, sm_dec (by decide +kernel)⟩
theorem fm_indexed_2_3 : sm_run none 8 195 0 (lv_args 0 [.ref 42, .int 2, .int 3]) [] hp0 (some (.int 0), hp0) := ⟨100, sm_dec (by decide +kernel)⟩
theorem fm_indexed_2 (c : Int32) : sm_run none 8 195 0 (lv_args 0 [.ref 42, .int 2, .int c]) [] hp0 (some (.int 0), hp0) := by
  rcases pk_ix c (n := 4) (by decide) with h2 | h2 | ⟨i, hi, rfl⟩
  · exact fm_indexed_2a c h2
  · exact fm_indexed_2b c h2
  · rcases (show i = 0 ∨ i = 1 ∨ i = 2 ∨ i = 3 by omega) with rfl | rfl | rfl | rfl
    · exact fm_indexed_2_0
    · exact fm_indexed_2_1
    · exact fm_indexed_2_2
    · exact fm_indexed_2_3
set_option maxRecDepth 20000 in
theorem fm_indexed (t c : Int32) : sm_run none 8 195 0 (lv_args 0 [.ref 42, .int t, .int c]) [] hp0 (some (.int 0), hp0) := by
  rcases pk_ix t (n := 3) (by decide) with h1 | h1 | ⟨j, hj, rfl⟩
  · exact fm_indexed_n t c h1
  · exact fm_indexed_h t c h1
  · rcases (show j = 0 ∨ j = 1 ∨ j = 2 by omega) with rfl | rfl | rfl
    · exact fm_indexed_0 c
    · exact fm_indexed_1 c
    · exact fm_indexed_2 c
theorem fx_value (r c : Int32) : sm_run none 8 8 0 (lv_args 0 [.ref 0, .int r, .int c]) [] hp0 (some (.long 2199023255552), hp0) := by
  by_cases h1 : r < 0
  · exact fx_value_n r c h1
  · exact fx_value_p r c h1
set_option maxRecDepth 20000 in
theorem fx_type_1 (c : Int32) (h1 : c < 32) : sm_run none 8 2 0 (lv_args 0 [.ref 0, .int c]) [] hp0 (some (.int 0), hp0) := by
  refine rn_p (pc' := 1) (lv' := [(0, .ref 0), (1, .int c)]) (st' := [.int c]) rfl rfl ?_
  refine rn_p (pc' := 3) (lv' := [(0, .ref 0), (1, .int c)]) (st' := [.int 32, .int c]) rfl rfl ?_
  refine rn_t (pc' := 21) (lv' := [(0, .ref 0), (1, .int c)]) (st' := []) rfl rfl h1 ?_
  refine rn_p (pc' := 22) (lv' := [(0, .ref 0), (1, .int c)]) (st' := [.int 0]) rfl rfl ?_
  exact rn_r rfl rfl
set_option maxRecDepth 20000 in
theorem fx_type_2 (c : Int32) (h1 : ¬ c < 32) (h2 : 126 < c) : sm_run none 8 2 0 (lv_args 0 [.ref 0, .int c]) [] hp0 (some (.int 0), hp0) := by
  refine rn_p (pc' := 1) (lv' := [(0, .ref 0), (1, .int c)]) (st' := [.int c]) rfl rfl ?_
  refine rn_p (pc' := 3) (lv' := [(0, .ref 0), (1, .int c)]) (st' := [.int 32, .int c]) rfl rfl ?_
  refine rn_f (pc' := 6) (lv' := [(0, .ref 0), (1, .int c)]) (st' := []) rfl rfl h1 ?_
  refine rn_p (pc' := 7) (lv' := [(0, .ref 0), (1, .int c)]) (st' := [.int c]) rfl rfl ?_
  refine rn_p (pc' := 9) (lv' := [(0, .ref 0), (1, .int c)]) (st' := [.int 126, .int c]) rfl rfl ?_
  refine rn_t (pc' := 21) (lv' := [(0, .ref 0), (1, .int c)]) (st' := []) rfl rfl h2 ?_
  refine rn_p (pc' := 22) (lv' := [(0, .ref 0), (1, .int c)]) (st' := [.int 0]) rfl rfl ?_
  exact rn_r rfl rfl
set_option maxRecDepth 20000 in
theorem fx_type_3 (c : Int32) (h1 : ¬ c < 32) (h2 : ¬ 126 < c) : sm_run none 8 2 0 (lv_args 0 [.ref 0, .int c]) [] hp0 (some (.int 1), ((hp0.set 1 (.inl (2, .inl ((List.replicate 80 0).set (0 : Int32).toNatClampNeg (vp_nar .char c))))).set 0 (.inr (0, [.ref 1, .ref 2, .ref 12, .ref 17, .ref 23, .ref 25, .ref 29, .ref 30, .ref 40, .ref 41, .int 1, .int 0, .int 0, .int 0, .int 0])))) := by
  refine rn_p (pc' := 1) (lv' := [(0, .ref 0), (1, .int c)]) (st' := [.int c]) rfl rfl ?_
  refine rn_p (pc' := 3) (lv' := [(0, .ref 0), (1, .int c)]) (st' := [.int 32, .int c]) rfl rfl ?_
  refine rn_f (pc' := 6) (lv' := [(0, .ref 0), (1, .int c)]) (st' := []) rfl rfl h1 ?_
  refine rn_p (pc' := 7) (lv' := [(0, .ref 0), (1, .int c)]) (st' := [.int c]) rfl rfl ?_
  refine rn_p (pc' := 9) (lv' := [(0, .ref 0), (1, .int c)]) (st' := [.int 126, .int c]) rfl rfl ?_
  refine rn_f (pc' := 12) (lv' := [(0, .ref 0), (1, .int c)]) (st' := []) rfl rfl h2 ?_
  refine rn_p (pc' := 13) (lv' := [(0, .ref 0), (1, .int c)]) (st' := [.ref 0]) rfl rfl ?_
  refine rn_p (pc' := 16) (lv' := [(0, .ref 0), (1, .int c)]) (st' := [.int 0]) rfl rfl ?_
  refine rn_p (pc' := 18) (lv' := [(0, .ref 0), (1, .int c)]) (st' := [.int 80, .int 0]) rfl rfl ?_
  refine rn_p (pc' := 23) (lv' := [(0, .ref 0), (1, .int c)]) (st' := []) rfl rfl ?_
  refine rn_p (pc' := 24) (lv' := [(0, .ref 0), (1, .int c)]) (st' := [.ref 0]) rfl rfl ?_
  refine rn_p (pc' := 27) (lv' := [(0, .ref 0), (1, .int c)]) (st' := [.ref 1]) rfl rfl ?_
  refine rn_p (pc' := 28) (lv' := [(0, .ref 0), (1, .int c)]) (st' := [.ref 0, .ref 1]) rfl rfl ?_
  refine rn_p (pc' := 31) (lv' := [(0, .ref 0), (1, .int c)]) (st' := [.int 0, .ref 1]) rfl rfl ?_
  refine rn_p (pc' := 32) (lv' := [(0, .ref 0), (1, .int c)]) (st' := [.int c, .int 0, .ref 1]) rfl rfl ?_
  refine rn_cst (g := List.replicate 80 0) (pc' := 33) rfl rfl (by decide) rfl ?_
  refine rn_p (pc' := 34) (lv' := [(0, .ref 0), (1, .int c)]) (st' := [.ref 0]) rfl rfl ?_
  refine rn_p (pc' := 35) (lv' := [(0, .ref 0), (1, .int c)]) (st' := [.ref 0, .ref 0]) rfl rfl ?_
  refine rn_p (pc' := 38) (lv' := [(0, .ref 0), (1, .int c)]) (st' := [.int 0, .ref 0]) rfl rfl ?_
  refine rn_p (pc' := 39) (lv' := [(0, .ref 0), (1, .int c)]) (st' := [.int 1, .int 0, .ref 0]) rfl rfl ?_
  refine rn_iadd (v := 1) (pc' := 40) rfl (by decide) rfl ?_
  refine rn_w (r := []) (q := 0) (x := .inr (0, [.ref 1, .ref 2, .ref 12, .ref 17, .ref 23, .ref 25, .ref 29, .ref 30, .ref 40, .ref 41, .int 1, .int 0, .int 0, .int 0, .int 0])) (pc' := 43) rfl rfl rfl ?_
  refine rn_p (pc' := 44) (lv' := [(0, .ref 0), (1, .int c)]) (st' := [.int 1]) rfl rfl ?_
  exact rn_r rfl rfl
set_option maxRecDepth 20000 in
theorem fm_type_1 (c : Int32) (h1 : c < 32) : sm_run none 8 132 0 (lv_args 0 [.ref 42, .int c]) [] hp0 (some (.int 0), hp0) := by
  refine rn_p (pc' := 1) (lv' := [(0, .ref 42), (1, .int c)]) (st' := [.int c]) rfl rfl ?_
  refine rn_p (pc' := 3) (lv' := [(0, .ref 42), (1, .int c)]) (st' := [.int 32, .int c]) rfl rfl ?_
  refine rn_t (pc' := 21) (lv' := [(0, .ref 42), (1, .int c)]) (st' := []) rfl rfl h1 ?_
  refine rn_p (pc' := 22) (lv' := [(0, .ref 42), (1, .int c)]) (st' := [.int 0]) rfl rfl ?_
  exact rn_r rfl rfl
set_option maxRecDepth 20000 in
theorem fm_type_2 (c : Int32) (h1 : ¬ c < 32) (h2 : 126 < c) : sm_run none 8 132 0 (lv_args 0 [.ref 42, .int c]) [] hp0 (some (.int 0), hp0) := by
  refine rn_p (pc' := 1) (lv' := [(0, .ref 42), (1, .int c)]) (st' := [.int c]) rfl rfl ?_
  refine rn_p (pc' := 3) (lv' := [(0, .ref 42), (1, .int c)]) (st' := [.int 32, .int c]) rfl rfl ?_
  refine rn_f (pc' := 6) (lv' := [(0, .ref 42), (1, .int c)]) (st' := []) rfl rfl h1 ?_
  refine rn_p (pc' := 7) (lv' := [(0, .ref 42), (1, .int c)]) (st' := [.int c]) rfl rfl ?_
  refine rn_p (pc' := 9) (lv' := [(0, .ref 42), (1, .int c)]) (st' := [.int 126, .int c]) rfl rfl ?_
  refine rn_t (pc' := 21) (lv' := [(0, .ref 42), (1, .int c)]) (st' := []) rfl rfl h2 ?_
  refine rn_p (pc' := 22) (lv' := [(0, .ref 42), (1, .int c)]) (st' := [.int 0]) rfl rfl ?_
  exact rn_r rfl rfl
set_option maxRecDepth 20000 in
theorem fm_type_3 (c : Int32) (h1 : ¬ c < 32) (h2 : ¬ 126 < c) : sm_run none 8 132 0 (lv_args 0 [.ref 42, .int c]) [] ((hp0.set 1 (.inl (2, .inl ((List.replicate 80 0).set (0 : Int32).toNatClampNeg (vp_nar .char c))))).set 0 (.inr (0, [.ref 1, .ref 2, .ref 12, .ref 17, .ref 23, .ref 25, .ref 29, .ref 30, .ref 40, .ref 41, .int 1, .int 0, .int 0, .int 0, .int 0]))) (some (.int 1), ((((hp0.set 1 (.inl (2, .inl ((List.replicate 80 0).set (0 : Int32).toNatClampNeg (vp_nar .char c))))).set 0 (.inr (0, [.ref 1, .ref 2, .ref 12, .ref 17, .ref 23, .ref 25, .ref 29, .ref 30, .ref 40, .ref 41, .int 1, .int 0, .int 0, .int 0, .int 0]))).set 43 (.inl (2, .inl ((List.replicate 100 0).set (0 : Int32).toNatClampNeg (vp_nar .char c))))).set 42 (.inr (10, [.ref 43, .int 1, .int 0, .ref 44, .ref 45, .int 0, .int 0, .int 0, .ref 46, .ref 47, .int 0, .ref 48, .int 0, .int 0, .ref 49, .int 0, .int 0, .int 0, .ref 50, .int 0, .int 0, .int 0, .int 0, .ref 51, .ref 52, .int 0, .int 0, .int 0, .int 0, .int 0, .int 0, .int 0, .int 0, .int 0, .int 0, .ref 53, .ref 54, .ref 55, .int 0, .int 0, .ref 56, .ref 57, .ref 58, .ref 59, .ref 60, .ref 61, .ref 62, .ref 63, .int 0, .ref 64, .ref 65, .ref 66, .ref 67, .int 0, .int 0, .ref 68, .int 0, .int 0, .int 0])))) := by
  refine rn_p (pc' := 1) (lv' := [(0, .ref 42), (1, .int c)]) (st' := [.int c]) rfl rfl ?_
  refine rn_p (pc' := 3) (lv' := [(0, .ref 42), (1, .int c)]) (st' := [.int 32, .int c]) rfl rfl ?_
  refine rn_f (pc' := 6) (lv' := [(0, .ref 42), (1, .int c)]) (st' := []) rfl rfl h1 ?_
  refine rn_p (pc' := 7) (lv' := [(0, .ref 42), (1, .int c)]) (st' := [.int c]) rfl rfl ?_
  refine rn_p (pc' := 9) (lv' := [(0, .ref 42), (1, .int c)]) (st' := [.int 126, .int c]) rfl rfl ?_
  refine rn_f (pc' := 12) (lv' := [(0, .ref 42), (1, .int c)]) (st' := []) rfl rfl h2 ?_
  refine rn_p (pc' := 13) (lv' := [(0, .ref 42), (1, .int c)]) (st' := [.ref 42]) rfl rfl ?_
  refine rn_p (pc' := 16) (lv' := [(0, .ref 42), (1, .int c)]) (st' := [.int 0]) rfl rfl ?_
  refine rn_p (pc' := 18) (lv' := [(0, .ref 42), (1, .int c)]) (st' := [.int 80, .int 0]) rfl rfl ?_
  refine rn_p (pc' := 23) (lv' := [(0, .ref 42), (1, .int c)]) (st' := []) rfl rfl ?_
  refine rn_p (pc' := 24) (lv' := [(0, .ref 42), (1, .int c)]) (st' := [.ref 42]) rfl rfl ?_
  refine rn_p (pc' := 27) (lv' := [(0, .ref 42), (1, .int c)]) (st' := [.ref 43]) rfl rfl ?_
  refine rn_p (pc' := 28) (lv' := [(0, .ref 42), (1, .int c)]) (st' := [.ref 42, .ref 43]) rfl rfl ?_
  refine rn_p (pc' := 31) (lv' := [(0, .ref 42), (1, .int c)]) (st' := [.int 0, .ref 43]) rfl rfl ?_
  refine rn_p (pc' := 32) (lv' := [(0, .ref 42), (1, .int c)]) (st' := [.int c, .int 0, .ref 43]) rfl rfl ?_
  refine rn_cst (g := List.replicate 100 0) (pc' := 33) rfl rfl (by decide) rfl ?_
  refine rn_p (pc' := 34) (lv' := [(0, .ref 42), (1, .int c)]) (st' := [.ref 42]) rfl rfl ?_
  refine rn_p (pc' := 35) (lv' := [(0, .ref 42), (1, .int c)]) (st' := [.ref 42, .ref 42]) rfl rfl ?_
  refine rn_p (pc' := 38) (lv' := [(0, .ref 42), (1, .int c)]) (st' := [.int 0, .ref 42]) rfl rfl ?_
  refine rn_p (pc' := 39) (lv' := [(0, .ref 42), (1, .int c)]) (st' := [.int 1, .int 0, .ref 42]) rfl rfl ?_
  refine rn_iadd (v := 1) (pc' := 40) rfl (by decide) rfl ?_
  refine rn_w (r := []) (q := 42) (x := .inr (10, [.ref 43, .int 1, .int 0, .ref 44, .ref 45, .int 0, .int 0, .int 0, .ref 46, .ref 47, .int 0, .ref 48, .int 0, .int 0, .ref 49, .int 0, .int 0, .int 0, .ref 50, .int 0, .int 0, .int 0, .int 0, .ref 51, .ref 52, .int 0, .int 0, .int 0, .int 0, .int 0, .int 0, .int 0, .int 0, .int 0, .int 0, .ref 53, .ref 54, .ref 55, .int 0, .int 0, .ref 56, .ref 57, .ref 58, .ref 59, .ref 60, .ref 61, .ref 62, .ref 63, .int 0, .ref 64, .ref 65, .ref 66, .ref 67, .int 0, .int 0, .ref 68, .int 0, .int 0, .int 0])) (pc' := 43) rfl rfl rfl ?_
  refine rn_p (pc' := 44) (lv' := [(0, .ref 42), (1, .int c)]) (st' := [.int 1]) rfl rfl ?_
  exact rn_r rfl rfl
