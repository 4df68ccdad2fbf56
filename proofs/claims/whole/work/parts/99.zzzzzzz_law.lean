/-! THE LAW'S LOOP: all of it -/
theorem l_loop {L : Nat} {xs : Nat → Int32} (hL : L ≤ 2560) : ∀ (n i : Nat) (m : Mm) (cl : List Nat) (D : Db) (P : Nat → List (List Int64)) (a : An), L - i ≤ n → i ≤ L + 5 → WS m cl D P a → RL0 L xs i 18 [] m := by
  intro n
  induction n with
  | zero =>
    intro i m cl D P a hn hi h
    exact l_out (by omega) hL (by omega) h.1
  | succ n ih =>
    intro i m cl D P a hn hi h
    rcases Nat.lt_or_ge L (i + 5) with h5 | h5
    · exact l_out h5 hL (by omega) h.1
    · have nx : ∀ m' cl D P a, WS m' cl D P a → RL0 L xs i 450 [] m' := fun m' cl D P a hw => l_foot (ih (i + 5) m' cl D P a (by omega) (by omega) hw)
      refine l_in h5 hL (l_sw h5 hL (fun j hj => ?_))
      rcases (by omega : j = 0 ∨ j = 1 ∨ j = 2 ∨ j = 3 ∨ j = 4 ∨ j = 5 ∨ j = 6 ∨ j = 7 ∨ j = 8 ∨ j = 9 ∨ j = 10 ∨ j = 11 ∨ j = 12 ∨ j = 13 ∨ j = 14 ∨ j = 15) with rfl | rfl | rfl | rfl | rfl | rfl | rfl | rfl | rfl | rfl | rfl | rfl | rfl | rfl | rfl | rfl
      · exact l_type h h5 hL (fun m' hw => nx m' _ _ _ _ hw)
      · exact l_erase h (fun m' hw => nx m' _ _ _ _ hw)
      · exact l_run h (fun m' P' hw => nx m' _ _ _ _ hw)
      · exact l_len h (nx m _ _ _ _ h)
      · exact l_rows h (nx m _ _ _ _ h)
      · exact l_wide h (nx m _ _ _ _ h)
      · exact l_val h h5 hL (nx m _ _ _ _ h)
      · exact l_reads h (nx m _ _ _ _ h)
      · exact l_plan h (nx m _ _ _ _ h)
      · exact l_cols h h5 hL (nx m _ _ _ _ h)
      · exact l_size h h5 hL (nx m _ _ _ _ h)
      · exact l_ix h h5 hL (nx m _ _ _ _ h)
      · exact l_cell h h5 hL (nx m _ _ _ _ h)
      · exact l_count h h5 hL (nx m _ _ _ _ h)
      · exact nx m _ _ _ _ h
      · exact nx m _ _ _ _ h
/-- the law ends with true -/
theorem law_true {L : Nat} (xs : Nat → Int32) (hL : L ≤ 2560) : ∃ m', Len m' ∧ sm_run (some (L, xs)) 60 0 0 [(0, .float 0)] [] [] (some (.int 1), hp m') := by
  obtain ⟨m', hm, hr⟩ := l_loop (xs := xs) hL L 0 m00 [] D00 (fun _ => []) an0 (by omega) (by omega) ws_00
  rw [hp_00] at hr
  exact ⟨m', hm, lw_pre hr⟩
