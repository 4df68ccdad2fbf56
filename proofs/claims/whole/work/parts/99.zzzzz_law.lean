/-! THE LAW'S LOOP: type -/
section O9z
variable {L i : Nat} {xs : Nat → Int32} {m : Mm} {cl : List Nat} {D : Db} {P : Nat → List (List Int64)} {a : An}
set_option maxRecDepth 20000 in
theorem l_type (h : WS m cl D P a) (h5 : i + 5 ≤ L) (hL : L ≤ 2560) (k : ∀ m', WS m' (tyL cl (vp_nar .char (xs (i + 1)))) D P a → RL0 L xs i 450 [] m') : RL0 L xs i 104 [] m := by
  refine l_p (pc' := 105) (st' := [.ref 0]) rfl rfl ?_
  refine l_p (pc' := 106) (st' := [.float 0, .ref 0]) rfl rfl ?_
  refine l_p (pc' := 107) (st' := [.int (nI i), .float 0, .ref 0]) rfl rfl ?_
  refine l_p (pc' := 108) (st' := [.int (nI 1), .int (nI i), .float 0, .ref 0]) rfl rfl ?_
  refine l_add (pc' := 109) rfl rfl ?_
  refine l_x (pc' := 110) rfl (by omega) hL rfl ?_
  refine l_p (pc' := 111) (st' := [.int (vp_nar .char (xs (i + 1))), .ref 0]) rfl rfl ?_
  obtain ⟨x, hx⟩ : ∃ x, x = vp_nar .char (xs (i + 1)) := ⟨_, rfl⟩
  rw [← hx] at k ⊢
  refine l_call (M := 2) (As := [.ref 0, .int x]) (r := []) (d := 40) rfl rfl (by decide) rfl (w_type (K := fun v m' => v = some (.int (bI (tyB cl x = true))) ∧ WS m' (tyL cl x) D P a) h (fun m' hw => ⟨rfl, hw⟩)) ?_
  rintro v m1 ⟨w, rfl, rfl, c2⟩
  refine l_p (pc' := 115) (st' := [.ref 42, .int (bI (tyB cl x = true))]) rfl rfl ?_
  refine l_p (pc' := 116) (st' := [.float 0, .ref 42, .int (bI (tyB cl x = true))]) rfl rfl ?_
  refine l_p (pc' := 117) (st' := [.int (nI i), .float 0, .ref 42, .int (bI (tyB cl x = true))]) rfl rfl ?_
  refine l_p (pc' := 118) (st' := [.int (nI 1), .int (nI i), .float 0, .ref 42, .int (bI (tyB cl x = true))]) rfl rfl ?_
  refine l_add (pc' := 119) rfl rfl ?_
  refine l_x (pc' := 120) rfl (by omega) hL rfl ?_
  refine l_p (pc' := 121) (st' := [.int (vp_nar .char (xs (i + 1))), .ref 42, .int (bI (tyB cl x = true))]) rfl rfl ?_
  rw [← hx]
  refine l_call (M := 132) (As := [.ref 42, .int x]) (r := [.int (bI (tyB cl x = true))]) (d := 40) rfl rfl (by decide) rfl c2 ?_
  rintro v m2 ⟨rfl, hw⟩
  obtain ⟨m', hm, hr⟩ := k m2 hw
  exact ⟨m', hm, rn_t (pc' := 450) (lv' := lvL i) (st' := []) rfl rfl rfl hr⟩
end O9z
