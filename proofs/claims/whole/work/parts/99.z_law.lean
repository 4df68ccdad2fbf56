/-! THE LAW'S LOOP: its head and its foot -/
section L9z
variable {L i pc pc' : Nat} {xs : Nat → Int32} {st st' st2 : List Value} {m : Mm}
set_option maxRecDepth 20000 in
theorem l_out (h : L < i + 5) (hL : L ≤ 2560) (hi : i ≤ 2600) (hm : Len m) : RL0 L xs i 18 [] m := by
  refine ⟨m, hm, ?_⟩
  refine rn_p (pc' := 19) (lv' := lvL i) (st' := [.int (nI i)]) rfl rfl ?_
  refine rn_p (pc' := 20) (lv' := lvL i) (st' := [.float 0, .int (nI i)]) rfl rfl ?_
  refine rn_p (pc' := 21) (lv' := lvL i) (st' := [.int (nI L), .int (nI i)]) rfl rfl ?_
  refine rn_p (pc' := 22) (lv' := lvL i) (st' := [.int (nI 5), .int (nI L), .int (nI i)]) rfl rfl ?_
  refine rn_isub (v := nI L - nI 5) (pc' := 23) rfl rfl rfl ?_
  refine rn_t (pc' := 456) (lv' := lvL i) (st' := []) rfl rfl ?_ ?_
  · show nI L - nI 5 < nI i
    rcases Nat.lt_or_ge L 5 with h5 | h5
    · have hi0 : (nI i).toInt = i := nI_toInt (by omega)
      rw [Int32.lt_iff_toInt_lt, hi0]
      have F : ∀ l : Fin 5, (nI l.val - nI 5).toInt < 0 := by decide
      have := F ⟨L, h5⟩
      have this : (nI L - nI 5).toInt < 0 := this
      omega
    · rw [nI_sb h5, nIlt (by omega) (by omega)]; omega
  · refine rn_p (pc' := 457) (lv' := lvL i) (st' := [.int 1]) rfl rfl ?_
    exact rn_r rfl rfl
set_option maxRecDepth 20000 in
theorem l_in (h : i + 5 ≤ L) (hL : L ≤ 2560) (k : RL0 L xs i 26 [] m) : RL0 L xs i 18 [] m := by
  obtain ⟨m', hm, hr⟩ := k
  refine ⟨m', hm, ?_⟩
  refine rn_p (pc' := 19) (lv' := lvL i) (st' := [.int (nI i)]) rfl rfl ?_
  refine rn_p (pc' := 20) (lv' := lvL i) (st' := [.float 0, .int (nI i)]) rfl rfl ?_
  refine rn_p (pc' := 21) (lv' := lvL i) (st' := [.int (nI L), .int (nI i)]) rfl rfl ?_
  refine rn_p (pc' := 22) (lv' := lvL i) (st' := [.int (nI 5), .int (nI L), .int (nI i)]) rfl rfl ?_
  refine rn_isub (v := nI (L - 5)) (pc' := 23) rfl (nI_sb (by omega)) rfl ?_
  refine rn_f (pc' := 26) (lv' := lvL i) (st' := []) rfl rfl ?_ hr
  show ¬ nI (L - 5) < nI i
  rw [nIlt (by omega) (by omega)]; omega
set_option maxRecDepth 20000 in
theorem l_foot (k : RL0 L xs (i + 5) 18 [] m) : RL0 L xs i 450 [] m := by
  obtain ⟨m', hm, hr⟩ := k
  refine ⟨m', hm, ?_⟩
  have e5 : nI i + nI 5 = nI (i + 5) := nI_add _ _
  refine rn_p (pc' := 453) (lv' := [(3, .int (nI i + nI 5)), (2, .ref 42), (1, .ref 0), (0, .float 0)]) (st' := []) rfl rfl ?_
  rw [e5]
  exact rn_p (pc' := 18) (lv' := lvL (i + 5)) (st' := []) rfl rfl hr
end L9z
