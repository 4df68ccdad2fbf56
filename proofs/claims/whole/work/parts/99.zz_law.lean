/-! THE LAW'S LOOP: which call -/
def tgt (j : Nat) : Nat := ([104, 129, 142, 155, 168, 181, 194, 228, 241, 254, 277, 300, 333, 377] : List Nat).getD j 450
theorem and15 (x : Int32) : ∃ j, j ≤ 15 ∧ x &&& nI 15 = nI j := by
  refine ⟨(x.toBitVec &&& 15#32).toNat, ?_, ?_⟩
  · rw [BitVec.toNat_and]
    exact Nat.and_le_right
  · apply Int32.toBitVec_inj.mp
    show x.toBitVec &&& 15#32 = BitVec.ofNat 32 (x.toBitVec &&& 15#32).toNat
    rw [BitVec.ofNat_toNat, BitVec.setWidth_eq]
section L9zz
variable {L i pc pc' : Nat} {xs : Nat → Int32} {st st' st2 : List Value} {m : Mm}
set_option maxRecDepth 20000 in
theorem l_sw (h : i + 5 ≤ L) (hL : L ≤ 2560) (k : ∀ j, j ≤ 15 → RL0 L xs i (tgt j) [] m) : RL0 L xs i 26 [] m := by
  obtain ⟨j, hj, ej⟩ := and15 (xs i)
  obtain ⟨m', hm, hr⟩ := k j hj
  refine ⟨m', hm, ?_⟩
  refine rn_p (pc' := 27) (lv' := lvL i) (st' := [.float 0]) rfl rfl ?_
  refine rn_p (pc' := 28) (lv' := lvL i) (st' := [.int (nI i), .float 0]) rfl rfl ?_
  refine rn_x (j := i) (pc' := 29) rfl (ix_nI (by omega)) (by
    have := nIlt (a := i) (b := 0) (by omega) (by decide)
    have z : nI 0 = 0 := rfl
    rw [z] at this
    rw [this]; omega) (by omega) rfl ?_
  refine rn_p (pc' := 31) (lv' := lvL i) (st' := [.int (nI 15), .int (xs i)]) rfl rfl ?_
  refine rn_iand (v := nI j) (pc' := 32) rfl ej rfl ?_
  rcases (by omega : j = 0 ∨ j = 1 ∨ j = 2 ∨ j = 3 ∨ j = 4 ∨ j = 5 ∨ j = 6 ∨ j = 7 ∨ j = 8 ∨ j = 9 ∨ j = 10 ∨ j = 11 ∨ j = 12 ∨ j = 13 ∨ j = 14 ∨ j = 15) with rfl | rfl | rfl | rfl | rfl | rfl | rfl | rfl | rfl | rfl | rfl | rfl | rfl | rfl | rfl | rfl
  · exact rn_ts (pc' := 104) rfl (by decide) rfl rfl hr
  · exact rn_ts (pc' := 129) rfl (by decide) rfl rfl hr
  · exact rn_ts (pc' := 142) rfl (by decide) rfl rfl hr
  · exact rn_ts (pc' := 155) rfl (by decide) rfl rfl hr
  · exact rn_ts (pc' := 168) rfl (by decide) rfl rfl hr
  · exact rn_ts (pc' := 181) rfl (by decide) rfl rfl hr
  · exact rn_ts (pc' := 194) rfl (by decide) rfl rfl hr
  · exact rn_ts (pc' := 228) rfl (by decide) rfl rfl hr
  · exact rn_ts (pc' := 241) rfl (by decide) rfl rfl hr
  · exact rn_ts (pc' := 254) rfl (by decide) rfl rfl hr
  · exact rn_ts (pc' := 277) rfl (by decide) rfl rfl hr
  · exact rn_ts (pc' := 300) rfl (by decide) rfl rfl hr
  · exact rn_ts (pc' := 333) rfl (by decide) rfl rfl hr
  · exact rn_ts (pc' := 377) rfl (by decide) rfl rfl hr
  · exact rn_td (pc' := 450) rfl (by decide) rfl hr
  · exact rn_td (pc' := 450) rfl (by decide) rfl hr
end L9zz
