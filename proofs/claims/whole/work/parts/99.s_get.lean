/-! columns, size, indexed, count -/
def ixA (D : Db) (x y : Int32) : Bool := decide (¬ x < nI 0) && (decide (n0 x < 3) && (decide (¬ y < nI 0) && (decide (n0 y < 4) && ixd D (n0 x) (n0 y))))
def cnA (D : Db) (x y : Int32) (v : Int64) : Nat := if x < nI 0 ∨ y < nI 0 then 0 else if n0 x < 3 ∧ n0 y < wd D (n0 x) then cntR (rw_ D (n0 x)) (n0 y) v else 0
section H99
variable {d : Nat} {m m0 m1 : Mm} {K : Option Value → Mm → Prop} {D : Db} {P : Nat → List (List Int64)} {a : An} {x y z : Int32}
theorem c_11 (hD : DC m D) (k : K (some (.int (nI (tbA x (wd D))))) m) : WP (d + 1) 11 [.ref 0, .int x] m K := by
  unfold tbA at k
  refine sp_11 _ (c_16x ⟨_, rfl, ?_⟩)
  rcases neg_or x with hx | ⟨hx, ex, hx3⟩
  · rw [if_pos hx, if_pos rfl]
    rw [if_pos hx] at k; exact k
  · rw [if_neg hx]
    rw [if_neg hx] at k
    by_cases h3 : n0 x < 3
    · rw [if_pos h3, if_neg (by decide)]
      rw [if_pos h3] at k
      refine ⟨3 + 3 * n0 x, by have := tb_t h3; rw [← ex] at this; exact this, tbl_t h3, ?_⟩
      rw [(hD _ h3).1]; exact k
    · rw [if_neg h3, if_pos rfl]
      rw [if_neg h3] at k; exact k
theorem c_193 (hL : Len m) (hD : DR m D P) (k : K (some (.int (nI (tbA x (wd D))))) m) : WP (d + 1) 193 [.ref 42, .int x] m K := by
  have l56 : (m.A 56).length = 3 := hL.a (by decide) rfl
  unfold tbA at k
  refine sp_193 _ (c_192x ⟨_, rfl, ?_⟩)
  rcases neg_or x with hx | ⟨hx, ex, hx3⟩
  · rw [if_pos hx, if_pos rfl]
    rw [if_pos hx] at k; exact k
  · rw [if_neg hx]
    rw [if_neg hx] at k
    by_cases h3 : n0 x < 3
    · rw [if_pos h3, if_neg (by decide), l56]
      rw [if_pos h3] at k
      refine ⟨by rw [ex]; exact ok_nI (by omega) (by decide), ?_⟩
      have : (m.A 56).getD (ix x) 0 = nI (wd D (n0 x)) := by
        have e1 : ix x = n0 x := by
          have := ix_nI hx3
          rw [← ex] at this; exact this
        rw [e1]; exact (hD _ h3).1
      rw [this]; exact k
    · rw [if_neg h3, if_pos rfl]
      rw [if_neg h3] at k; exact k
theorem c_12 (hD : DC m D) (k : K (some (.int (nI (tbA x (fun t => (rw_ D t).length))))) m) : WP (d + 1) 12 [.ref 0, .int x] m K := by
  unfold tbA at k
  refine sp_12 _ (c_16x ⟨_, rfl, ?_⟩)
  rcases neg_or x with hx | ⟨hx, ex, hx3⟩
  · rw [if_pos hx, if_pos rfl]
    rw [if_pos hx] at k; exact k
  · rw [if_neg hx]
    rw [if_neg hx] at k
    by_cases h3 : n0 x < 3
    · rw [if_pos h3, if_neg (by decide)]
      rw [if_pos h3] at k
      refine ⟨3 + 3 * n0 x, by have := tb_t h3; rw [← ex] at this; exact this, tbl_t h3, ?_⟩
      rw [(hD _ h3).2.1]; exact k
    · rw [if_neg h3, if_pos rfl]
      rw [if_neg h3] at k; exact k
theorem c_194 (hL : Len m) (hD : DR m D P) (k : K (some (.int (nI (tbA x (fun t => (rw_ D t).length))))) m) : WP (d + 1) 194 [.ref 42, .int x] m K := by
  have l57 : (m.A 57).length = 3 := hL.a (by decide) rfl
  unfold tbA at k
  refine sp_194 _ (c_192x ⟨_, rfl, ?_⟩)
  rcases neg_or x with hx | ⟨hx, ex, hx3⟩
  · rw [if_pos hx, if_pos rfl]
    rw [if_pos hx] at k; exact k
  · rw [if_neg hx]
    rw [if_neg hx] at k
    by_cases h3 : n0 x < 3
    · rw [if_pos h3, if_neg (by decide), l57]
      rw [if_pos h3] at k
      refine ⟨by rw [ex]; exact ok_nI (by omega) (by decide), ?_⟩
      have : (m.A 57).getD (ix x) 0 = nI (rw_ D (n0 x)).length := by
        have e1 : ix x = n0 x := by
          have := ix_nI hx3
          rw [← ex] at this; exact this
        rw [e1]; exact (hD _ h3).2.1
      rw [this]; exact k
    · rw [if_neg h3, if_pos rfl]
      rw [if_neg h3] at k; exact k
theorem c_13 (hL : Len m) (hI : DI D) (hD : DC m D) (k : K (some (.int (bI (ixA D x y = true)))) m) : WP (d + 2) 13 [.ref 0, .int x, .int y] m K := by
  unfold ixA at k
  refine sp_13 _ _ (c_16x ⟨_, rfl, ?_⟩)
  rcases neg_or x with hx | ⟨hx, ex, hx3⟩
  · rw [if_pos hx, if_pos rfl]
    rw [decide_eq_false (fun q => q hx), Bool.false_and, bI_f (by decide)] at k; exact k
  · rw [if_neg hx]
    rw [decide_eq_true hx, Bool.true_and] at k
    by_cases h3 : n0 x < 3
    · rw [if_pos h3, if_neg (by decide)]
      rw [decide_eq_true h3, Bool.true_and] at k
      have hw4 := (hI _ h3).1
      have lA : (m.A (3 + 3 * n0 x + 2)).length = 4 := by
        rcases (by omega : n0 x = 0 ∨ n0 x = 1 ∨ n0 x = 2) with q | q | q <;> rw [q]
        · exact hL.a (by decide) rfl
        · exact hL.a (by decide) rfl
        · exact hL.a (by decide) rfl
      refine ⟨3 + 3 * n0 x, by have := tb_t h3; rw [← ex] at this; exact this, tbl_t h3, ?_⟩
      refine sp_28 _ _ (tbl_t h3) (sp_27 _ _ (tbl_t h3) ?_)
      rcases neg_or y with hy | ⟨hy, ey, hy3⟩
      · rw [if_pos hy]
        refine ⟨_, rfl, ?_⟩
        rw [if_pos rfl]
        refine ⟨_, rfl, ?_⟩
        rw [if_pos rfl]
        rw [decide_eq_false (fun q => q hy), Bool.false_and, bI_f (by decide)] at k; exact k
      · rw [if_neg hy, (hD _ h3).1]
        rw [decide_eq_true hy, Bool.true_and] at k
        by_cases hw : wd D (n0 x) ≤ n0 y
        · rw [if_pos (by rw [ey, nIle (by omega) (by omega)]; exact hw)]
          refine ⟨_, rfl, ?_⟩
          rw [if_pos rfl]
          refine ⟨_, rfl, ?_⟩
          rw [if_pos rfl]
          have hi : ixd D (n0 x) (n0 y) = false := by
            cases q : ixd D (n0 x) (n0 y) with
            | false => rfl
            | true => have := (hI _ h3).2.2.2.2.1 (n0 y) q; omega
          rw [hi, Bool.and_false, bI_f (by decide)] at k; exact k
        · rw [if_neg (by rw [ey, nIle (by omega) (by omega)]; exact hw)]
          refine ⟨_, rfl, ?_⟩
          have e1 : ix y = n0 y := by
            have := ix_nI hy3
            rw [← ey] at this; exact this
          rw [if_neg (by decide), lA, e1, (hD _ h3).2.2.2 (n0 y) (by omega)]
          rw [decide_eq_true (show n0 y < 4 by omega), Bool.true_and] at k
          refine ⟨by rw [ey]; exact ok_nI (by omega) (by decide), ?_⟩
          by_cases q : ixd D (n0 x) (n0 y) = true
          · rw [bI_t q] at k ⊢
            rw [if_neg (by decide)]
            refine ⟨_, rfl, ?_⟩
            rw [if_neg (by decide)]; exact k
          · rw [bI_f q] at k ⊢
            rw [if_pos rfl]
            refine ⟨_, rfl, ?_⟩
            rw [if_pos rfl]; exact k
    · rw [if_neg h3, if_pos rfl]
      rw [decide_eq_false h3, Bool.false_and, bI_f (by decide)] at k; exact k
theorem c_195 (hL : Len m) (hD : DR m D P) (k : K (some (.int (bI (ixA D x y = true)))) m) : WP (d + 1) 195 [.ref 42, .int x, .int y] m K := by
  have l59 : (m.A 59).length = 12 := hL.a (by decide) rfl
  unfold ixA at k
  refine sp_195 _ _ (c_192x ⟨_, rfl, ?_⟩)
  rcases neg_or x with hx | ⟨hx, ex, hx3⟩
  · rw [if_pos hx, if_pos rfl]
    rw [decide_eq_false (fun q => q hx), Bool.false_and, bI_f (by decide)] at k; exact k
  · rw [if_neg hx]
    rw [decide_eq_true hx, Bool.true_and] at k
    by_cases h3 : n0 x < 3
    · rw [if_pos h3, if_neg (by decide)]
      rw [decide_eq_true h3, Bool.true_and] at k
      rcases neg_or y with hy | ⟨hy, ey, hy3⟩
      · rw [if_pos hy]
        rw [decide_eq_false (fun q => q hy), Bool.false_and, bI_f (by decide)] at k; exact k
      · rw [if_neg hy]
        rw [decide_eq_true hy, Bool.true_and] at k
        by_cases h4 : n0 y < 4
        · rw [if_neg (by rw [ey, nIlt (by decide) (by omega)]; omega)]
          rw [decide_eq_true h4, Bool.true_and] at k
          have ei : nI 4 * x + y = nI (4 * n0 x + n0 y) := by
            have e1 : nI 4 * nI (n0 x) + nI (n0 y) = nI (4 * n0 x + n0 y) := by rw [pk_mul, nI_add]
            rw [← ex, ← ey] at e1
            exact e1
          rw [ei, l59, ix_nI (by omega), (hD _ h3).2.2.2.2 (n0 y) h4]
          refine ⟨ok_nI (by omega) (by decide), ?_⟩
          by_cases q : ixd D (n0 x) (n0 y) = true
          · rw [bI_t q] at k ⊢
            rw [if_neg (by decide)]; exact k
          · rw [bI_f q] at k ⊢
            rw [if_pos rfl]; exact k
        · rw [if_pos (by rw [ey, nIlt (by decide) (by omega)]; omega)]
          rw [decide_eq_false h4, Bool.false_and, bI_f (by decide)] at k; exact k
    · rw [if_neg h3, if_pos rfl]
      rw [decide_eq_false h3, Bool.false_and, bI_f (by decide)] at k; exact k
end H99
