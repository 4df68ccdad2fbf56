/-! What can be asked: both sides alike -/
def anOK (a : An) : Prop := a.1 ≤ 60 ∧ a.2.1 ≤ 3
def n0 (x : Int32) : Nat := x.toInt.toNat
theorem neg_or (x : Int32) : x < nI 0 ∨ (¬ x < nI 0 ∧ x = nI (n0 x) ∧ n0 x < 2 ^ 31) := by
  have h1 := Int32.toInt_lt x
  have e0 : (nI 0).toInt = 0 := by decide
  by_cases h : x.toInt < 0
  · exact Or.inl (by rw [Int32.lt_iff_toInt_lt, e0]; exact h)
  · have hn : n0 x < 2 ^ 31 := by unfold n0; omega
    refine Or.inr ⟨by rw [Int32.lt_iff_toInt_lt, e0]; exact h, ?_, hn⟩
    apply Int32.toInt_inj.mp
    rw [nI_toInt hn]
    unfold n0
    omega
def vlA (a : An) (x y : Int32) : Int64 := if x < nI 0 ∨ y < nI 0 then 2199023255552 else if n0 x < a.1 ∧ n0 y < a.2.1 then a.2.2.2.2 (n0 x) (n0 y) else 2199023255552
def tbA (x : Int32) (f : Nat → Nat) : Nat := if x < nI 0 then 0 else if n0 x < 3 then f (n0 x) else 0
section G99
variable {d : Nat} {m m0 m1 : Mm} {K : Option Value → Mm → Prop} {D : Db} {P : Nat → List (List Int64)} {a : An} {x y z : Int32}
theorem c_8 (hL : Len m) (hA : CA m a) (hk : anOK a) (k : K (some (.long (vlA a x y))) m) : WP d 8 [.ref 0, .int x, .int y] m K := by
  have l40 : (m.B 40).length = 180 := hL.b (by decide) rfl
  have hk1 := hk.1
  have hk2 := hk.2
  unfold vlA at k
  refine sp_8 _ _ ?_
  rcases neg_or x with hx | ⟨hx, ex, hx3⟩
  · rw [if_pos hx]
    rw [if_pos (Or.inl hx)] at k
    exact k
  · rw [if_neg hx, hA.1, hA.2.1]
    by_cases h1 : n0 x < a.1
    · rw [if_neg (by rw [ex, nIle (by omega) (by omega)]; omega)]
      rcases neg_or y with hy | ⟨hy, ey, hy3⟩
      · rw [if_pos hy]
        rw [if_pos (Or.inr hy)] at k
        exact k
      · rw [if_neg hy]
        rw [if_neg (by rintro (q | q); exact hx q; exact hy q)] at k
        by_cases h2 : n0 y < a.2.1
        · rw [if_pos ⟨h1, h2⟩] at k
          have hv := hA.2.2.2.2 (n0 x) (n0 y) h1 h2
          rw [if_pos (by rw [ey, nIlt (by omega) (by omega)]; exact h2)]
          have ei : x * nI 3 + y = nI (3 * n0 x + n0 y) := by
            rw [ex, ey]
            have e1 : n0 (nI (n0 x)) = n0 x := by rw [← ex]
            have e2 : n0 (nI (n0 y)) = n0 y := by rw [← ey]
            rw [e1, e2, pk_mul, nI_add, Nat.mul_comm]
          rw [ei, l40, ix_nI (by omega), hv]
          exact ⟨ok_nI (by omega) (by decide), k⟩
        · rw [if_neg (fun q => h2 q.2)] at k
          rw [if_neg (by rw [ey, nIlt (by omega) (by omega)]; exact h2)]
          exact k
    · rw [if_pos (by rw [ex, nIle (by omega) (by omega)]; omega)]
      by_cases hq : x < nI 0 ∨ y < nI 0
      · rw [if_pos hq] at k; exact k
      · rw [if_neg hq, if_neg (fun q => h1 q.1)] at k; exact k
theorem c_189 (hL : Len m) (hA : RA m a) (hk : anOK a) (k : K (some (.long (vlA a x y))) m) : WP d 189 [.ref 42, .int x, .int y] m K := by
  have l68 : (m.B 68).length = 180 := hL.b (by decide) rfl
  have hk1 := hk.1
  have hk2 := hk.2
  unfold vlA at k
  have no : ¬ (¬ x < nI 0 ∧ ¬ y < nI 0 ∧ n0 x < a.1 ∧ n0 y < a.2.1) → K (some (.long 2199023255552)) m := by
    intro h
    by_cases hq : x < nI 0 ∨ y < nI 0
    · rw [if_pos hq] at k; exact k
    · rw [if_neg hq, if_neg (fun q => h ⟨fun z => hq (Or.inl z), fun z => hq (Or.inr z), q.1, q.2⟩)] at k; exact k
  refine sp_189 _ _ ?_
  rw [hA.1, hA.2.1]
  by_cases h0 : a.2.1 ≤ 0
  · rw [if_pos (by rw [nIle (by omega) (by decide)]; exact h0)]
    exact no (fun q => by omega)
  · rw [if_neg (by rw [nIle (by omega) (by decide)]; exact h0)]
    rcases neg_or x with hx | ⟨hx, ex, hx3⟩
    · rw [if_pos hx]; exact no (fun q => q.1 hx)
    · rw [if_neg hx]
      by_cases h1 : n0 x < a.1
      · rw [if_neg (by rw [ex, nIle (by omega) (by omega)]; omega)]
        rcases neg_or y with hy | ⟨hy, ey, hy3⟩
        · rw [if_pos hy]; exact no (fun q => q.2.1 hy)
        · rw [if_neg hy]
          by_cases h2 : n0 y < a.2.1
          · rw [if_neg (by rintro (q | q); exact hx q; exact hy q), if_pos ⟨h1, h2⟩] at k
            have hv := hA.2.2.2.2 (n0 x) (n0 y) h1 h2
            rw [if_neg (by rw [ey, nIle (by omega) (by omega)]; omega)]
            have ei : nI 3 * x + y = nI (3 * n0 x + n0 y) := by
              rw [ex, ey]
              have e1 : n0 (nI (n0 x)) = n0 x := by rw [← ex]
              have e2 : n0 (nI (n0 y)) = n0 y := by rw [← ey]
              rw [e1, e2, pk_mul, nI_add]
            rw [ei, l68, ix_nI (by omega), hv]
            exact ⟨ok_nI (by omega) (by decide), k⟩
          · rw [if_pos (by rw [ey, nIle (by omega) (by omega)]; omega)]
            exact no (fun q => h2 q.2.2.2)
      · rw [if_pos (by rw [ex, nIle (by omega) (by omega)]; omega)]
        exact no (fun q => h1 q.2.2.1)
theorem c_16x (k : K (some (.int (if x < nI 0 then nI 0 else if n0 x < 3 then nI 1 else nI 0))) m) : WP d 16 [.int x] m K := by
  refine sp_16 _ ?_
  rcases neg_or x with hx | ⟨hx, ex, hx3⟩
  · rw [if_pos hx]
    rw [if_pos hx] at k; exact k
  · rw [if_neg hx]
    rw [if_neg hx] at k
    by_cases h3 : n0 x < 3
    · rw [if_neg (by rw [ex, nIle (by decide) (by omega)]; omega)]
      rw [if_pos h3] at k; exact k
    · rw [if_pos (by rw [ex, nIle (by decide) (by omega)]; omega)]
      rw [if_neg h3] at k; exact k
theorem c_192x (k : K (some (.int (if x < nI 0 then nI 0 else if n0 x < 3 then nI 1 else nI 0))) m) : WP d 192 [.int x] m K := by
  refine sp_192 _ ?_
  rcases neg_or x with hx | ⟨hx, ex, hx3⟩
  · rw [if_pos hx]
    rw [if_pos hx] at k; exact k
  · rw [if_neg hx]
    rw [if_neg hx] at k
    by_cases h3 : n0 x < 3
    · rw [if_neg (by rw [ex, nIlt (by decide) (by omega)]; omega)]
      rw [if_pos h3] at k; exact k
    · rw [if_pos (by rw [ex, nIlt (by decide) (by omega)]; omega)]
      rw [if_neg h3] at k; exact k
end G99
