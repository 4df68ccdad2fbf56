/-! cell of the reference -/
section J9u
variable {d : Nat} {m m0 m1 : Mm} {K : Option Value → Mm → Prop} {D : Db} {P : Nat → List (List Int64)} {x y z : Int32}
theorem lp_196b (hL : Len m) (hI : DI D) (hD : DR m D P) (ex : x = nI (n0 x)) (h3 : n0 x < 3) (hw0 : 0 < wd D (n0 x)) {r : Nat} (hr : r < (rw_ D (n0 x)).length) (k : (if nI (lsK (P (n0 x)) ((P (n0 x)).getD r [])) = y then ok (m.B 58).length ((((nI 80) * x) + ((nI 4) * nI r)) + z) ∧ K (some (.long ((m.B 58).getD (ix ((((nI 80) * x) + ((nI 4) * nI r)) + z)) 0))) m else WH d 196 42 [(0, .ref 42), (1, .int x), (2, .int y), (3, .int z), (4, .int (nI r + nI 1))] [] m K)) : ∀ (n i : Nat), i + n = (rw_ D (n0 x)).length → WH d 196 59 [(0, .ref 42), (1, .int x), (2, .int y), (3, .int z), (4, .int (nI r)), (5, .int (nI (lsK ((P (n0 x)).take i) ((P (n0 x)).getD r [])))), (6, .int (nI i))] [] m K := by
  have hw4 := (hI _ h3).1
  have h20 := (hI _ h3).2.1
  have l57 : (m.A 57).length = 3 := hL.a (by decide) rfl
  have l58 : (m.B 58).length = 240 := hL.b (by decide) rfl
  have hpl := (hD _ h3).2.2.1.length_eq
  have eix := ix_n0 ex (by omega)
  have okx : ok 3 x := by rw [ex]; exact ok_nI (by omega) (by decide)
  have eI : ∀ i, nI 80 * x + nI 4 * nI i = nI (80 * n0 x + 4 * i) := fun i => by
    have e1 : nI 80 * nI (n0 x) + nI 4 * nI i = nI (80 * n0 x + 4 * i) := by rw [pk_mul, pk_mul, nI_add]
    rw [← ex] at e1
    exact e1
  have kv : ∀ i, i < (rw_ D (n0 x)).length → (m.B 58).getD (80 * n0 x + 4 * i) 0 = ((P (n0 x)).getD i []).getD 0 0 := fun i hi => by
    have := (hD _ h3).2.2.2.1 i hi 0 hw0
    rw [Nat.add_zero] at this
    exact this
  intro n
  induction n with
  | zero =>
    intro i hi
    refine sg_196_59 _ _ _ _ _ _ ?_
    rw [l57, eix, (hD _ h3).2.1]
    refine ⟨okx, ?_⟩
    rw [if_pos (by rw [nIle (by omega) (by omega)]; omega), List.take_of_length_le (by omega)]
    exact k
  | succ n ih =>
    intro i hi
    refine sg_196_59 _ _ _ _ _ _ ?_
    rw [l57, eix, (hD _ h3).2.1]
    refine ⟨okx, ?_⟩
    rw [if_neg (by rw [nIle (by omega) (by omega)]; omega), eI, eI, l58, ix_nI (by omega), ix_nI (by omega), kv i (by omega), kv r hr, nI_add, nI_add]
    refine ⟨ok_nI (by omega) (by decide), ok_nI (by omega) (by decide), ?_⟩
    have ec : lsK ((P (n0 x)).take (i + 1)) ((P (n0 x)).getD r []) = if decide (((P (n0 x)).getD i []).getD 0 0 < ((P (n0 x)).getD r []).getD 0 0) = true then lsK ((P (n0 x)).take i) ((P (n0 x)).getD r []) + 1 else lsK ((P (n0 x)).take i) ((P (n0 x)).getD r []) := cntP_snoc (by omega)
    have ih := ih (i + 1) (by omega)
    rw [ec] at ih
    have cge : ∀ x y, (nI 0 ≤ lg_cmp x y) = (y ≤ x) := fun x y => propext (lg_cmp_ge x y)
    by_cases hlt : ((P (n0 x)).getD i []).getD 0 0 < ((P (n0 x)).getD r []).getD 0 0
    · rw [if_pos (decide_eq_true hlt)] at ih
      rw [if_neg (by rw [cge, Int64.le_iff_toInt_le]; rw [Int64.lt_iff_toInt_lt] at hlt; omega)]
      exact ih
    · rw [if_neg (fun q => hlt (of_decide_eq_true q))] at ih
      rw [if_pos (by rw [cge, Int64.le_iff_toInt_le]; rw [Int64.lt_iff_toInt_lt] at hlt; omega)]
      exact ih
theorem lp_196a (hL : Len m) (hI : DI D) (hD : DR m D P) (ex : x = nI (n0 x)) (h3 : n0 x < 3) (ey : y = nI (n0 y)) (hyl : n0 y < (rw_ D (n0 x)).length) (ez : z = nI (n0 z)) (hzw : n0 z < wd D (n0 x)) (k : K (some (.long (cl_ (rw_ D (n0 x)) (n0 y) (n0 z)))) m) : ∀ (n r : Nat), r + n = (rw_ D (n0 x)).length → (∀ q, q < r → sgm D P (n0 x) q ≠ n0 y) → WH d 196 42 [(0, .ref 42), (1, .int x), (2, .int y), (3, .int z), (4, .int (nI r))] [] m K := by
  have hw4 := (hI _ h3).1
  have h20 := (hI _ h3).2.1
  have l57 : (m.A 57).length = 3 := hL.a (by decide) rfl
  have l58 : (m.B 58).length = 240 := hL.b (by decide) rfl
  have hp := (hD _ h3).2.2.1
  have eix := ix_n0 ex (by omega)
  have okx : ok 3 x := by rw [ex]; exact ok_nI (by omega) (by decide)
  intro n
  induction n with
  | zero =>
    intro r hr hno
    obtain ⟨q, hq, he⟩ := sgm_sur hI h3 hp hyl
    exact absurd he (hno q (by omega))
  | succ n ih =>
    intro r hr hno
    refine sg_196_42 _ _ _ _ ?_
    rw [l57, eix, (hD _ h3).2.1]
    refine ⟨okx, ?_⟩
    rw [if_neg (by rw [nIle (by omega) (by omega)]; omega)]
    have hsl := sgm_lt (D := D) (P := P) (t := n0 x) hp (r := r) (by omega)
    refine lp_196b hL hI hD ex h3 (by omega) (r := r) (by omega) ?_ (rw_ D (n0 x)).length 0 (by omega)
    rw [ls_sgm hI h3 hp (by omega), nI_add]
    by_cases hs : sgm D P (n0 x) r = n0 y
    · rw [if_pos (by rw [hs]; exact ey.symm)]
      have ei : nI 80 * x + nI 4 * nI r + z = nI (80 * n0 x + 4 * r + n0 z) := by
        have e1 : nI 80 * nI (n0 x) + nI 4 * nI r + nI (n0 z) = nI (80 * n0 x + 4 * r + n0 z) := by rw [pk_mul, pk_mul, nI_add, nI_add]
        rw [← ex, ← ez] at e1
        exact e1
      have hg := sgm_get (D := D) (P := P) (t := n0 x) hp (r := r) (by omega)
      rw [hs] at hg
      have hcl : cl_ (rw_ D (n0 x)) (n0 y) (n0 z) = cl_ (P (n0 x)) r (n0 z) := by unfold cl_; rw [hg]
      rw [hcl] at k
      rw [ei, l58, ix_nI (by omega), (hD _ h3).2.2.2.1 r (by omega) (n0 z) hzw]
      exact ⟨ok_nI (by omega) (by decide), k⟩
    · rw [if_neg (fun q => hs ((nIeq (by omega) (by omega)).mp (q.trans ey)))]
      refine ih (r + 1) (by omega) (fun q hq => ?_)
      by_cases z' : q = r
      · rw [z']; exact hs
      · exact hno q (by omega)
theorem c_196 (hL : Len m) (hI : DI D) (hD : DR m D P) (k : K (some (.long (clA D x y z))) m) : WP (d + 1) 196 [.ref 42, .int x, .int y, .int z] m K := by
  have l56 : (m.A 56).length = 3 := hL.a (by decide) rfl
  have l57 : (m.A 57).length = 3 := hL.a (by decide) rfl
  unfold clA at k
  have no : ¬ (¬ x < nI 0 ∧ ¬ y < nI 0 ∧ ¬ z < nI 0 ∧ n0 x < 3 ∧ n0 y < (rw_ D (n0 x)).length ∧ n0 z < wd D (n0 x)) → K (some (.long 2199023255552)) m := by
    intro h
    by_cases hq : x < nI 0 ∨ y < nI 0 ∨ z < nI 0
    · rw [if_pos hq] at k; exact k
    · rw [if_neg hq, if_neg (fun q => h ⟨fun w => hq (Or.inl w), fun w => hq (Or.inr (Or.inl w)), fun w => hq (Or.inr (Or.inr w)), q.1, q.2.1, q.2.2⟩)] at k; exact k
  refine sp_196 _ _ _ (c_192x ⟨_, rfl, ?_⟩)
  rcases neg_or x with hx | ⟨hx, ex, hx3⟩
  · rw [if_pos hx, if_pos rfl]; exact no (fun q => q.1 hx)
  · rw [if_neg hx]
    by_cases h3 : n0 x < 3
    · rw [if_pos h3, if_neg (by decide)]
      have hw4 := (hI _ h3).1
      have h20 := (hI _ h3).2.1
      have okx : ok 3 x := by rw [ex]; exact ok_nI (by omega) (by decide)
      rcases neg_or y with hy | ⟨hy, ey, hy3⟩
      · rw [if_pos hy]; exact no (fun q => q.2.1 hy)
      · rw [if_neg hy, l57, l56, ix_n0 ex hx3, (hD _ h3).2.1, (hD _ h3).1]
        refine ⟨okx, ?_⟩
        by_cases h1 : (rw_ D (n0 x)).length ≤ n0 y
        · rw [if_pos (by rw [ey, nIle (by omega) (by omega)]; exact h1)]
          exact no (fun q => by omega)
        · rw [if_neg (by rw [ey, nIle (by omega) (by omega)]; exact h1)]
          rcases neg_or z with hz | ⟨hz, ez, hz3⟩
          · rw [if_pos hz]; exact no (fun q => q.2.2.1 hz)
          · rw [if_neg hz]
            refine ⟨okx, ?_⟩
            by_cases h2 : n0 z < wd D (n0 x)
            · rw [if_pos (by rw [ez, nIlt (by omega) (by omega)]; exact h2)]
              rw [if_neg (by rintro (q | q | q); exact hx q; exact hy q; exact hz q), if_pos ⟨h3, by omega, h2⟩] at k
              exact lp_196a hL hI hD ex h3 ey (by omega) ez h2 k (rw_ D (n0 x)).length 0 (by omega) (fun q hq => absurd hq (Nat.not_lt_zero q))
            · rw [if_neg (by rw [ez, nIlt (by omega) (by omega)]; exact h2)]
              exact no (fun q => h2 q.2.2.2.2.2)
    · rw [if_neg h3, if_pos rfl]; exact no (fun q => h3 q.2.2.2.1)
end J9u
