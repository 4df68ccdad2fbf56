/-! count and cell -/
def clA (D : Db) (x y z : Int32) : Int64 := if x < nI 0 ∨ y < nI 0 ∨ z < nI 0 then 2199023255552 else if n0 x < 3 ∧ n0 y < (rw_ D (n0 x)).length ∧ n0 z < wd D (n0 x) then cl_ (rw_ D (n0 x)) (n0 y) (n0 z) else 2199023255552
section I99
variable {d : Nat} {m m0 m1 : Mm} {K : Option Value → Mm → Prop} {D : Db} {P : Nat → List (List Int64)} {x y z : Int32} {v : Int64}
theorem ix_n0 {x : Int32} (ex : x = nI (n0 x)) (h : n0 x < 2 ^ 31) : ix x = n0 x := by
  have := ix_nI h
  rw [← ex] at this; exact this
theorem c_15 (hL : Len m) (hI : DI D) (hD : DC m D) (k : K (some (.int (nI (cnA D x y v)))) m) : WP (d + 1) 15 [.ref 0, .int x, .int y, .long v] m K := by
  unfold cnA at k
  refine sp_15 _ _ _ (c_16x ⟨_, rfl, ?_⟩)
  rcases neg_or x with hx | ⟨hx, ex, hx3⟩
  · rw [if_pos hx, if_pos rfl]
    rw [if_pos (Or.inl hx)] at k; exact k
  · rw [if_neg hx]
    have no : ¬ (¬ y < nI 0 ∧ n0 x < 3 ∧ n0 y < wd D (n0 x)) → K (some (.int (nI 0))) m := by
      intro h
      by_cases hq : x < nI 0 ∨ y < nI 0
      · rw [if_pos hq] at k; exact k
      · rw [if_neg hq, if_neg (fun q => h ⟨fun z => hq (Or.inr z), q.1, q.2⟩)] at k; exact k
    by_cases h3 : n0 x < 3
    · rw [if_pos h3, if_neg (by decide)]
      have hw4 := (hI _ h3).1
      have htb : tb_of x (3 + 3 * n0 x) := by have := tb_t h3; rw [← ex] at this; exact this
      refine ⟨3 + 3 * n0 x, htb, tbl_t h3, ?_⟩
      refine sp_27 _ _ (tbl_t h3) ?_
      rcases neg_or y with hy | ⟨hy, ey, hy3⟩
      · rw [if_pos hy]
        refine ⟨_, rfl, ?_⟩
        rw [if_pos rfl]
        exact no (fun q => q.1 hy)
      · rw [if_neg hy, (hD _ h3).1]
        by_cases hw : wd D (n0 x) ≤ n0 y
        · rw [if_pos (by rw [ey, nIle (by omega) (by omega)]; exact hw)]
          refine ⟨_, rfl, ?_⟩
          rw [if_pos rfl]
          exact no (fun q => by omega)
        · rw [if_neg (by rw [ey, nIle (by omega) (by omega)]; exact hw)]
          refine ⟨_, rfl, ?_⟩
          rw [if_neg (by decide)]
          rw [if_neg (by rintro (q | q); exact hx q; exact hy q), if_pos ⟨h3, by omega⟩] at k
          refine ⟨3 + 3 * n0 x, htb, tbl_t h3, ?_⟩
          have := c_30 (d := d) (v := v) (K := fun v m13 => ∃ w14, v = some (.int w14) ∧ K (some (.int w14)) m13) h3 hL hD hI (c := n0 y) (by omega) ⟨_, rfl, k⟩
          rw [← ey] at this
          exact this
    · rw [if_neg h3, if_pos rfl]
      exact no (fun q => h3 q.2.1)
theorem lp_197 (hL : Len m) (hI : DI D) (hD : DR m D P) (hx : ¬ x < nI 0) (ex : x = nI (n0 x)) (h3 : n0 x < 3) (hy : ¬ y < nI 0) (ey : y = nI (n0 y)) (hw : n0 y < wd D (n0 x)) (k : K (some (.int (nI (cntR (P (n0 x)) (n0 y) v)))) m) : ∀ (n i : Nat), i + n = (rw_ D (n0 x)).length → WH (d + 1) 197 6 [(0, .ref 42), (1, .int x), (2, .int y), (3, .long v), (5, .int (nI (cntR ((P (n0 x)).take i) (n0 y) v))), (6, .int (nI i))] [] m K := by
  have hw4 := (hI _ h3).1
  have h20 := (hI _ h3).2.1
  have l56 : (m.A 56).length = 3 := hL.a (by decide) rfl
  have l57 : (m.A 57).length = 3 := hL.a (by decide) rfl
  have l58 : (m.B 58).length = 240 := hL.b (by decide) rfl
  have hpl := (hD _ h3).2.2.1.length_eq
  have eix := ix_n0 ex (by omega)
  have okx : ok 3 x := by rw [ex]; exact ok_nI (by omega) (by decide)
  intro n
  induction n with
  | zero =>
    intro i hi
    refine sg_197_6 _ _ _ _ _ (c_192x ⟨_, rfl, ?_⟩)
    rw [if_neg hx, if_pos h3, if_neg (by decide), if_neg hy, l56, l57, eix, (hD _ h3).1, (hD _ h3).2.1]
    refine ⟨okx, ?_⟩
    rw [if_neg (by rw [ey, nIle (by omega) (by omega)]; omega)]
    refine ⟨okx, ?_⟩
    rw [if_pos (by rw [nIle (by omega) (by omega)]; omega), List.take_of_length_le (by omega)]
    exact k
  | succ n ih =>
    intro i hi
    refine sg_197_6 _ _ _ _ _ (c_192x ⟨_, rfl, ?_⟩)
    rw [if_neg hx, if_pos h3, if_neg (by decide), if_neg hy, l56, l57, eix, (hD _ h3).1, (hD _ h3).2.1]
    refine ⟨okx, ?_⟩
    rw [if_neg (by rw [ey, nIle (by omega) (by omega)]; omega)]
    refine ⟨okx, ?_⟩
    have ei : nI 80 * x + nI 4 * nI i + y = nI (80 * n0 x + 4 * i + n0 y) := by
      have e1 : nI 80 * nI (n0 x) + nI 4 * nI i + nI (n0 y) = nI (80 * n0 x + 4 * i + n0 y) := by rw [pk_mul, pk_mul, nI_add, nI_add]
      rw [← ex, ← ey] at e1
      exact e1
    rw [if_neg (by rw [nIle (by omega) (by omega)]; omega), ei, l58, ix_nI (by omega), (hD _ h3).2.2.2.1 i (by omega) (n0 y) hw, nI_add, nI_add]
    refine ⟨ok_nI (by omega) (by decide), ?_⟩
    have ec := cnt_snoc ((P (n0 x)).take i) ((P (n0 x)).getD i []) (n0 y) v
    rw [← take_succ_getD (by omega)] at ec
    have ih := ih (i + 1) (by omega)
    rw [ec] at ih
    have ecl : cl_ (P (n0 x)) i (n0 y) = ((P (n0 x)).getD i []).getD (n0 y) 0 := rfl
    rw [ecl]
    by_cases hv : ((P (n0 x)).getD i []).getD (n0 y) 0 = v
    · rw [if_pos ((lg_k _ _).mpr hv)]
      rw [if_pos hv] at ih
      exact ih
    · rw [if_neg (fun q => hv ((lg_k _ _).mp q))]
      rw [if_neg hv] at ih
      exact ih
theorem c_197 (hL : Len m) (hI : DI D) (hD : DR m D P) (k : K (some (.int (nI (cnA D x y v)))) m) : WP (d + 1) 197 [.ref 42, .int x, .int y, .long v] m K := by
  unfold cnA at k
  refine sp_197 _ _ _ ?_
  have no : ¬ (¬ x < nI 0 ∧ ¬ y < nI 0 ∧ n0 x < 3 ∧ n0 y < wd D (n0 x)) → K (some (.int (nI 0))) m := by
    intro h
    by_cases hq : x < nI 0 ∨ y < nI 0
    · rw [if_pos hq] at k; exact k
    · rw [if_neg hq, if_neg (fun q => h ⟨fun z => hq (Or.inl z), fun z => hq (Or.inr z), q.1, q.2⟩)] at k; exact k
  by_cases hall : ¬ x < nI 0 ∧ ¬ y < nI 0 ∧ n0 x < 3 ∧ n0 y < wd D (n0 x)
  · obtain ⟨hx, hy, h3, hw⟩ := hall
    rw [if_neg (by rintro (q | q); exact hx q; exact hy q), if_pos ⟨h3, hw⟩] at k
    have ex : x = nI (n0 x) := (neg_or x).elim (fun q => absurd q hx) (fun q => q.2.1)
    have ey : y = nI (n0 y) := (neg_or y).elim (fun q => absurd q hy) (fun q => q.2.1)
    rw [← cnt_perm (hD _ h3).2.2.1] at k
    exact lp_197 hL hI hD hx ex h3 hy ey hw k (rw_ D (n0 x)).length 0 (by omega)
  · refine sg_197_6 _ _ _ _ _ (c_192x ⟨_, rfl, ?_⟩)
    have l56 : (m.A 56).length = 3 := hL.a (by decide) rfl
    have go := no hall
    rcases neg_or x with hx | ⟨hx, ex, hx3⟩
    · rw [if_pos hx, if_pos rfl]; exact go
    · rw [if_neg hx]
      by_cases h3 : n0 x < 3
      · rw [if_pos h3, if_neg (by decide)]
        have hw4 := (hI _ h3).1
        rcases neg_or y with hy | ⟨hy, ey, hy3⟩
        · rw [if_pos hy]; exact go
        · rw [if_neg hy, l56, ix_n0 ex hx3, (hD _ h3).1]
          refine ⟨by rw [ex]; exact ok_nI (by omega) (by decide), ?_⟩
          rw [if_pos (by rw [ey, nIle (by omega) (by omega)]; exact Nat.le_of_not_lt (fun q => hall ⟨hx, hy, h3, q⟩))]
          exact go
      · rw [if_neg h3, if_pos rfl]; exact go
theorem c_14 (hL : Len m) (hI : DI D) (hD : DC m D) (k : K (some (.long (clA D x y z))) m) : WP (d + 1) 14 [.ref 0, .int x, .int y, .int z] m K := by
  unfold clA at k
  have no : ¬ (¬ x < nI 0 ∧ ¬ y < nI 0 ∧ ¬ z < nI 0 ∧ n0 x < 3 ∧ n0 y < (rw_ D (n0 x)).length ∧ n0 z < wd D (n0 x)) → K (some (.long 2199023255552)) m := by
    intro h
    by_cases hq : x < nI 0 ∨ y < nI 0 ∨ z < nI 0
    · rw [if_pos hq] at k; exact k
    · rw [if_neg hq, if_neg (fun q => h ⟨fun w => hq (Or.inl w), fun w => hq (Or.inr (Or.inl w)), fun w => hq (Or.inr (Or.inr w)), q.1, q.2.1, q.2.2⟩)] at k; exact k
  refine sp_14 _ _ _ (c_16x ⟨_, rfl, ?_⟩)
  rcases neg_or x with hx | ⟨hx, ex, hx3⟩
  · rw [if_pos hx, if_pos rfl]; exact no (fun q => q.1 hx)
  · rw [if_neg hx]
    by_cases h3 : n0 x < 3
    · rw [if_pos h3, if_neg (by decide)]
      have hw4 := (hI _ h3).1
      have h20 := (hI _ h3).2.1
      have lB := lenB (tbl_t h3) hL
      refine ⟨3 + 3 * n0 x, by have := tb_t h3; rw [← ex] at this; exact this, tbl_t h3, ?_⟩
      refine sp_29 _ _ _ (tbl_t h3) ?_
      rcases neg_or y with hy | ⟨hy, ey, hy3⟩
      · rw [if_pos hy]; exact ⟨_, rfl, no (fun q => q.2.1 hy)⟩
      · rw [if_neg hy, (hD _ h3).2.1, (hD _ h3).1]
        by_cases h1 : (rw_ D (n0 x)).length ≤ n0 y
        · rw [if_pos (by rw [ey, nIle (by omega) (by omega)]; exact h1)]
          exact ⟨_, rfl, no (fun q => by omega)⟩
        · rw [if_neg (by rw [ey, nIle (by omega) (by omega)]; exact h1)]
          rcases neg_or z with hz | ⟨hz, ez, hz3⟩
          · rw [if_pos hz]; exact ⟨_, rfl, no (fun q => q.2.2.1 hz)⟩
          · rw [if_neg hz]
            by_cases h2 : wd D (n0 x) ≤ n0 z
            · rw [if_pos (by rw [ez, nIle (by omega) (by omega)]; exact h2)]
              exact ⟨_, rfl, no (fun q => by omega)⟩
            · rw [if_neg (by rw [ez, nIle (by omega) (by omega)]; exact h2)]
              rw [if_neg (by rintro (q | q | q); exact hx q; exact hy q; exact hz q), if_pos ⟨h3, by omega, by omega⟩] at k
              have ei : y * nI 4 + z = nI (n0 y * 4 + n0 z) := by
                have e1 : nI (n0 y) * nI 4 + nI (n0 z) = nI (n0 y * 4 + n0 z) := by rw [pk_mul, nI_add]
                rw [← ey, ← ez] at e1
                exact e1
              rw [ei, lB, ix_nI (by omega), (hD _ h3).2.2.1 (n0 y) (by omega) (n0 z) (by omega)]
              exact ⟨ok_nI (by omega) (by decide), _, rfl, k⟩
    · rw [if_neg h3, if_pos rfl]; exact no (fun q => h3 q.2.2.2.1)
/-- how many keys are smaller: the place -/
def lsK (R : List (List Int64)) (r : List Int64) : Nat := R.countP (fun q => decide (q.getD 0 0 < r.getD 0 0))
theorem ls_place {t i : Nat} (hI : DI D) (ht : t < 3) (hi : i < (rw_ D t).length) : lsK (rw_ D t) ((rw_ D t).getD i []) = i := by
  have key : ∀ n, n ≤ (rw_ D t).length → ((rw_ D t).take n).countP (fun q => decide (q.getD 0 0 < ((rw_ D t).getD i []).getD 0 0)) = if n ≤ i then n else i := by
    intro n
    induction n with
    | zero => intro _; rw [if_pos (Nat.zero_le _)]; rfl
    | succ n ih =>
      intro hn
      rw [cntP_snoc (by omega), ih (by omega)]
      have hkl := key_lt hI ht (i := n) (j := i) (by omega) hi
      by_cases hni : n < i
      · rw [if_pos (decide_eq_true (hkl.mpr hni)), if_pos (by omega), if_pos (by omega)]
      · rw [if_neg (fun q => hni (hkl.mp (of_decide_eq_true q))), if_neg (by omega : ¬ n + 1 ≤ i)]
        by_cases q : n ≤ i
        · rw [if_pos q]; omega
        · rw [if_neg q]
  have := key (rw_ D t).length (Nat.le_refl _)
  rw [List.take_length, if_neg (by omega)] at this
  exact this
theorem ls_sgm {t r : Nat} (hI : DI D) (ht : t < 3) (hp : (P t).Perm (rw_ D t)) (hr : r < (rw_ D t).length) : lsK (P t) ((P t).getD r []) = sgm D P t r := by
  have h1 : lsK (P t) ((P t).getD r []) = lsK (rw_ D t) ((P t).getD r []) := hp.countP_eq _
  rw [h1, ← sgm_get hp hr]
  exact ls_place hI ht (sgm_lt hp hr)
end I99
