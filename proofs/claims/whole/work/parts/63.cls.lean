/-! WHAT STEPS ARE WORTH, the class: work() -/
def CE (m : Mm) (rs : List Op) : Prop := m.F 17 5 = nI rs.length ∧ rs.length ≤ 80 ∧ ∀ i, i < rs.length → (m.A 18).getD i 0 = nI (rs.getD i (0, 0, 0)).1 ∧ (rs.getD i (0, 0, 0)).1 < 1000 ∧ (m.A 19).getD i 0 = nI (rs.getD i (0, 0, 0)).2.1 ∧ ((rs.getD i (0, 0, 0)).1 = 3 → (m.A 21).getD i 0 = nI (rs.getD i (0, 0, 0)).2.2)
/-- a column's step, as the class sees it -/
def PV1 (m : Mm) (env : Evr) (x : Op) : Prop := x.2.2 < 2 ∧ tbl (m.R 23 (1 + x.2.2)) ∧ ∃ row dn ac, (m.A 24).getD x.2.2 0 = nI row ∧ m.F (m.R 23 (1 + x.2.2)) 3 = nI dn ∧ m.F (m.R 23 (1 + x.2.2)) 2 = nI ac ∧ row < dn ∧ dn ≤ 20 ∧ x.2.1 < ac ∧ ac ≤ 4 ∧ (m.B (m.R 23 (1 + x.2.2) + 1)).getD (row * 4 + x.2.1) 0 = env x.2.2 x.2.1
def PV (m : Mm) (env : Evr) (l : List Op) : Prop := ∀ x, x ∈ l → x.1 = 3 → PV1 m env x
def SBk (q : Nat) (m : Mm) (st : List Int64) : Prop := ∀ i, i < st.length → (m.B q).getD i 0 = st.reverse.getD i 0
section C63
variable {d : Nat} {m m0 m1 : Mm} {K : Option Value → Mm → Prop} {rs l : List Op} {env : Evr} {st : List Int64} {q : Nat}
theorem SBk.push {v : Int64} (h : SBk q m st) (hl : st.length < (m.B q).length) : SBk q (m.uB q ((m.B q).set st.length v)) (v :: st) := by
  intro i hi
  rw [List.length_cons] at hi
  show ((m.uB q ((m.B q).set st.length v)).B q).getD i 0 = _
  rw [mB_B, if_pos rfl, getD_set _ _ _ _ _ hl, List.reverse_cons, getD_snoc2, List.length_reverse]
  by_cases e : i = st.length
  · rw [if_pos e, if_pos e]
  · rw [if_neg e, if_neg e]; exact h i (by omega)
theorem SBk.tail {v : Int64} (h : SBk q m (v :: st)) : SBk q m st := by
  intro i hi
  have := h i (by rw [List.length_cons]; omega)
  rw [List.reverse_cons, getD_snoc2, List.length_reverse, if_neg (by omega)] at this
  exact this
theorem SBk.top {v : Int64} (h : SBk q m (v :: st)) : (m.B q).getD st.length 0 = v := by
  have := h st.length (by rw [List.length_cons]; omega)
  rw [List.reverse_cons, getD_snoc2, List.length_reverse, if_pos rfl] at this
  exact this
theorem CE.fr {S : List Nat} (h : CE m rs) (k : Fr S m m1) (h1 : 17 ∉ S) (h2 : 18 ∉ S) (h3 : 19 ∉ S) (h4 : 21 ∉ S) : CE m1 rs := by
  obtain ⟨a, b, e⟩ := h
  refine ⟨by rw [k.f h1]; exact a, b, ?_⟩
  rw [k.a h2, k.a h3, k.a h4]; exact e
def djT (S : List Nat) : Bool := dj S [3, 4, 6, 7, 9, 10, 23, 24]
theorem PV1.fr {S : List Nat} {x : Op} (h : PV1 m env x) (k : Fr S m m1) (hs : djT S = true) : PV1 m1 env x := by
  have N : ∀ c, c ∈ [3, 4, 6, 7, 9, 10, 23, 24] → c ∉ S := fun c hc => dj_no hs hc
  obtain ⟨h1, h2, row, dn, ac, h3, h4, h5, h6, h7, h8, h9, h10⟩ := h
  have r1 : m1.R 23 (1 + x.2.2) = m.R 23 (1 + x.2.2) := k.r (N 23 (by decide)) _
  have nr : m.R 23 (1 + x.2.2) ∉ S := by rcases h2 with z | z | z <;> rw [z] <;> exact N _ (by decide)
  have nr1 : m.R 23 (1 + x.2.2) + 1 ∉ S := by rcases h2 with z | z | z <;> rw [z] <;> exact N _ (by decide)
  refine ⟨h1, by rw [r1]; exact h2, row, dn, ac, ?_, ?_, ?_, h6, h7, h8, h9, ?_⟩
  · rw [k.a (N 24 (by decide))]; exact h3
  · rw [r1, k.f nr]; exact h4
  · rw [r1, k.f nr]; exact h5
  · rw [r1, k.b nr1]; exact h10
theorem PV.fr {S : List Nat} (h : PV m env l) (k : Fr S m m1) (hs : djT S = true) : PV m1 env l := fun x hx h3 => (h x hx h3).fr k hs
theorem ar_le (k : Nat) : ar k = 0 ∨ ar k = 1 ∨ ar k = 2 := by
  unfold ar
  split
  · exact Or.inl rfl
  · split
    · exact Or.inr (Or.inl rfl)
    · exact Or.inr (Or.inr rfl)
theorem c_52 {k : Nat} (hk : k < 1000) (kk : K (some (.int (nI (ar k)))) m) : WP d 52 [.int (nI k)] m K := by
  refine sp_52 _ ?_
  simp (disch := omega) only [nIeq]
  unfold ar at kk
  by_cases h1 : k = 2
  · rw [if_pos h1]; rw [if_pos (by omega)] at kk; exact kk
  rw [if_neg h1]
  by_cases h2 : k = 3
  · rw [if_pos h2]; rw [if_pos (by omega)] at kk; exact kk
  rw [if_neg h2]
  by_cases h3 : k = 15
  · rw [if_pos h3]; rw [if_pos (by omega)] at kk; exact kk
  rw [if_neg h3]
  rw [if_neg (by omega)] at kk
  by_cases h4 : k = 18
  · rw [if_pos h4]; rw [if_pos (by omega)] at kk; exact kk
  rw [if_neg h4]
  by_cases h5 : k = 30
  · rw [if_pos h5]; rw [if_pos (by omega)] at kk; exact kk
  rw [if_neg h5]
  by_cases h6 : k = 31
  · rw [if_pos h6]; rw [if_pos (by omega)] at kk; exact kk
  rw [if_neg h6]
  rw [if_neg (by omega)] at kk; exact kk
/-- a cell of a table that is there -/
theorem c_29 {r row c dn ac : Nat} (hr : tbl r) (hL : Len m) (h3 : m.F r 3 = nI dn) (h2 : m.F r 2 = nI ac) (h : row < dn) (hd : dn ≤ 20) (hc : c < ac) (ha : ac ≤ 4) (k : K (some (.long ((m.B (r + 1)).getD (row * 4 + c) 0))) m) : WP d 29 [.ref r, .int (nI row), .int (nI c)] m K := by
  have l1 : (m.B (r + 1)).length = 80 := by rcases hr with z | z | z <;> rw [z] <;> exact hL.b (by decide) rfl
  refine sp_29 _ _ _ hr ?_
  simp (disch := omega) only [h3, h2, nIlt, nIle, pk_mul, nI_add, ix_nI, l1]
  rw [if_neg (by omega), if_neg (by omega), if_neg (by omega), if_neg (by omega)]
  exact ⟨ok_nI (by omega) (by decide), k⟩
theorem c_53 {i : Nat} (hL : Len m) (hC : CE m rs) (hi : i < rs.length) (hP : (rs.getD i (0, 0, 0)).1 = 3 → PV1 m env (rs.getD i (0, 0, 0))) (k : K (some (.long (evL env (rs.getD i (0, 0, 0))))) m) : WP (d + 1) 53 [.ref 17, .int (nI i), .ref 23] m K := by
  have l1 : (m.A 18).length = 80 := hL.a (by decide) rfl
  have l2 : (m.A 19).length = 80 := hL.a (by decide) rfl
  have l3 : (m.A 21).length = 80 := hL.a (by decide) rfl
  have l4 : (m.A 24).length = 2 := hL.a (by decide) rfl
  obtain ⟨c1, c2, c3⟩ := hC
  obtain ⟨e1, e2, e3, e4⟩ := c3 i hi
  have ho : ok 80 (nI i) := ok_nI (by omega) (by decide)
  refine sp_53 _ ?_
  simp (disch := omega) only [l1, l2, l3, ix_nI, e1, nIeq]
  refine ⟨ho, ?_⟩
  unfold evL at k
  by_cases h3 : (rs.getD i (0, 0, 0)).1 = 3
  · rw [if_pos h3]
    rw [if_pos h3] at k
    obtain ⟨h1, h2, row, dn, ac, g3, g4, g5, g6, g7, g8, g9, g10⟩ := hP h3
    refine ⟨ho, ?_⟩
    rw [e4 h3]
    have es : (rs.getD i (0, 0, 0)).2.2 = 0 ∨ (rs.getD i (0, 0, 0)).2.2 = 1 := by omega
    refine sp_41 _ ?_
    rcases es with z | z
    · rw [z] at h2 g3 g4 g5 g10 k ⊢
      rw [if_pos rfl]
      refine ⟨h2, _, rfl, h2, by rw [l3]; exact ho, ?_⟩
      rw [e4 h3, z]
      refine sp_42 _ ?_
      rw [if_pos rfl, l4, ix_nI (by decide), g3]
      refine ⟨ok_nI (by decide) (by decide), _, rfl, by rw [l2]; exact ho, ?_⟩
      rw [e3]
      refine c_29 h2 hL g4 g5 g6 g7 g8 g9 ⟨_, rfl, ?_⟩
      have g10 : (m.B (m.R 23 1 + 1)).getD (row * 4 + (rs.getD i (0, 0, 0)).2.1) 0 = env 0 (rs.getD i (0, 0, 0)).2.1 := g10
      rw [g10]; exact k
    · rw [z] at h2 g3 g4 g5 g10 k ⊢
      rw [if_neg (by decide)]
      refine ⟨h2, _, rfl, h2, by rw [l3]; exact ho, ?_⟩
      rw [e4 h3, z]
      refine sp_42 _ ?_
      rw [if_neg (by decide), l4, ix_nI (by decide), g3]
      refine ⟨ok_nI (by decide) (by decide), _, rfl, by rw [l2]; exact ho, ?_⟩
      rw [e3]
      refine c_29 h2 hL g4 g5 g6 g7 g8 g9 ⟨_, rfl, ?_⟩
      have g10 : (m.B (m.R 23 2 + 1)).getD (row * 4 + (rs.getD i (0, 0, 0)).2.1) 0 = env 1 (rs.getD i (0, 0, 0)).2.1 := g10
      rw [g10]; exact k
  · rw [if_neg h3]
    rw [if_neg h3] at k
    refine ⟨ho, ?_⟩
    by_cases h2 : (rs.getD i (0, 0, 0)).1 = 2
    · rw [if_pos h2]
      rw [if_pos h2] at k
      refine ⟨ho, ?_⟩
      rw [e3]; exact k
    · rw [if_neg h2]
      rw [if_neg h2] at k
      exact k
theorem lg_nul (v : Int64) : (lg_cmp v 1099511627776 = nI 0) = (v = NUL) := lgc_eq v 1099511627776
theorem c_54 {k : Nat} {v : Int64} (hk : k < 1000) (kk : K (some (.long (ev1 k v))) m) : WP d 54 [.int (nI k), .long v] m K := by
  refine sp_54 _ _ ?_
  simp (disch := omega) only [nIeq, lg_nul]
  unfold ev1 at kk
  by_cases h1 : k = 30
  · rw [if_pos h1] at kk ⊢
    by_cases h2 : v = NUL
    · rw [if_pos h2] at kk ⊢; exact kk
    · rw [if_neg h2] at kk ⊢; exact kk
  · rw [if_neg h1] at kk ⊢
    by_cases h3 : k = 31
    · rw [if_pos h3] at kk ⊢
      by_cases h2 : v = NUL
      · rw [if_pos h2] at kk ⊢; exact kk
      · rw [if_neg h2] at kk ⊢; exact kk
    · rw [if_neg h3] at kk ⊢; exact kk
theorem i64_lt {x y : Int64} : (y ≤ x) = ¬ (x < y) := by
  apply propext
  rw [Int64.le_iff_toInt_le, Int64.lt_iff_toInt_lt]; omega
theorem c_56 {k : Nat} {x y : Int64} (hk : k < 1000) (kk : K (some (.long (evC k x y))) m) : WP d 56 [.int (nI k), .long x, .long y] m K := by
  have e1 : (nI 0 ≤ lg_cmp x y) = (y ≤ x) := propext (lg_cmp_ge x y)
  have e2 : (lg_cmp x y ≤ nI 0) = (x ≤ y) := propext (lg_cmp_le x y)
  refine sp_56 _ _ _ ?_
  simp (disch := omega) only [nIeq, lgc_eq, e1, e2]
  unfold evC at kk
  by_cases h1 : k = 61
  · rw [if_pos h1] at kk ⊢
    by_cases h2 : x = y
    · rw [if_pos h2] at kk ⊢; exact kk
    · rw [if_neg h2] at kk ⊢; exact kk
  · rw [if_neg h1] at kk ⊢
    by_cases h3 : k = 60
    · rw [if_pos h3] at kk ⊢
      by_cases h2 : x < y
      · rw [if_pos h2] at kk; rw [if_neg (by rw [i64_lt]; exact fun z => z h2)]; exact kk
      · rw [if_neg h2] at kk; rw [if_pos (by rw [i64_lt]; exact h2)]; exact kk
    · rw [if_neg h3] at kk ⊢
      by_cases h2 : y < x
      · rw [if_pos h2] at kk; rw [if_neg (by rw [i64_lt]; exact fun z => z h2)]; exact kk
      · rw [if_neg h2] at kk; rw [if_pos (by rw [i64_lt]; exact h2)]; exact kk
theorem c_57 {k : Nat} {x y : Int32} (hk : k < 1000) (kk : K (some (.long (evA k x y))) m) : WP d 57 [.int (nI k), .int x, .int y] m K := by
  refine sp_57 _ _ _ ?_
  simp (disch := omega) only [nIeq]
  unfold evA at kk
  by_cases h1 : k = 42
  · rw [if_pos h1] at kk ⊢; exact kk
  · rw [if_neg h1] at kk ⊢
    by_cases h2 : k = 43
    · rw [if_pos h2] at kk ⊢; exact kk
    · rw [if_neg h2] at kk ⊢
      by_cases h3 : k = 45
      · rw [if_pos h3] at kk ⊢; exact kk
      · rw [if_neg h3] at kk ⊢
        by_cases h4 : y = 0
        · rw [if_pos h4] at kk; rw [if_pos (show y = nI 0 from h4)]; exact kk
        · rw [if_neg h4] at kk; rw [if_neg (show ¬ y = nI 0 from h4)]; exact ⟨h4, kk⟩
theorem c_55 {k : Nat} {x y : Int64} (hk : k < 1000) (kk : K (some (.long (ev2 k x y))) m) : WP (d + 1) 55 [.int (nI k), .long x, .long y] m K := by
  refine sp_55 _ _ _ ?_
  simp (disch := omega) only [nIeq, lg_nul]
  unfold ev2 at kk
  have cmp : (k = 61 ∨ k = 60 ∨ k = 62) → K (some (.long (if x = NUL ∨ y = NUL then 1 else evC k x y))) m → (if x = NUL then K (some (.long 1)) m else (if y = NUL then K (some (.long 1)) m else WP d 56 [.int (nI k), .long x, .long y] m (fun v m12 => ∃ w13, v = some (.long w13) ∧ K (some (.long w13)) m12))) := by
    intro _ h
    by_cases h1 : x = NUL
    · rw [if_pos h1]; rw [if_pos (Or.inl h1)] at h; exact h
    · rw [if_neg h1]
      by_cases h2 : y = NUL
      · rw [if_pos h2]; rw [if_pos (Or.inr h2)] at h; exact h
      · rw [if_neg h2]; rw [if_neg (fun z => by rcases z with z | z; exact h1 z; exact h2 z)] at h
        exact c_56 hk ⟨_, rfl, h⟩
  by_cases h17 : k = 17
  · rw [if_pos h17] at kk ⊢; exact kk
  rw [if_neg h17] at kk ⊢
  by_cases h16 : k = 16
  · rw [if_pos h16] at kk ⊢; exact kk
  rw [if_neg h16] at kk ⊢
  by_cases h61 : k = 61
  · rw [if_pos (Or.inl h61)] at kk; rw [if_pos h61]; exact cmp (Or.inl h61) kk
  rw [if_neg h61]
  by_cases h60 : k = 60
  · rw [if_pos (Or.inr (Or.inl h60))] at kk; rw [if_pos h60]; exact cmp (Or.inr (Or.inl h60)) kk
  rw [if_neg h60]
  by_cases h62 : k = 62
  · rw [if_pos (Or.inr (Or.inr h62))] at kk; rw [if_pos h62]; exact cmp (Or.inr (Or.inr h62)) kk
  rw [if_neg h62]
  rw [if_neg (by omega)] at kk
  by_cases h1 : x = NUL
  · rw [if_pos h1]; rw [if_pos (Or.inl h1)] at kk; exact kk
  · rw [if_neg h1]
    by_cases h2 : y = NUL
    · rw [if_pos h2]; rw [if_pos (Or.inr h2)] at kk; exact kk
    · rw [if_neg h2]; rw [if_neg (fun z => by rcases z with z | z; exact h1 z; exact h2 z)] at kk
      exact c_57 hk ⟨_, rfl, kk⟩
theorem ty_len {k : Nat} {T T' : List Bool} (h : ty1 k T = some T') : (ar k = 0 → True) ∧ (ar k = 1 → 1 ≤ T.length) ∧ (ar k = 2 → 2 ≤ T.length) := by
  unfold ty1 at h
  refine ⟨fun _ => trivial, fun ha => ?_, fun ha => ?_⟩
  · cases T with
    | nil =>
      exfalso
      split at h
      · next hk => unfold ar at ha; rw [if_pos hk] at ha; cases ha
      · split at h
        · cases h
        · split at h
          · cases h
          · split at h
            · cases h
            · split at h
              · cases h
              · split at h
                · cases h
                · split at h
                  · cases h
                  · cases h
    | cons a T => rw [List.length_cons]; omega
  · have : 1 < T.length := by
      cases T with
      | nil =>
        exfalso
        split at h
        · next hk => unfold ar at ha; rw [if_pos hk] at ha; cases ha
        · split at h
          · cases h
          · split at h
            · cases h
            · split at h
              · cases h
              · split at h
                · cases h
                · split at h
                  · cases h
                  · split at h
                    · cases h
                    · cases h
      | cons a T =>
        cases T with
        | cons b T => rw [List.length_cons, List.length_cons]; omega
        | nil =>
          exfalso
          split at h
          · next hk => unfold ar at ha; rw [if_pos hk] at ha; cases ha
          · split at h
            · next hk => rw [hk] at ha; cases ha
            · split at h
              · next hk => rw [hk] at ha; cases ha
              · split at h
                · next hk => rw [hk] at ha; cases ha
                · cases a
                  · split at h
                    · cases h
                    · split at h
                      · cases h
                      · split at h
                        · cases h
                        · cases h
                  · split at h
                    · cases h
                    · split at h
                      · cases h
                      · split at h
                        · cases h
                        · cases h
    omega
theorem ty_h1 {k : Nat} {T T' : List Bool} (h : ty1 k T = some T') (ha : ar k = 1) : T'.length = T.length := by
  have hk : k = 18 ∨ k = 30 ∨ k = 31 := by
    apply Classical.byContradiction
    intro z
    unfold ar at ha
    split at ha
    · cases ha
    · cases ha
  rcases hk with rfl | rfl | rfl
  · cases T with
    | nil => cases h
    | cons a T => cases a <;> cases h; rfl
  · cases T with
    | nil => cases h
    | cons a T => cases a <;> cases h; rfl
  · cases T with
    | nil => cases h
    | cons a T => cases a <;> cases h; rfl
theorem ty_h2 {k : Nat} {T T' : List Bool} (h : ty1 k T = some T') (ha : ar k = 2) : T'.length + 1 = T.length := by
  have h2 := (ty_len h).2.2 ha
  have hk : ¬ (k = 2 ∨ k = 3 ∨ k = 15) := by
    intro z
    unfold ar at ha
    rw [if_pos z] at ha; cases ha
  have hk2 : k ≠ 30 ∧ k ≠ 31 ∧ k ≠ 18 := by
    refine ⟨?_, ?_, ?_⟩ <;> rintro rfl <;> cases ha
  unfold ty1 at h
  rw [if_neg hk, if_neg hk2.1, if_neg hk2.2.1, if_neg hk2.2.2] at h
  split at h
  · split at h
    · cases h; rfl
    · cases h
  · split at h
    · split at h
      · cases h; rfl
      · cases h
    · split at h
      · split at h
        · cases h; rfl
        · cases h
      · cases h
theorem lp_51 : ∀ (l : List Op) (i : Nat) (st : List Int64) (m : Mm) (T T' : List Bool), rs.drop i = l ++ rs.drop (i + l.length) → i + l.length ≤ rs.length → Len m → CE m rs → PV m env l → SBk 22 m st → st.length ≤ i → tys l T = some T' → T.length = st.length → (∀ m', SBk 22 m' (evs env l st) → T'.length = (evs env l st).length → Fr [22] m m' → WH (d + 3) 51 167 [(0, .ref 17), (4, .int (nI (evs env l st).length))] [] m' K) → WH (d + 3) 51 10 [(0, .ref 17), (2, .int (nI (i + l.length))), (3, .ref 23), (4, .int (nI st.length)), (5, .int (nI i))] [] m K := by
  intro l
  induction l with
  | nil =>
    intro i st m T T' hd hl hL hC hP hS hi ht hT k
    have hn := hC.2.1
    rw [List.length_nil, Nat.add_zero] at hl ⊢
    refine sg_51_10 _ _ _ ?_
    rw [if_pos (by rw [nIle (by omega) (by omega)]; exact Nat.le_refl _)]
    cases ht
    exact k m hS hT (Fr.refl _ m)
  | cons x l ih =>
    intro i st m T T' hd hl hL hC hP hS hi ht hT k
    have hn := hC.2.1
    rw [List.length_cons] at hl
    have hx : rs.getD i (0, 0, 0) = x := by
      rw [List.getD_eq_getElem?_getD]
      have h1 : (rs.drop i)[0]? = some x := by rw [hd]; rfl
      rw [List.getElem?_drop, Nat.add_zero] at h1
      rw [h1]; rfl
    have hd2 : rs.drop (i + 1) = l ++ rs.drop (i + 1 + l.length) := by
      rw [← List.drop_drop, hd]
      show l ++ _ = _
      rw [List.length_cons]
      congr 2
      omega
    have e0 : i + (x :: l).length = i + 1 + l.length := by rw [List.length_cons]; omega
    rw [e0]
    obtain ⟨c1, c2, c3⟩ := hC
    have hC : CE m rs := ⟨c1, c2, c3⟩
    obtain ⟨e1, e2, e3, e4⟩ := c3 i (by omega)
    rw [hx] at e1 e2
    have l1 : (m.A 18).length = 80 := hL.a (by decide) rfl
    have l2 : (m.B 22).length = 80 := hL.b (by decide) rfl
    have ht : (match ty1 x.1 T with | some T' => tys l T' | none => none) = some T' := ht
    cases hty : ty1 x.1 T with
    | none => rw [hty] at ht; cases ht
    | some T1 =>
      rw [hty] at ht
      have hlen := ty_len hty
      -- what follows a step
      have nx : ∀ m1 (st1 : List Int64), stp env x st = st1 → T1.length = st1.length → SBk 22 m1 st1 → st1.length ≤ i + 1 → Fr [22] m m1 → WH (d + 3) 51 161 [(0, .ref 17), (2, .int (nI (i + 1 + l.length))), (3, .ref 23), (4, .int (nI st1.length)), (5, .int (nI i))] [] m1 K := by
        intro m1 st1 hst hT1 hS1 hi1 f1
        refine sg_51_161 _ _ _ ?_
        rw [nI_add]
        refine ih (i + 1) st1 m1 T1 T' hd2 (by omega) (hL.fr f1) (hC.fr f1 (by decide) (by decide) (by decide) (by decide)) (fun y hy h3 => (hP y (List.mem_cons_of_mem _ hy) h3).fr f1 (by decide)) hS1 hi1 ht hT1 (fun m' a1 a2 f2 => ?_)
        have := k m'
        rw [show evs env (x :: l) st = evs env l st1 from by show evs env l (stp env x st) = _; rw [hst]] at this
        exact this a1 a2 (f1.trans f2)
      refine sg_51_10 _ _ _ ?_
      have g1 : ¬ nI (i + 1 + l.length) ≤ nI i := by rw [nIle (by omega) (by omega)]; omega
      have g2 : ¬ m.F 17 5 ≤ nI i := by rw [c1, nIle (by omega) (by omega)]; omega
      rw [if_neg g1, if_neg g2, l1, ix_nI (by omega), e1]
      have ho : ok 80 (nI i) := ok_nI (by omega) (by decide)
      refine ⟨ho, c_52 e2 ⟨_, rfl, ?_⟩⟩
      rcases ar_le x.1 with ha | ha | ha
      · rw [ha, if_pos rfl]
        have g3 : ¬ nI 80 ≤ nI st.length := by rw [nIle (by omega) (by omega)]; omega
        rw [if_neg g3]
        refine c_53 hL hC (by omega) (fun h3 => by rw [hx] at h3 ⊢; exact hP x (List.mem_cons_self ..) h3) ⟨_, rfl, by rw [l2]; exact ok_nI (by omega) (by decide), ?_⟩
        rw [hx, ix_nI (by omega), nI_add]
        have f1 : Fr [22] m (m.uB 22 ((m.B 22).set st.length (evL env x))) := by
          refine Fr.uB (Fr.refl _ m) (by decide) ?_
          rw [List.length_set]
        have hst : stp env x st = evL env x :: st := by unfold stp; rw [if_pos ha]
        have hT1 : T1.length = (evL env x :: st).length := by
          have h0 : x.1 = 2 ∨ x.1 = 3 ∨ x.1 = 15 := by
            apply Classical.byContradiction
            intro z
            unfold ar at ha
            rw [if_neg z] at ha
            split at ha <;> cases ha
          unfold ty1 at hty
          rw [if_pos h0] at hty
          cases hty
          rw [List.length_cons, List.length_cons, hT]
        exact nx _ _ hst hT1 (hS.push (by omega)) (by rw [List.length_cons]; omega) f1
      · rw [ha, if_neg (by decide)]
        have h1 := hlen.2.1 ha
        cases st with
        | nil => rw [hT] at h1; exact absurd h1 (by decide)
        | cons v st =>
          rw [List.length_cons] at hi hT
          refine sg_51_69 _ _ _ _ ?_
          have g3 : ¬ nI (st.length + 1) ≤ nI 0 := by rw [nIle (by omega) (by omega)]; omega
          rw [if_pos rfl, List.length_cons, if_neg g3, l1, l2, ix_nI (by omega), e1, nIsub (by omega), Nat.add_sub_cancel, ix_nI (by omega), hS.top]
          have ho2 : ok 80 (nI st.length) := ok_nI (by omega) (by decide)
          refine ⟨ho, ho2, c_54 e2 ⟨_, rfl, by rw [l2]; exact ho2, ?_⟩⟩
          have f1 : Fr [22] m (m.uB 22 ((m.B 22).set st.length (ev1 x.1 v))) := by
            refine Fr.uB (Fr.refl _ m) (by decide) ?_
            rw [List.length_set]
          have hst : stp env x (v :: st) = ev1 x.1 v :: st := by unfold stp; rw [if_neg (by rw [ha]; decide), if_pos ha]
          have hT1 : T1.length = (ev1 x.1 v :: st).length := by rw [List.length_cons]; exact (ty_h1 hty ha).trans hT
          have := nx _ _ hst hT1 (hS.tail.push (by omega)) (by rw [List.length_cons]; omega) f1
          rw [List.length_cons] at this
          exact this
      · rw [ha, if_neg (by decide)]
        have h1 := hlen.2.2 ha
        cases st with
        | nil => rw [hT] at h1; exact absurd h1 (by decide)
        | cons v st =>
          cases st with
          | nil => rw [hT] at h1; exact absurd h1 (by simp)
          | cons u st =>
            rw [List.length_cons, List.length_cons] at hi hT
            refine sg_51_69 _ _ _ _ ?_
            rw [if_neg (by decide)]
            refine sg_51_111 _ _ _ _ ?_
            have g3 : ¬ nI (st.length + 1 + 1) ≤ nI 1 := by rw [nIle (by omega) (by omega)]; omega
            have t1 := hS.top
            have t2 := hS.tail.top
            rw [List.length_cons] at t1
            rw [if_pos rfl, List.length_cons, List.length_cons, if_neg g3, l1, l2, ix_nI (by omega), e1, nI_m1 (by omega), Nat.add_sub_cancel, nIsub (by omega), Nat.add_sub_cancel, ix_nI (by omega), ix_nI (by omega), t1, t2]
            have ho2 : ok 80 (nI st.length) := ok_nI (by omega) (by decide)
            have ho3 : ok 80 (nI (st.length + 1)) := ok_nI (by omega) (by decide)
            refine ⟨ho, ho2, ho3, c_55 e2 ⟨_, rfl, by rw [l2]; exact ho2, ?_⟩⟩
            have f1 : Fr [22] m (m.uB 22 ((m.B 22).set st.length (ev2 x.1 u v))) := by
              refine Fr.uB (Fr.refl _ m) (by decide) ?_
              rw [List.length_set]
            have hst : stp env x (v :: u :: st) = ev2 x.1 u v :: st := by unfold stp; rw [if_neg (by rw [ha]; decide), if_neg (by rw [ha]; decide)]
            have hT1 : T1.length = (ev2 x.1 u v :: st).length := by rw [List.length_cons]; have := ty_h2 hty ha; omega
            have := nx _ _ hst hT1 (hS.tail.tail.push (by omega)) (by rw [List.length_cons]; omega) f1
            rw [List.length_cons] at this
            exact this
/-- what an E or C of the statement is worth -/
theorem c_51 {b : Bool} {i j : Nat} {c : List Op} (hL : Len m) (hC : CE m rs) (hc : (rs.drop i).take (j - i) = c) (hij : i ≤ j) (hj : j ≤ rs.length) (hP : PV m env c) (ht : tyC b c) (k : ∀ m', Fr [22] m m' → K (some (.long (val env c))) m') : WP (d + 3) 51 [.ref 17, .int (nI i), .int (nI j), .ref 23] m K := by
  have hn := hC.2.1
  have hlen : c.length = j - i := by rw [← hc, List.length_take, List.length_drop]; omega
  have hd : rs.drop i = c ++ rs.drop (i + c.length) := by
    have := List.take_append_drop (j - i) (rs.drop i)
    rw [hc, List.drop_drop] at this
    rw [hlen]
    exact this.symm
  have e0 : mxI (nI i) (nI 0) = nI i := by
    unfold mxI
    rw [if_neg (by rw [nIlt (by omega) (by omega)]; omega)]
  refine sp_51 _ _ ?_
  rw [e0]
  have := lp_51 (d := d) (K := K) (rs := rs) (env := env) c i [] m [] [b] hd (by omega) hL hC hP (fun i hi => by cases hi) (Nat.zero_le _) (ht []) rfl (fun m' a1 a2 f => ?_)
  · rw [show i + c.length = j by omega] at this
    exact this
  · have l2 : (m'.B 22).length = 80 := (hL.fr f).b (by decide) rfl
    cases hv : evs env c [] with
    | nil => rw [hv] at a2; cases a2
    | cons v r =>
      rw [hv] at a1 a2
      cases r with
      | cons w r => cases a2
      | nil =>
        refine sg_51_167 _ ?_
        rw [if_neg (show ¬ nI [v].length ≤ nI 0 from (by decide : ¬ nI 1 ≤ nI 0)), l2, ix_nI (by decide)]
        have t1 := a1.top
        rw [List.length_nil] at t1
        rw [t1]
        refine ⟨ok_nI (by decide) (by decide), ?_⟩
        have := k m' f
        unfold val at this
        rw [hv] at this
        exact this
end C63
