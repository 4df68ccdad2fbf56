/-! A TABLE'S ROWS IN THE CLASS: all four columns of a row; exchange of two rows, a row to its place -/
def key (r : List Int64) : Int64 := r.getD 0 0
def TBl (B : List Int64) (Q : List (List Int64)) : Prop := ∀ i, i < Q.length → ∀ c, c < 4 → B.getD (i * 4 + c) 0 = (Q.getD i []).getD c 0
def phy (B : List Int64) (n : Nat) : List (List Int64) := (List.range n).map (fun i => [B.getD (i * 4) 0, B.getD (i * 4 + 1) 0, B.getD (i * 4 + 2) 0, B.getD (i * 4 + 3) 0])
theorem phy_len (B : List Int64) (n : Nat) : (phy B n).length = n := by
  unfold phy
  rw [List.length_map, List.length_range]
theorem phy_get {B : List Int64} {n i : Nat} (h : i < n) : (phy B n).getD i [] = [B.getD (i * 4) 0, B.getD (i * 4 + 1) 0, B.getD (i * 4 + 2) 0, B.getD (i * 4 + 3) 0] := by
  unfold phy
  have e : (List.range n).getD i 0 = i := by rw [List.getD_eq_getElem?_getD, List.getElem?_range h]; rfl
  rw [getD_map _ _ i 0 [] (by rw [List.length_range]; exact h), e]
theorem phy_TBl (B : List Int64) (n : Nat) : TBl B (phy B n) := by
  intro i hi c hc
  rw [phy_len] at hi
  rw [phy_get hi]
  rcases (by omega : c = 0 ∨ c = 1 ∨ c = 2 ∨ c = 3) with rfl | rfl | rfl | rfl <;> rfl
def swA (Q : List (List Int64)) (k : Nat) : List (List Int64) := (Q.set k (Q.getD (k + 1) [])).set (k + 1) (Q.getD k [])
theorem swA_len (Q : List (List Int64)) (k : Nat) : (swA Q k).length = Q.length := by
  unfold swA
  rw [List.length_set, List.length_set]
theorem swA_get {Q : List (List Int64)} {k : Nat} (h : k + 1 < Q.length) (i : Nat) : (swA Q k).getD i [] = if i = k + 1 then Q.getD k [] else if i = k then Q.getD (k + 1) [] else Q.getD i [] := by
  unfold swA
  rw [getD_set _ _ _ _ _ (by rw [List.length_set]; exact h), getD_set _ _ _ _ _ (by omega)]
section T72
variable {d : Nat} {m m0 m1 : Mm} {K : Option Value → Mm → Prop} {r : Nat} {Q : List (List Int64)}
theorem lenB {r : Nat} (hr : tbl r) (hL : Len m) : (m.B (r + 1)).length = 80 := by
  rcases hr with z | z | z <;> rw [z] <;> exact hL.b (by decide) rfl
/-- two cells change places, four times -/
theorem lp_38 (hr : tbl r) {k : Nat} (hk : k + 1 < 20) : ∀ (n j : Nat) (m : Mm), j + n = 4 → Len m → (∀ m', Len m' → (∀ i, (m'.B (r + 1)).getD i 0 = if (k + 1) * 4 + j ≤ i ∧ i < (k + 1) * 4 + 4 then (m.B (r + 1)).getD (i - 4) 0 else if k * 4 + j ≤ i ∧ i < k * 4 + 4 then (m.B (r + 1)).getD (i + 4) 0 else (m.B (r + 1)).getD i 0) → Fr [r + 1] m m' → K none m') → WH d 38 2 [(0, .ref r), (1, .int (nI ((k + 1) * 4))), (2, .int (nI ((k + 1) * 4 + j)))] [] m K := by
  intro n
  induction n with
  | zero =>
    intro j m hj hL k1
    refine sg_38_2 _ _ _ hr ?_
    rw [nI_add, if_pos (by rw [nIle (by omega) (by omega)]; omega)]
    refine k1 m hL (fun i => ?_) (Fr.refl _ m)
    rw [if_neg (by omega), if_neg (by omega)]
  | succ n ih =>
    intro j m hj hL k1
    have l1 := lenB hr hL
    refine sg_38_2 _ _ _ hr ?_
    rw [nI_add, if_neg (by rw [nIle (by omega) (by omega)]; omega), nIsub (by omega), l1, ix_nI (by omega), ix_nI (by omega), nI_add]
    have e1 : (m.uB (r + 1) ((m.B (r + 1)).set ((k + 1) * 4 + j) ((m.B (r + 1)).getD ((k + 1) * 4 + j - 4) 0))).B (r + 1) = (m.B (r + 1)).set ((k + 1) * 4 + j) ((m.B (r + 1)).getD ((k + 1) * 4 + j - 4) 0) := by rw [mB_B, if_pos rfl]
    rw [e1, List.length_set, l1, uB_same]
    have o1 : ok 80 (nI ((k + 1) * 4 + j)) := ok_nI (by omega) (by decide)
    have o2 : ok 80 (nI ((k + 1) * 4 + j - 4)) := ok_nI (by omega) (by decide)
    refine ⟨o1, o2, o1, o2, ?_⟩
    have f1 : Fr [r + 1] m (m.uB (r + 1) (((m.B (r + 1)).set ((k + 1) * 4 + j) ((m.B (r + 1)).getD ((k + 1) * 4 + j - 4) 0)).set ((k + 1) * 4 + j - 4) ((m.B (r + 1)).getD ((k + 1) * 4 + j) 0))) := by
      refine Fr.uB (Fr.refl _ m) (List.mem_singleton.mpr rfl) ?_
      rw [List.length_set, List.length_set]
    have gB : ∀ i, ((m.uB (r + 1) (((m.B (r + 1)).set ((k + 1) * 4 + j) ((m.B (r + 1)).getD ((k + 1) * 4 + j - 4) 0)).set ((k + 1) * 4 + j - 4) ((m.B (r + 1)).getD ((k + 1) * 4 + j) 0))).B (r + 1)).getD i 0 = if i = (k + 1) * 4 + j - 4 then (m.B (r + 1)).getD ((k + 1) * 4 + j) 0 else if i = (k + 1) * 4 + j then (m.B (r + 1)).getD ((k + 1) * 4 + j - 4) 0 else (m.B (r + 1)).getD i 0 := by
      intro i
      rw [mB_B, if_pos rfl, getD_set _ _ _ _ _ (by rw [List.length_set]; omega), getD_set _ _ _ _ _ (by omega)]
    refine ih (j + 1) _ (by omega) (hL.fr f1) (fun m' hL' h' f2 => k1 m' hL' (fun i => ?_) (f1.trans f2))
    rw [h' i, gB, gB, gB]
    by_cases c1 : (k + 1) * 4 + (j + 1) ≤ i ∧ i < (k + 1) * 4 + 4
    · rw [if_pos c1, if_neg (by omega), if_neg (by omega), if_pos (by omega)]
    · rw [if_neg c1]
      by_cases c2 : k * 4 + (j + 1) ≤ i ∧ i < k * 4 + 4
      · rw [if_pos c2, if_neg (by omega), if_neg (by omega), if_neg (by omega), if_pos (by omega)]
      · rw [if_neg c2]
        by_cases c3 : i = (k + 1) * 4 + j - 4
        · rw [if_pos c3, if_neg (by omega), if_pos (by omega)]
          congr 1
          omega
        · rw [if_neg c3]
          by_cases c4 : i = (k + 1) * 4 + j
          · rw [if_pos c4, if_pos (by omega), c4]
          · rw [if_neg c4, if_neg (by omega), if_neg (by omega)]
theorem c_38 (hr : tbl r) {k : Nat} (hk : k + 1 < Q.length) (hq : Q.length ≤ 20) (hL : Len m) (hT : TBl (m.B (r + 1)) Q) (kk : ∀ m', TBl (m'.B (r + 1)) (swA Q k) → Fr [r + 1] m m' → K none m') : WP d 38 [.ref r, .int (nI ((k + 1) * 4))] m K := by
  refine sp_38 _ _ hr ?_
  have := lp_38 (d := d) (K := K) hr (k := k) (by omega) 4 0 m rfl hL (fun m' hL' h' f => kk m' (fun i hi c hc => ?_) f)
  · exact this
  · rw [swA_len] at hi
    rw [h', swA_get hk]
    by_cases c1 : i = k + 1
    · subst c1
      rw [if_pos (by omega), if_pos rfl, ← hT k (by omega) c hc]
      congr 1
      omega
    · rw [if_neg (by omega), if_neg c1]
      by_cases c2 : i = k
      · subst c2
        rw [if_pos (by omega), if_pos rfl, ← hT (i + 1) (by omega) c hc]
        congr 1
        omega
      · rw [if_neg (by omega), if_neg c2]
        exact hT i hi c hc
def snk (Q : List (List Int64)) : Nat → List (List Int64)
  | 0 => Q
  | k + 1 => if key (Q.getD k []) ≤ key (Q.getD (k + 1) []) then Q else snk (swA Q k) k
theorem snk_len : ∀ (k : Nat) (Q : List (List Int64)), (snk Q k).length = Q.length
  | 0, Q => rfl
  | k + 1, Q => by
    unfold snk
    split
    · rfl
    · rw [snk_len k, swA_len]
theorem lp_37 (hr : tbl r) : ∀ (k : Nat) (Q : List (List Int64)) (m : Mm), k < Q.length → Q.length ≤ 20 → Len m → TBl (m.B (r + 1)) Q → (∀ m', TBl (m'.B (r + 1)) (snk Q k) → Fr [r + 1] m m' → K none m') → WH (d + 1) 37 2 [(0, .ref r), (2, .int (nI k))] [] m K := by
  intro k
  induction k with
  | zero =>
    intro Q m hk hq hL hT kk
    refine sg_37_2 _ _ hr ?_
    rw [if_pos (by decide)]
    exact kk m hT (Fr.refl _ m)
  | succ k ih =>
    intro Q m hk hq hL hT kk
    have l1 := lenB hr hL
    have e1 : (m.B (r + 1)).getD (k * 4) 0 = (Q.getD k []).getD 0 0 := hT k (by omega) 0 (by decide)
    have e2 : (m.B (r + 1)).getD ((k + 1) * 4) 0 = (Q.getD (k + 1) []).getD 0 0 := hT (k + 1) hk 0 (by decide)
    refine sg_37_2 _ _ hr ?_
    rw [if_neg (by rw [nIle (by omega) (by omega)]; omega), nIsub (by omega), Nat.add_sub_cancel, pk_mul, pk_mul, l1, ix_nI (by omega), ix_nI (by omega), e1, e2]
    refine ⟨ok_nI (by omega) (by decide), ok_nI (by omega) (by decide), ?_⟩
    have ec : (lg_cmp ((Q.getD k []).getD 0 0) ((Q.getD (k + 1) []).getD 0 0) ≤ nI 0) = (key (Q.getD k []) ≤ key (Q.getD (k + 1) [])) := propext (lg_cmp_le _ _)
    rw [show snk Q (k + 1) = if key (Q.getD k []) ≤ key (Q.getD (k + 1) []) then Q else snk (swA Q k) k from rfl] at kk
    by_cases hc : key (Q.getD k []) ≤ key (Q.getD (k + 1) [])
    · rw [if_pos hc] at kk
      rw [if_pos (by rw [ec]; exact hc)]
      exact kk m hT (Fr.refl _ m)
    · rw [if_neg hc] at kk
      rw [if_neg (by rw [ec]; exact hc)]
      refine c_38 hr hk hq hL hT (fun m1 hT1 f1 => ⟨rfl, ?_⟩)
      rw [nI_m1 (by omega), Nat.add_sub_cancel]
      refine ih (swA Q k) m1 (by rw [swA_len]; omega) (by rw [swA_len]; exact hq) (hL.fr f1) hT1 (fun m2 a f2 => kk m2 a (f1.trans f2))
theorem c_37 (hr : tbl r) {k : Nat} (hk : k < Q.length) (hq : Q.length ≤ 20) (hL : Len m) (hT : TBl (m.B (r + 1)) Q) (kk : ∀ m', TBl (m'.B (r + 1)) (snk Q k) → Fr [r + 1] m m' → K none m') : WP (d + 1) 37 [.ref r, .int (nI k)] m K := by
  refine sp_37 _ _ hr ?_
  exact lp_37 hr k Q m hk hq hL hT kk
end T72
/-! insertion by key -/
def insK (x : List Int64) : List (List Int64) → List (List Int64)
  | [] => [x]
  | y :: l => if key y ≤ key x then y :: insK x l else x :: y :: l
theorem insK_perm (x : List Int64) : ∀ (l : List (List Int64)), (insK x l).Perm (x :: l)
  | [] => List.Perm.refl _
  | y :: l => by
    unfold insK
    split
    · exact ((insK_perm x l).cons y).trans (List.Perm.swap x y l)
    · exact List.Perm.refl _
theorem insK_len (x : List Int64) (l : List (List Int64)) : (insK x l).length = l.length + 1 := (insK_perm x l).length_eq
theorem swA_app {A Z : List (List Int64)} {y x : List Int64} : swA (A ++ [y] ++ [x] ++ Z) A.length = A ++ [x] ++ [y] ++ Z := by
  unfold swA
  have e1 : A ++ [y] ++ [x] ++ Z = A ++ (y :: x :: Z) := by simp
  have e2 : (A ++ (y :: x :: Z)).getD (A.length + 1) [] = x := by
    rw [List.getD_eq_getElem?_getD, List.getElem?_append_right (by omega)]; simp
  have e3 : (A ++ (y :: x :: Z)).getD A.length [] = y := by
    rw [List.getD_eq_getElem?_getD, List.getElem?_append_right (by omega)]; simp
  rw [e1, e2, e3, List.set_append_right _ _ (by omega), Nat.sub_self, List.set_append_right _ _ (by omega), show A.length + 1 - A.length = 1 by omega]
  simp
theorem snk_ins (x : List Int64) : ∀ (n : Nat) (A Z : List (List Int64)), A.length = n → A.Pairwise (fun a b => key a < key b) → snk (A ++ [x] ++ Z) n = insK x A ++ Z := by
  intro n
  induction n with
  | zero =>
    intro A Z hA hs
    have : A = [] := List.length_eq_zero_iff.mp hA
    subst this
    rfl
  | succ n ih =>
    intro A Z hA hs
    rcases List.eq_nil_or_concat A with e | ⟨V, y, e⟩
    · subst e; cases hA
    · rw [List.concat_eq_append] at e
      subst e
      have hV : V.length = n := by simpa using hA
      subst hV
      have hs' := List.pairwise_append.mp hs
      have g1 : (V ++ [y] ++ [x] ++ Z).getD V.length [] = y := by
        rw [List.getD_eq_getElem?_getD, show V ++ [y] ++ [x] ++ Z = V ++ (y :: x :: Z) by simp, List.getElem?_append_right (by omega)]; simp
      have g2 : (V ++ [y] ++ [x] ++ Z).getD (V.length + 1) [] = x := by
        rw [List.getD_eq_getElem?_getD, show V ++ [y] ++ [x] ++ Z = V ++ (y :: x :: Z) by simp, List.getElem?_append_right (by omega)]; simp
      show (if key ((V ++ [y] ++ [x] ++ Z).getD V.length []) ≤ key ((V ++ [y] ++ [x] ++ Z).getD (V.length + 1) []) then _ else snk (swA (V ++ [y] ++ [x] ++ Z) V.length) V.length) = _
      rw [g1, g2, swA_app]
      by_cases hc : key y ≤ key x
      · rw [if_pos hc]
        have : ∀ W : List (List Int64), (∀ a, a ∈ W → key a ≤ key x) → insK x W = W ++ [x] := by
          intro W
          induction W with
          | nil => intro _; rfl
          | cons a W ihW =>
            intro h
            unfold insK
            rw [if_pos (h a (List.mem_cons_self ..)), ihW (fun b hb => h b (List.mem_cons_of_mem _ hb))]; rfl
        rw [this (V ++ [y])]
        intro a ha
        rcases List.mem_append.mp ha with z | z
        · have := hs'.2.2 a z y (List.mem_singleton.mpr rfl)
          rw [Int64.le_iff_toInt_le] at hc ⊢
          rw [Int64.lt_iff_toInt_lt] at this
          omega
        · rw [List.mem_singleton.mp z]; exact hc
      · rw [if_neg hc]
        have := ih V ([y] ++ Z) rfl hs'.1
        rw [show V ++ [x] ++ [y] ++ Z = V ++ [x] ++ ([y] ++ Z) by simp, this]
        have : ∀ W : List (List Int64), insK x (W ++ [y]) = insK x W ++ [y] := by
          intro W
          induction W with
          | nil => show (if key y ≤ key x then _ else _) = _; rw [if_neg hc]; rfl
          | cons a W ihW =>
            show (if key a ≤ key x then a :: insK x (W ++ [y]) else x :: a :: (W ++ [y])) = (if key a ≤ key x then a :: insK x W else x :: a :: W) ++ [y]
            split
            · rw [ihW]; rfl
            · rfl
        rw [this]; simp
