/-! WHAT STEPS ARE WORTH, the reference: worked(); its truths: 0 no, NUL unknown, 1 yes -/
def tr (b : Bool) (v : Int64) : Int64 := if b = true then (if v = 2 then 1 else if v = 1 then NUL else 0) else v
def trs : List Bool → List Int64 → List Int64
  | b :: T, v :: st => tr b v :: trs T st
  | _, _ => []
def RE (m : Mm) (rs : List Op) (tb : Nat → Nat) : Prop := rs.length ≤ 80 ∧ ∀ i, i < rs.length → (m.A 46).getD i 0 = nI (rop (rs.getD i (0, 0, 0)).1) ∧ (m.A 47).getD i 0 = nI (if (rs.getD i (0, 0, 0)).1 = 3 then 4 * tb (rs.getD i (0, 0, 0)).2.2 + (rs.getD i (0, 0, 0)).2.1 else (rs.getD i (0, 0, 0)).2.1)
def RV1 (m : Mm) (env : Evr) (tb : Nat → Nat) (x : Op) : Prop := tb x.2.2 < 3 ∧ x.2.1 < 4 ∧ ∃ row, (m.A 60).getD (tb x.2.2) 0 = nI row ∧ row < 20 ∧ (m.B 58).getD (80 * tb x.2.2 + 4 * row + x.2.1) 0 = env x.2.2 x.2.1
def RV (m : Mm) (env : Evr) (tb : Nat → Nat) (l : List Op) : Prop := ∀ x, x ∈ l → x.1 = 3 → RV1 m env tb x
theorem trs_len : ∀ (T : List Bool) (st : List Int64), T.length = st.length → (trs T st).length = st.length
  | [], [], _ => rfl
  | [], _ :: _, h => by cases h
  | _ :: _, [], h => by cases h
  | _ :: T, _ :: st, h => by
    show (trs T st).length + 1 = st.length + 1
    rw [trs_len T st (by simpa using h)]
theorem toInt_nul : NUL.toInt = 1099511627776 := by decide
theorem i32_ne_nul (a : Int32) : a.toInt64 ≠ NUL := by
  intro h
  have h1 := congrArg Int64.toInt h
  rw [Int32.toInt_toInt64, toInt_nul] at h1
  have := Int32.toInt_lt a
  omega
theorem i64_div (a b : Int32) : (a.toInt64 / b.toInt64).toInt32 = a / b := by
  apply Int32.toInt_inj.mp
  rw [Int64.toInt_toInt32, Int64.toInt_div, Int32.toInt_toInt64, Int32.toInt_toInt64, Int32.toInt_div]
  exact Int.bmod_bmod_of_dvd (by decide)
theorem i64_zero (b : Int32) : (b.toInt64 = 0) = (b = 0) := by
  apply propext
  constructor
  · intro h
    apply Int32.toInt_inj.mp
    have h1 := congrArg Int64.toInt h
    rw [Int32.toInt_toInt64] at h1
    exact h1
  · intro h; subst h; rfl
theorem Nm_some {v : Int64} (h : Nm v) (hn : v ≠ NUL) : ∃ x : Int32, v = x.toInt64 := by
  rcases h with z | z
  · exact absurd z hn
  · exact z
section R64
variable {d : Nat} {m m0 m1 : Mm} {K : Option Value → Mm → Prop} {rs l : List Op} {env : Evr} {st : List Int64} {tb : Nat → Nat}
theorem lg_k (x y : Int64) : (lg_cmp x y = nI 0) = (x = y) := lgc_eq x y
theorem n168 {x0 : Int32} {l r : Int64} (h14 : ¬ x0 = nI 14) (h15 : ¬ x0 = nI 15) (k1 : (l = NUL ∨ r = NUL) → K (some (.long NUL)) m) (k2 : ¬ (l = NUL ∨ r = NUL) → (if x0 = (nI 9) then (if l = r then K (some (.long 1)) m else K (some (.long 0)) m) else (if x0 = (nI 10) then (if l < r then K (some (.long 1)) m else K (some (.long 0)) m) else (if x0 = (nI 11) then (if r < l then K (some (.long 1)) m else K (some (.long 0)) m) else (if x0 = (nI 7) then (if r = 0 then K (some (.long NUL)) m else K (some (.long (((l / r).toInt32).toInt64))) m) else (if x0 = (nI 4) then K (some (.long (((l + r).toInt32).toInt64))) m else (if x0 = (nI 5) then K (some (.long (((l - r).toInt32).toInt64))) m else K (some (.long (((l * r).toInt32).toInt64))) m))))))) : WP d 168 [.int x0, .long l, .long r] m K := by
  have e1 : (nI 0 ≤ lg_cmp l r) = (r ≤ l) := propext (lg_cmp_ge l r)
  have e2 : (lg_cmp l r ≤ nI 0) = (l ≤ r) := propext (lg_cmp_le l r)
  refine sp_168 _ _ _ ?_
  rw [if_neg h14, if_neg h15]
  by_cases h1 : l = NUL
  · rw [if_pos ((lg_nul l).mpr h1)]; exact k1 (Or.inl h1)
  rw [if_neg (fun z => h1 ((lg_nul l).mp z))]
  by_cases h2 : r = NUL
  · rw [if_pos ((lg_nul r).mpr h2)]; exact k1 (Or.inr h2)
  rw [if_neg (fun z => h2 ((lg_nul r).mp z))]
  have k2 := k2 (fun z => by rcases z with z | z; exact h1 z; exact h2 z)
  by_cases c9 : x0 = nI 9
  · rw [if_pos c9] at k2 ⊢
    by_cases c : l = r
    · rw [if_pos c] at k2; rw [if_pos ((lg_k l r).mpr c)]; exact k2
    · rw [if_neg c] at k2; rw [if_neg (fun z => c ((lg_k l r).mp z))]; exact k2
  rw [if_neg c9] at k2 ⊢
  by_cases c10 : x0 = nI 10
  · rw [if_pos c10] at k2 ⊢
    by_cases c : l < r
    · rw [if_pos c] at k2; rw [if_neg (by rw [e1, i64_lt]; exact fun z => z c)]; exact k2
    · rw [if_neg c] at k2; rw [if_pos (by rw [e1, i64_lt]; exact c)]; exact k2
  rw [if_neg c10] at k2 ⊢
  by_cases c11 : x0 = nI 11
  · rw [if_pos c11] at k2 ⊢
    by_cases c : r < l
    · rw [if_pos c] at k2; rw [if_neg (by rw [e2, i64_lt]; exact fun z => z c)]; exact k2
    · rw [if_neg c] at k2; rw [if_pos (by rw [e2, i64_lt]; exact c)]; exact k2
  rw [if_neg c11] at k2 ⊢
  by_cases c7 : x0 = nI 7
  · rw [if_pos c7] at k2 ⊢
    by_cases c : r = 0
    · rw [if_pos c] at k2; rw [if_pos ((lg_k r 0).mpr c)]; exact k2
    · rw [if_neg c] at k2; rw [if_neg (fun z => c ((lg_k r 0).mp z))]; exact ⟨c, k2⟩
  rw [if_neg c7] at k2 ⊢
  by_cases c4 : x0 = nI 4
  · rw [if_pos c4] at k2 ⊢; exact k2
  rw [if_neg c4] at k2 ⊢
  by_cases c5 : x0 = nI 5
  · rw [if_pos c5] at k2 ⊢; exact k2
  rw [if_neg c5] at k2 ⊢
  exact k2
/-- two numbers, reckoned -/
theorem c_168a {k : Nat} {l r : Int64} (hk : k = 42 ∨ k = 43 ∨ k = 45 ∨ k = 47) (hl : Nm l) (hr : Nm r) (kk : K (some (.long (ev2 k l r))) m) : WP d 168 [.int (nI (rop k)), .long l, .long r] m K := by
  have e0 : ev2 k l r = if l = NUL ∨ r = NUL then NUL else evA k l.toInt32 r.toInt32 := by
    unfold ev2
    rw [if_neg (by omega), if_neg (by omega), if_neg (by omega)]
  rw [e0] at kk
  have k1 : (l = NUL ∨ r = NUL) → K (some (.long NUL)) m := fun h => by rw [if_pos h] at kk; exact kk
  have k2 : ¬ (l = NUL ∨ r = NUL) → ∃ a b : Int32, l = a.toInt64 ∧ r = b.toInt64 ∧ K (some (.long (evA k a b))) m := by
    intro h
    rw [if_neg h] at kk
    obtain ⟨a, ea⟩ := Nm_some hl (fun z => h (Or.inl z))
    obtain ⟨b, eb⟩ := Nm_some hr (fun z => h (Or.inr z))
    refine ⟨a, b, ea, eb, ?_⟩
    subst ea; subst eb
    rw [Int32.toInt32_toInt64, Int32.toInt32_toInt64] at kk
    exact kk
  rcases hk with rfl | rfl | rfl | rfl
  · refine n168 (x0 := nI 6) (by decide) (by decide) k1 (fun h => ?_)
    obtain ⟨a, b, ea, eb, k3⟩ := k2 h
    subst ea; subst eb
    rw [if_neg (by decide), if_neg (by decide), if_neg (by decide), if_neg (by decide), if_neg (by decide), if_neg (by decide), Int64.toInt32_mul, Int32.toInt32_toInt64, Int32.toInt32_toInt64]
    exact k3
  · refine n168 (x0 := nI 4) (by decide) (by decide) k1 (fun h => ?_)
    obtain ⟨a, b, ea, eb, k3⟩ := k2 h
    subst ea; subst eb
    rw [if_neg (by decide), if_neg (by decide), if_neg (by decide), if_neg (by decide), if_pos rfl, Int64.toInt32_add, Int32.toInt32_toInt64, Int32.toInt32_toInt64]
    exact k3
  · refine n168 (x0 := nI 5) (by decide) (by decide) k1 (fun h => ?_)
    obtain ⟨a, b, ea, eb, k3⟩ := k2 h
    subst ea; subst eb
    rw [if_neg (by decide), if_neg (by decide), if_neg (by decide), if_neg (by decide), if_neg (by decide), if_pos rfl, Int64.toInt32_sub, Int32.toInt32_toInt64, Int32.toInt32_toInt64]
    exact k3
  · refine n168 (x0 := nI 7) (by decide) (by decide) k1 (fun h => ?_)
    obtain ⟨a, b, ea, eb, k3⟩ := k2 h
    subst ea; subst eb
    rw [if_neg (by decide), if_neg (by decide), if_neg (by decide), if_pos rfl]
    unfold evA at k3
    rw [if_neg (by decide), if_neg (by decide), if_neg (by decide)] at k3
    by_cases h0 : b = 0
    · rw [if_pos h0] at k3
      rw [if_pos (by rw [i64_zero]; exact h0)]
      exact k3
    · rw [if_neg h0] at k3
      rw [if_neg (by rw [i64_zero]; exact h0), i64_div]
      exact k3
theorem c_168c {k : Nat} {l r : Int64} (hk : k = 61 ∨ k = 60 ∨ k = 62) (kk : K (some (.long (tr true (ev2 k l r)))) m) : WP d 168 [.int (nI (rop k)), .long l, .long r] m K := by
  have e0 : ev2 k l r = if l = NUL ∨ r = NUL then 1 else evC k l r := by
    unfold ev2
    rw [if_neg (by omega), if_neg (by omega), if_pos hk]
  rw [e0] at kk
  have k1 : (l = NUL ∨ r = NUL) → K (some (.long NUL)) m := fun h => by rw [if_pos h] at kk; exact kk
  rcases hk with rfl | rfl | rfl
  · refine n168 (x0 := nI 9) (by decide) (by decide) k1 (fun h => ?_)
    rw [if_neg h] at kk
    rw [if_pos rfl]
    unfold evC at kk
    rw [if_pos rfl] at kk
    by_cases h3 : l = r
    · rw [if_pos h3] at kk ⊢; exact kk
    · rw [if_neg h3] at kk ⊢; exact kk
  · refine n168 (x0 := nI 10) (by decide) (by decide) k1 (fun h => ?_)
    rw [if_neg h] at kk
    rw [if_neg (by decide), if_pos rfl]
    unfold evC at kk
    rw [if_neg (by decide), if_pos rfl] at kk
    by_cases h3 : l < r
    · rw [if_pos h3] at kk ⊢; exact kk
    · rw [if_neg h3] at kk ⊢; exact kk
  · refine n168 (x0 := nI 11) (by decide) (by decide) k1 (fun h => ?_)
    rw [if_neg h] at kk
    rw [if_neg (by decide), if_neg (by decide), if_pos rfl]
    unfold evC at kk
    rw [if_neg (by decide), if_neg (by decide)] at kk
    by_cases h3 : r < l
    · rw [if_pos h3] at kk ⊢; exact kk
    · rw [if_neg h3] at kk ⊢; exact kk
theorem c_168t {k : Nat} {l r : Int64} (hk : k = 16 ∨ k = 17) (hl : l = 0 ∨ l = 1 ∨ l = 2) (hr : r = 0 ∨ r = 1 ∨ r = 2) (kk : K (some (.long (tr true (ev2 k l r)))) m) : WP d 168 [.int (nI (rop k)), .long (tr true l), .long (tr true r)] m K := by
  rcases hk with rfl | rfl
  · refine sp_168 (nI 15) _ _ ?_
    rw [if_neg (by decide), if_pos rfl]
    rcases hl with rfl | rfl | rfl <;> rcases hr with rfl | rfl | rfl <;> exact kk
  · refine sp_168 (nI 14) _ _ ?_
    rw [if_pos rfl]
    rcases hl with rfl | rfl | rfl <;> rcases hr with rfl | rfl | rfl <;> exact kk
theorem RE.fq {G S : List Nat} (h : RE m rs tb) (k : Fq G S m m1) (h1 : 46 ∉ (42 :: S)) (h2 : 47 ∉ (42 :: S)) : RE m1 rs tb := by
  obtain ⟨a, e⟩ := h
  refine ⟨a, ?_⟩
  rw [k.a h1, k.a h2]; exact e
theorem RV1.fq {G S : List Nat} {x : Op} (h : RV1 m env tb x) (k : Fq G S m m1) (h1 : 60 ∉ (42 :: S)) (h2 : 58 ∉ (42 :: S)) : RV1 m1 env tb x := by
  obtain ⟨a, b, row, e1, e2, e3⟩ := h
  refine ⟨a, b, row, ?_, e2, ?_⟩
  · rw [k.a h1]; exact e1
  · rw [k.1.b h2]; exact e3
theorem q4 {a c : Nat} (ha : a < 3) (hc : c < 4) : nI (4 * a + c) / nI 4 = nI a ∧ nI (4 * a + c) - nI a * nI 4 = nI c := by
  rcases (by omega : a = 0 ∨ a = 1 ∨ a = 2) with rfl | rfl | rfl <;> rcases (by omega : c = 0 ∨ c = 1 ∨ c = 2 ∨ c = 3) with rfl | rfl | rfl | rfl <;> decide
/-- one operand, the reference -/
def uf (o : Nat) (t : Int64) : Int64 := if o = 12 then (if t = NUL then 1 else 0) else if t = NUL then NUL else if o = 13 then 1 - t else ((0 - t).toInt32).toInt64
theorem c_132 {o j : Nat} {x2 x4 : Int32} {t : Int64} (ho : o = 8 ∨ o = 12 ∨ o = 13) (l2 : (m.B 61).length = 110) (hj : j < 110) (ht : (m.B 61).getD j 0 = t) (k : WH d 167 242 [(0, .ref 42), (2, .int x2), (3, .int (nI (j + 1))), (4, .int x4)] [] (m.uB 61 ((m.B 61).set j (uf o t))) K) : WH d 167 132 [(0, .ref 42), (2, .int x2), (3, .int (nI (j + 1))), (4, .int x4), (5, .int (nI o))] [] m K := by
  have ho2 : ok 110 (nI j) := ok_nI (by omega) (by decide)
  refine sg_167_132 _ _ _ _ ?_
  rw [nIsub (by omega), Nat.add_sub_cancel, l2, ix_nI (by omega), ht]
  refine ⟨ho2, ?_⟩
  unfold uf at k
  by_cases h12 : o = 12
  · rw [if_pos h12] at k
    rw [if_pos (by rw [h12])]
    by_cases hn : t = NUL
    · rw [if_pos hn] at k; rw [if_pos ((lg_nul t).mpr hn)]; exact ⟨ho2, k⟩
    · rw [if_neg hn] at k; rw [if_neg (fun z => hn ((lg_nul t).mp z))]; exact ⟨ho2, k⟩
  · rw [if_neg h12] at k
    rw [if_neg (by rw [nIeq (by omega) (by omega)]; exact h12)]
    by_cases hn : t = NUL
    · rw [if_pos hn] at k; rw [if_pos ((lg_nul t).mpr hn)]; exact ⟨ho2, k⟩
    · rw [if_neg hn] at k; rw [if_neg (fun z => hn ((lg_nul t).mp z))]
      by_cases h13 : o = 13
      · rw [if_pos h13] at k; rw [if_pos (by rw [h13])]; exact ⟨ho2, k⟩
      · rw [if_neg h13] at k; rw [if_neg (by rw [nIeq (by omega) (by omega)]; exact h13)]; exact ⟨ho2, k⟩
theorem uf30 {v : Int64} (h : Nm v) : uf 8 (tr false v) = tr false (ev1 30 v) := by
  show (if v = NUL then NUL else ((0 - v).toInt32).toInt64) = (if v = NUL then NUL else (-v.toInt32).toInt64)
  by_cases hn : v = NUL
  · rw [if_pos hn, if_pos hn]
  · rw [if_neg hn, if_neg hn, Int64.toInt32_sub]
    show (0 - v.toInt32).toInt64 = _
    rw [Int32.zero_sub]
theorem uf31 {v : Int64} : uf 12 (tr false v) = tr true (ev1 31 v) := by
  show (if v = NUL then 1 else 0) = tr true (if v = NUL then 2 else 0)
  by_cases hn : v = NUL
  · rw [if_pos hn, if_pos hn]; rfl
  · rw [if_neg hn, if_neg hn]; rfl
theorem uf18 {v : Int64} (h : v = 0 ∨ v = 1 ∨ v = 2) : uf 13 (tr true v) = tr true (ev1 18 v) := by
  rcases h with rfl | rfl | rfl <;> decide
theorem lp_167 : ∀ (l : List Op) (i : Nat) (st : List Int64) (m : Mm) (T T' : List Bool), rs.drop i = l ++ rs.drop (i + l.length) → i + l.length ≤ rs.length → Len m → RE m rs tb → RV m env tb l → EnvOk env l → SBk 61 m (trs T st) → st.length ≤ i → tys l T = some T' → VTs T st → (∀ m', SBk 61 m' (trs T' (evs env l st)) → VTs T' (evs env l st) → Fq [] [61] m m' → (m'.B 61).length = 110 → K (some (.long ((m'.B 61).getD 0 0))) m') → WH (d + 1) 167 5 [(0, .ref 42), (2, .int (nI (i + l.length))), (3, .int (nI st.length)), (4, .int (nI i))] [] m K := by
  intro l
  induction l with
  | nil =>
    intro i st m T T' hd hl hL hC hP hE hS hi ht hT k
    have hn := hC.1
    have l1 : (m.B 61).length = 110 := hL.b (by decide) rfl
    rw [List.length_nil, Nat.add_zero] at hl ⊢
    refine sg_167_5 _ _ _ ?_
    rw [if_pos (by rw [nIle (by omega) (by omega)]; exact Nat.le_refl _), l1, ix_nI (by decide)]
    cases ht
    exact ⟨ok_nI (by decide) (by decide), k m hS hT (Fq.refl _ _ m) l1⟩
  | cons x l ih =>
    intro i st m T T' hd hl hL hC hP hE hS hi ht hT k
    have hn := hC.1
    rw [List.length_cons] at hl
    have hx : rs.getD i (0, 0, 0) = x := by
      rw [List.getD_eq_getElem?_getD]
      have h1 : (rs.drop i)[0]? = some x := by rw [hd]; rfl
      rw [List.getElem?_drop, Nat.add_zero] at h1
      rw [h1]; rfl
    have hd2 : rs.drop (i + 1) = l ++ rs.drop (i + 1 + l.length) := by
      rw [← List.drop_drop, hd]
      show l ++ _ = _
      rw [List.length_cons]
      congr 2
      omega
    have e0 : i + (x :: l).length = i + 1 + l.length := by rw [List.length_cons]; omega
    rw [e0]
    obtain ⟨e1, e2⟩ := hC.2 i (by omega)
    rw [hx] at e1 e2
    have l1 : (m.A 46).length = 110 := hL.a (by decide) rfl
    have l3 : (m.A 47).length = 110 := hL.a (by decide) rfl
    have l2 : (m.B 61).length = 110 := hL.b (by decide) rfl
    have l4 : (m.A 60).length = 3 := hL.a (by decide) rfl
    have l5 : (m.B 58).length = 240 := hL.b (by decide) rfl
    have ht : (match ty1 x.1 T with | some T' => tys l T' | none => none) = some T' := ht
    cases hty : ty1 x.1 T with
    | none => rw [hty] at ht; cases ht
    | some T1 =>
      rw [hty] at ht
      have hT1 := stp_ty (env := env) (hE x (List.mem_cons_self ..)) hty hT
      have nx : ∀ m1 (st1 : List Int64), stp env x st = st1 → SBk 61 m1 (trs T1 st1) → st1.length ≤ i + 1 → Fq [] [61] m m1 → WH (d + 1) 167 242 [(0, .ref 42), (2, .int (nI (i + 1 + l.length))), (3, .int (nI st1.length)), (4, .int (nI i))] [] m1 K := by
        intro m1 st1 hst hS1 hi1 f1
        subst hst
        refine sg_167_242 _ _ _ ?_
        rw [nI_add]
        refine ih (i + 1) _ m1 T1 T' hd2 (by omega) (hL.fq f1) (hC.fq f1 (by decide) (by decide)) (fun y hy h3 => (hP y (List.mem_cons_of_mem _ hy) h3).fq f1 (by decide) (by decide)) (fun y hy h3 => hE y (List.mem_cons_of_mem _ hy) h3) hS1 hi1 ht hT1 (fun m' a1 a2 f2 l0 => ?_)
        exact k m' a1 a2 (f1.trans f2) l0
      have hlT := VTs.len _ _ hT
      have hlt := trs_len T st hlT
      have fB : ∀ j v, Fq [] [61] m (m.uB 61 ((m.B 61).set j v)) := fun j v => Fq.uB (Fq.refl _ _ _) (by decide) (by rw [List.length_set])
      have ho : ok 110 (nI i) := ok_nI (by omega) (by decide)
      refine sg_167_5 _ _ _ ?_
      have g1 : ¬ nI (i + 1 + l.length) ≤ nI i := by rw [nIle (by omega) (by omega)]; omega
      rw [if_neg g1, l1, ix_nI (by omega), e1]
      refine ⟨ho, ?_⟩
      have fin0 : ∀ v, evL env x = v → ar x.1 = 0 → T1 = false :: T → WH (d + 1) 167 242 [(0, .ref 42), (2, .int (nI (i + 1 + l.length))), (3, .int (nI (st.length + 1))), (4, .int (nI i))] [] (m.uB 61 ((m.B 61).set st.length v)) K := by
        intro v hv ha hT1'
        subst hv; subst hT1'
        have hst : stp env x st = evL env x :: st := by unfold stp; rw [if_pos ha]
        have hpush := hS.push (v := evL env x) (by rw [hlt]; omega)
        rw [hlt] at hpush
        have := nx _ _ hst hpush (by rw [List.length_cons]; omega) (fB _ _)
        rw [List.length_cons] at this
        exact this
      -- by kind
      unfold ty1 at hty
      split at hty
      · next hk =>
        cases hty
        have ha : ar x.1 = 0 := by unfold ar; rw [if_pos hk]
        have c3 : ¬ nI 3 < nI (rop x.1) := by
          rcases hk with z | z | z <;> rw [z] <;> decide
        rw [if_neg c3]
        have hos : ok 110 (nI st.length) := ok_nI (by omega) (by decide)
        rcases hk with z | z | z
        · rw [z]
          rw [if_pos (show nI (rop 2) = nI 1 from rfl), l3, l2, e2, ix_nI (by omega), nI_add]
          refine ⟨ho, hos, fin0 _ ?_ ha rfl⟩
          unfold evL
          rw [if_neg (by omega), if_pos z, if_neg (by omega)]
        · have hv := hP x (List.mem_cons_self ..) z
          obtain ⟨v1, v2, row, v3, v4, v5⟩ := hv
          rw [z]
          have c1 : ¬ nI (rop 3) = nI 1 := by decide
          have c2 : ¬ nI (rop 3) = nI 2 := by decide
          rw [if_pos z] at e2
          have hq := q4 v1 v2
          rw [if_neg c1, if_neg c2, l3, l2, l4, l5, e2, hq.1, hq.2, ix_nI (by omega), v3, pk_mul, pk_mul, nI_add, nI_add, ix_nI (by omega), ix_nI (by omega), v5, nI_add]
          refine ⟨ho, ho, ok_nI (by omega) (by decide), ho, ok_nI (by omega) (by decide), hos, fin0 _ ?_ ha rfl⟩
          unfold evL
          rw [if_pos z]
        · rw [z]
          have c1 : ¬ nI (rop 15) = nI 1 := by decide
          rw [if_neg c1, if_pos (show nI (rop 15) = nI 2 from rfl), l2, ix_nI (by omega), nI_add]
          refine ⟨hos, fin0 _ ?_ ha rfl⟩
          unfold evL
          rw [if_neg (by omega), if_neg (by omega)]
          rfl
      · next hk0 =>
        -- one operand
        have one : ∀ (a b : Bool) R v s (o : Nat), T = a :: R → T1 = b :: R → st = v :: s → ar x.1 = 1 → (o = 8 ∨ o = 12 ∨ o = 13) → uf o (tr a v) = tr b (ev1 x.1 v) → WH (d + 1) 167 132 [(0, .ref 42), (2, .int (nI (i + 1 + l.length))), (3, .int (nI st.length)), (4, .int (nI i)), (5, .int (nI o))] [] m K := by
          intro a b R v s o h1 h2 h3 ha ho3 hw
          subst h1; subst h2; subst h3
          have hst : stp env x (v :: s) = ev1 x.1 v :: s := by unfold stp; rw [if_neg (by rw [ha]; decide), if_pos ha]
          rw [List.length_cons] at hi
          have hS0 : SBk 61 m (tr a v :: trs R s) := hS
          have hS' : SBk 61 m (trs R s) := hS0.tail
          have hl' : (trs R s).length = s.length := trs_len _ _ (by simpa using hlT)
          have htop := hS0.top
          rw [hl'] at htop
          have hpush := hS'.push (v := uf o (tr a v)) (by rw [hl']; omega)
          rw [hl'] at hpush
          rw [List.length_cons]
          refine c_132 ho3 l2 (by omega) htop ?_
          have := nx _ _ hst (by rw [hw] at hpush; exact hpush) (by rw [List.length_cons]; omega) (fB s.length (tr b (ev1 x.1 v)))
          rw [List.length_cons] at this
          rw [hw]
          exact this
        have goU : ∀ (o : Nat), rop x.1 = o → (o = 8 ∨ o = 12 ∨ o = 13) → WH (d + 1) 167 132 [(0, .ref 42), (2, .int (nI (i + 1 + l.length))), (3, .int (nI st.length)), (4, .int (nI i)), (5, .int (nI o))] [] m K → ∀ X Y : Prop, (if (nI 3) < nI (rop x.1) then (if nI (rop x.1) = (nI 8) then WH (d + 1) 167 132 [(0, .ref 42), (2, .int (nI (i + 1 + l.length))), (3, .int (nI st.length)), (4, .int (nI i)), (5, .int (nI (rop x.1)))] [] m K else (if nI (rop x.1) = (nI 12) then WH (d + 1) 167 132 [(0, .ref 42), (2, .int (nI (i + 1 + l.length))), (3, .int (nI st.length)), (4, .int (nI i)), (5, .int (nI (rop x.1)))] [] m K else (if nI (rop x.1) = (nI 13) then WH (d + 1) 167 132 [(0, .ref 42), (2, .int (nI (i + 1 + l.length))), (3, .int (nI st.length)), (4, .int (nI i)), (5, .int (nI (rop x.1)))] [] m K else X))) else Y) := by
          intro o hro ho3 hK X Y
          rw [hro]
          rcases ho3 with z | z | z
          · subst z; rw [if_pos (by decide), if_pos rfl]; exact hK
          · subst z; rw [if_pos (by decide), if_neg (by decide), if_pos rfl]; exact hK
          · subst z; rw [if_pos (by decide), if_neg (by decide), if_neg (by decide), if_pos rfl]; exact hK
        -- two operands
        have two : ∀ (a b : Bool) R v u s, T = a :: a :: R → T1 = b :: R → st = v :: u :: s → ar x.1 = 2 → (∀ K', K' (some (Value.long (tr b (ev2 x.1 u v)))) m → WP d 168 [.int (nI (rop x.1)), .long (tr a u), .long (tr a v)] m K') → (nI 3 < nI (rop x.1) ∧ ¬ nI (rop x.1) = nI 8 ∧ ¬ nI (rop x.1) = nI 12 ∧ ¬ nI (rop x.1) = nI 13) → ∀ Y A B C : Prop, (if (nI 3) < nI (rop x.1) then (if nI (rop x.1) = (nI 8) then A else (if nI (rop x.1) = (nI 12) then B else (if nI (rop x.1) = (nI 13) then C else ok 110 ((nI st.length + (-1)) - (nI 1)) ∧ ok 110 (nI st.length + (-1)) ∧ WP d 168 [.int (nI (rop x.1)), .long ((m.B 61).getD (ix ((nI st.length + (-1)) - (nI 1))) 0), .long ((m.B 61).getD (ix (nI st.length + (-1))) 0)] m (fun v m24 => ∃ w25, v = some (.long w25) ∧ ok (m24.B 61).length ((nI st.length + (-1)) - (nI 1)) ∧ WH (d + 1) 167 242 [(0, .ref 42), (2, .int (nI (i + 1 + l.length))), (3, .int (nI st.length + (-1))), (4, .int (nI i))] [] (m24.uB 61 ((m24.B 61).set (ix ((nI st.length + (-1)) - (nI 1))) w25)) K)))) else Y) := by
          intro a b R v u s h1 h2 h3 ha hw hro Y A B C
          subst h1; subst h2; subst h3
          have hst : stp env x (v :: u :: s) = ev2 x.1 u v :: s := by unfold stp; rw [if_neg (by rw [ha]; decide), if_neg (by rw [ha]; decide)]
          rw [List.length_cons, List.length_cons] at hi
          have hS0 : SBk 61 m (tr a v :: tr a u :: trs R s) := hS
          have hS' : SBk 61 m (trs R s) := hS0.tail.tail
          have hl' : (trs R s).length = s.length := trs_len _ _ (by simpa using hlT)
          have t1 := hS0.top
          have t2 := hS0.tail.top
          rw [List.length_cons, hl'] at t1
          rw [hl'] at t2
          rw [if_pos hro.1, if_neg hro.2.1, if_neg hro.2.2.1, if_neg hro.2.2.2, List.length_cons, List.length_cons, nI_m1 (by omega), Nat.add_sub_cancel, nIsub (by omega), Nat.add_sub_cancel, ix_nI (by omega), ix_nI (by omega), t1, t2]
          have ho2 : ok 110 (nI s.length) := ok_nI (by omega) (by decide)
          have ho3 : ok 110 (nI (s.length + 1)) := ok_nI (by omega) (by decide)
          refine ⟨ho2, ho3, hw _ ⟨_, rfl, by rw [l2]; exact ho2, ?_⟩⟩
          have hpush := hS'.push (v := tr b (ev2 x.1 u v)) (by rw [hl']; omega)
          rw [hl'] at hpush
          have := nx _ _ hst hpush (by rw [List.length_cons]; omega) (fB s.length (tr b (ev2 x.1 u v)))
          rw [List.length_cons] at this
          exact this
        rw [l2]
        split at hty
        · next hk =>
          have ha : ar x.1 = 1 := by rw [hk]; rfl
          split at hty
          · next R =>
            cases hty
            cases st with
            | nil => exact hT.elim
            | cons v s => exact goU 8 (by rw [hk]; rfl) (Or.inl rfl) (one false false R v s 8 rfl rfl rfl ha (Or.inl rfl) (by rw [hk]; exact uf30 hT.1)) _ _
          · cases hty
        · split at hty
          · next hk =>
            have ha : ar x.1 = 1 := by rw [hk]; rfl
            split at hty
            · next R =>
              cases hty
              cases st with
              | nil => exact hT.elim
              | cons v s => exact goU 12 (by rw [hk]; rfl) (Or.inr (Or.inl rfl)) (one false true R v s 12 rfl rfl rfl ha (Or.inr (Or.inl rfl)) (by rw [hk]; exact uf31)) _ _
            · cases hty
          · split at hty
            · next hk =>
              have ha : ar x.1 = 1 := by rw [hk]; rfl
              split at hty
              · next R =>
                cases hty
                cases st with
                | nil => exact hT.elim
                | cons v s => exact goU 13 (by rw [hk]; rfl) (Or.inr (Or.inr rfl)) (one true true R v s 13 rfl rfl rfl ha (Or.inr (Or.inr rfl)) (by rw [hk]; exact uf18 hT.1)) _ _
              · cases hty
            · split at hty
              · next hk =>
                have ha : ar x.1 = 2 := by rcases hk with z | z | z | z <;> rw [z] <;> rfl
                have hro : nI 3 < nI (rop x.1) ∧ ¬ nI (rop x.1) = nI 8 ∧ ¬ nI (rop x.1) = nI 12 ∧ ¬ nI (rop x.1) = nI 13 := by rcases hk with z | z | z | z <;> rw [z] <;> decide
                split at hty
                · next R =>
                  cases hty
                  cases st with
                  | nil => exact hT.elim
                  | cons v s =>
                    cases s with
                    | nil => exact hT.2.elim
                    | cons u s => exact two false false R v u s rfl rfl rfl ha (fun K' h => c_168a hk hT.2.1 hT.1 h) hro _ _ _ _
                · cases hty
              · split at hty
                · next hk =>
                  have ha : ar x.1 = 2 := by rcases hk with z | z | z <;> rw [z] <;> rfl
                  have hro : nI 3 < nI (rop x.1) ∧ ¬ nI (rop x.1) = nI 8 ∧ ¬ nI (rop x.1) = nI 12 ∧ ¬ nI (rop x.1) = nI 13 := by rcases hk with z | z | z <;> rw [z] <;> decide
                  split at hty
                  · next R =>
                    cases hty
                    cases st with
                    | nil => exact hT.elim
                    | cons v s =>
                      cases s with
                      | nil => exact hT.2.elim
                      | cons u s => exact two false true R v u s rfl rfl rfl ha (fun K' h => c_168c hk h) hro _ _ _ _
                  · cases hty
                · split at hty
                  · next hk =>
                    have ha : ar x.1 = 2 := by rcases hk with z | z <;> rw [z] <;> rfl
                    have hro : nI 3 < nI (rop x.1) ∧ ¬ nI (rop x.1) = nI 8 ∧ ¬ nI (rop x.1) = nI 12 ∧ ¬ nI (rop x.1) = nI 13 := by rcases hk with z | z <;> rw [z] <;> decide
                    split at hty
                    · next R =>
                      cases hty
                      cases st with
                      | nil => exact hT.elim
                      | cons v s =>
                        cases s with
                        | nil => exact hT.2.elim
                        | cons u s => exact two true true R v u s rfl rfl rfl ha (fun K' h => c_168t hk hT.2.1 hT.1 h) hro _ _ _ _
                    · cases hty
                  · cases hty
theorem c_167 {b : Bool} {i j : Nat} {c : List Op} (hL : Len m) (hC : RE m rs tb) (hc : (rs.drop i).take (j - i) = c) (hij : i ≤ j) (hj : j ≤ rs.length) (hP : RV m env tb c) (hE : EnvOk env c) (ht : tyC b c) (k : ∀ m', Fq [] [61] m m' → K (some (.long (tr b (val env c)))) m') : WP (d + 1) 167 [.ref 42, .int (nI i), .int (nI j)] m K := by
  have hlen : c.length = j - i := by rw [← hc, List.length_take, List.length_drop]; omega
  have hd : rs.drop i = c ++ rs.drop (i + c.length) := by
    have := List.take_append_drop (j - i) (rs.drop i)
    rw [hc, List.drop_drop] at this
    rw [hlen]
    exact this.symm
  refine sp_167 _ _ ?_
  have := lp_167 (d := d) (K := K) (rs := rs) (env := env) (tb := tb) c i [] m [] [b] hd (by omega) hL hC hP hE (fun i hi => by cases hi) (Nat.zero_le _) (ht []) trivial (fun m' a1 a2 f l0 => ?_)
  · rw [show i + c.length = j by omega] at this
    exact this
  · have hv := val_ty hE ht
    rw [hv.2] at a1
    have a1 : SBk 61 m' [tr b (val env c)] := a1
    have t1 := a1.top
    rw [List.length_nil] at t1
    rw [t1]
    exact k m' f
end R64
