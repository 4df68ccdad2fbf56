/-! FETCHING one table: the reference's fetchOne(), the class's fetch() -/
def ftR (rs : List Op) (env : Evr) (a : Acs) (r : List Int64) : Bool := decide (a.1 = 1) || (decide (val env (seg rs a.2.2.1 a.2.2.2) ≠ NUL) && decide (r.getD a.2.1 0 = val env (seg rs a.2.2.1 a.2.2.2)))
theorem ftB_R (rs : List Op) (env : Evr) (a : Acs) (R : List (List Int64)) (i : Nat) : ftB rs env a R i = ftR rs env a (R.getD i []) := rfl
theorem cntP_snoc {R : List (List Int64)} {q : List Int64 → Bool} {i : Nat} (h : i < R.length) : (R.take (i + 1)).countP q = if q (R.getD i []) = true then (R.take i).countP q + 1 else (R.take i).countP q := by
  rw [take_succ_getD h, List.countP_append, List.countP_singleton]
  by_cases hq : q (R.getD i []) = true
  · rw [if_pos hq, if_pos hq]
  · rw [if_neg hq, if_neg hq]; rfl
/-- nothing is known before: no column at all -/
theorem mOK0 {l : List Op} (h2 : sd2 l) (h : mOK l 0 = true) : ∀ x, x ∈ l → x.1 ≠ 3 := by
  intro x hx h3
  have hm := of_decide_eq_true h
  have hs := (h2 x hx h3).1
  have has : ∀ s, x.2.2 = s → hasS l s = true := by
    intro s hs
    unfold hasS
    rw [List.any_eq_true]
    exact ⟨x, hx, decide_eq_true ⟨h3, hs⟩⟩
  rcases (by omega : x.2.2 = 0 ∨ x.2.2 = 1) with z | z
  · exact absurd (hm.1 (has 0 z)) (by decide)
  · exact absurd (hm.2 (has 1 z)) (by decide)
section F81
variable {d : Nat} {m m0 m1 : Mm} {K : Option Value → Mm → Prop} {rs : List Op} {D : Db} {s bef : Nat} {ps : List Pt} {f : Nat → Nat} {P : Nat → List (List Int64)} {env : Evr}
theorem lp_177 (hI : DI D) (hPt : ∀ p, p ∈ ps → okPt rs p) (hs3 : f 0 < 3) (hcw : ∀ x, x ∈ rs → x.1 = 3 → x.2.2 = 0 → x.2.1 < wd D (f 0)) : ∀ (n i : Nat) (m : Mm), i + n = (rw_ D (f 0)).length → RQ m rs f D P ps → m.F 42 57 = nI (kdR D (f 0) rs 0 0 ps) → m.F 42 56 = nI (((P (f 0)).take i).countP (ftR rs env0 (acsS (fun c => ixd D (f 0) c) rs 0 0 ps))) → (∀ m', m'.F 42 56 = nI ((P (f 0)).countP (ftR rs env0 (acsS (fun c => ixd D (f 0) c) rs 0 0 ps))) → Fq [56] [61] m m' → K none m') → WH (d + 3) 177 22 [(0, .ref 42), (1, .int (nI (f 0))), (2, .int (oIx (usR D (f 0) rs 0 0 ps))), (3, .int (nI i))] [] m K := by
  intro n
  induction n with
  | zero =>
    intro i m hi hQ h57 h56 k
    have l7 : (m.A 57).length = 3 := hQ.1.a (by decide) rfl
    have hD := hQ.2.2.2.2.2.1
    have hpl := (hD (f 0) hs3).2.2.1.length_eq
    have h20 := (hI (f 0) hs3).2.1
    refine sg_177_22 _ _ _ ?_
    rw [l7, ix_nI (by omega), (hD (f 0) hs3).2.1, if_pos (by rw [nIle (by omega) (by omega)]; omega)]
    refine ⟨ok_nI (by omega) (by decide), k m ?_ (Fq.refl _ _ _)⟩
    rw [h56, show i = (P (f 0)).length by omega, List.take_length]
  | succ n ih =>
    intro i m hi hQ h57 h56 k
    have l7 : (m.A 57).length = 3 := hQ.1.a (by decide) rfl
    have hD := hQ.2.2.2.2.2.1
    have hpl := (hD (f 0) hs3).2.2.1.length_eq
    have h20 := (hI (f 0) hs3).2.1
    have h2 := hQ.2.2.1
    have ec := cntP_snoc (R := P (f 0)) (q := ftR rs env0 (acsS (fun c => ixd D (f 0) c) rs 0 0 ps)) (i := i) (by omega)
    refine sg_177_22 _ _ _ ?_
    rw [l7, ix_nI (by omega), (hD (f 0) hs3).2.1, if_neg (by rw [nIle (by omega) (by omega)]; omega), h57, nI_add]
    refine ⟨ok_nI (by omega) (by decide), ?_⟩
    refine c_176 (env := env0) (s := 0) (bef := 0) hQ hI hPt (Or.inl ⟨rfl, Or.inl rfl⟩) (fun z => by omega) hs3 hcw (by omega) (fun l hl hm => ?_) (fun m1 f1 => ⟨_, rfl, ?_⟩)
    · have nc := mOK0 (fun x hx h3 => h2 x (hl x hx) h3) hm
      exact ⟨fun x hx h3 => absurd h3 (nc x hx), fun x hx h3 => absurd h3 (nc x hx)⟩
    · have g56 : m1.F 42 56 = nI (((P (f 0)).take i).countP (ftR rs env0 (acsS (fun c => ixd D (f 0) c) rs 0 0 ps))) := by rw [f1.f (by decide)]; exact h56
      have g57 : m1.F 42 57 = nI (kdR D (f 0) rs 0 0 ps) := by rw [f1.f (by decide)]; exact h57
      rw [ftB_R]
      cases hq : ftR rs env0 (acsS (fun c => ixd D (f 0) c) rs 0 0 ps) ((P (f 0)).getD i []) with
      | true =>
        rw [hq, if_pos rfl] at ec
        rw [bI_t rfl, if_neg (by decide), g56, nI_add, ← ec]
        have f2 : Fq [56] [61] m1 (m1.uF 42 56 (nI (((P (f 0)).take (i + 1)).countP (ftR rs env0 (acsS (fun c => ixd D (f 0) c) rs 0 0 ps))))) := Fq.uF (Fq.refl _ _ _) (by decide) _
        have f3 : Fq [56] [61] m _ := (f1.mono (by decide) (by decide)).trans f2
        exact ih (i + 1) _ (by omega) (hQ.fq f3 (by decide) (by decide)) (by rw [f2.f (by decide)]; exact g57) rfl (fun m' a1 f4 => k m' a1 (f3.trans f4))
      | false =>
        rw [hq, if_neg (by decide)] at ec
        rw [bI_f (by decide), if_pos rfl, uF_id]
        have f3 : Fq [56] [61] m m1 := f1.mono (by decide) (by decide)
        exact ih (i + 1) _ (by omega) (hQ.fq f3 (by decide) (by decide)) g57 (by rw [ec]; exact g56) (fun m' a1 f4 => k m' a1 (f3.trans f4))
theorem c_177 (hQ : RQ m rs f D P ps) (hI : DI D) (hPt : ∀ p, p ∈ ps → okPt rs p) (hs3 : f 0 < 3) (hcw : ∀ x, x ∈ rs → x.1 = 3 → x.2.2 = 0 → x.2.1 < wd D (f 0)) (k : ∀ m', m'.F 42 56 = nI ((rw_ D (f 0)).countP (ftR rs env0 (acsS (fun c => ixd D (f 0) c) rs 0 0 ps))) → m'.F 42 57 = nI (acsS (fun c => ixd D (f 0) c) rs 0 0 ps).1 → Fq [56, 57, 58] [61] m m' → K none m') : WP (d + 4) 177 [.ref 42, .int (nI (f 0))] m K := by
  have hD := hQ.2.2.2.2.2.1
  have hperm := (hD (f 0) hs3).2.2.1
  rw [← hperm.countP_eq] at k
  rw [(acs_us (D := D) (t := f 0) (rs := rs) (s := 0) (bef := 0) (ps := ps)).1] at k
  refine sp_177 _ ?_
  refine c_174 (s := 0) (bef := 0) hQ (Or.inl ⟨rfl, Or.inl rfl⟩) (fun z => by omega) (fun m1 f1 h58 => ⟨_, rfl, ?_⟩)
  have f2 : Fq [56, 57, 58] [61] m ((m1.uF 42 57 (nI (kdR D (f 0) rs 0 0 ps))).uF 42 56 (nI 0)) := Fq.uF (Fq.uF (f1.mono (by decide) (by decide)) (by decide) _) (by decide) _
  rw [h58]
  refine lp_177 hI hPt hs3 hcw (rw_ D (f 0)).length 0 _ (by omega) (hQ.fq f2 (by decide) (by decide)) rfl rfl (fun m' a1 f3 => k m' a1 ?_ (f2.trans (f3.mono (by decide) (by decide))))
  rw [f3.f (by decide)]; rfl
/-! the class -/
/-- where the class stands: side s has table f s -/
def CQ (m : Mm) (rs : List Op) (f : Nat → Nat) (D : Db) (ps : List Pt) : Prop := Len m ∧ CE m rs ∧ sd2 rs ∧ DC m D ∧ PA m ps ∧ okPs rs ps ∧ ps.length ≤ 80 ∧ f 0 < 3 ∧ f 1 < 3 ∧ m.R 23 1 = 3 + 3 * f 0 ∧ m.R 23 2 = 3 + 3 * f 1
theorem CQ.fr {S : List Nat} (h : CQ m rs f D ps) (k : Fr S m m1) (hs : dj S [3, 4, 5, 6, 7, 8, 9, 10, 11, 12, 14, 15, 16, 17, 18, 19, 21, 23] = true) : CQ m1 rs f D ps := by
  have N : ∀ c, c ∈ [3, 4, 5, 6, 7, 8, 9, 10, 11, 12, 14, 15, 16, 17, 18, 19, 21, 23] → c ∉ S := fun c hc => dj_no hs hc
  obtain ⟨a1, a2, a3, a4, a5, a6, a7, a8, a9, a10, a11⟩ := h
  exact ⟨a1.fr k, a2.fr k (N 17 (by decide)) (N 18 (by decide)) (N 19 (by decide)) (N 21 (by decide)), a3, a4.fr k (dj_sub hs (by decide)), a5.fr k (N 12 (by decide)) (N 14 (by decide)) (N 15 (by decide)) (N 16 (by decide)), a6, a7, a8, a9, by rw [k.r (N 23 (by decide))]; exact a10, by rw [k.r (N 23 (by decide))]; exact a11⟩
theorem c_41 {s : Nat} (hQ : CQ m rs f D ps) (hs : s < 2) (k : K (some (.ref (3 + 3 * f s))) m) : WP d 41 [.ref 23, .int (nI s)] m K := by
  obtain ⟨a1, a2, a3, a4, a5, a6, a7, a8, a9, a10, a11⟩ := hQ
  refine sp_41 _ ?_
  rcases (by omega : s = 0 ∨ s = 1) with rfl | rfl
  · rw [if_pos rfl, a10]; exact ⟨tbl_t a8, k⟩
  · rw [if_neg (by decide), a11]; exact ⟨tbl_t a9, k⟩
/-- the rows that a plan fetches, in order -/
def ftL (R : List (List Int64)) (q : List Int64 → Bool) : List Nat := (List.range R.length).filter (fun i => q (R.getD i []))
theorem lp_124 {a q s : Nat} (ha : acc a) (hq : rws q) (hs : s < 2) {x4 : Nat} {y5 : Int64} {qq : List Int64 → Bool} {col : Nat} (hI : DI D) (hf : f s < 3) (hqq : (x4 = 1 ∧ ∀ r, qq r = true) ∨ (x4 = 0 ∧ col < wd D (f s) ∧ ∀ r, qq r = (decide (y5 ≠ NUL) && decide (r.getD col 0 = y5)))) : ∀ (n i : Nat) (m : Mm), i + n = (rw_ D (f s)).length → Len m → DC m D → (x4 = 0 → m.F a 5 = nI col) → (∀ j, j < ((List.range i).filter (fun i => qq ((rw_ D (f s)).getD i []))).length → (m.A q).getD j 0 = nI (((List.range i).filter (fun i => qq ((rw_ D (f s)).getD i []))).getD j 0)) → (∀ m', (∀ j, j < (ftL (rw_ D (f s)) qq).length → (m'.A q).getD j 0 = nI ((ftL (rw_ D (f s)) qq).getD j 0)) → Fr [q] m m' → K (some (.int (nI (ftL (rw_ D (f s)) qq).length))) (m'.uF 30 14 (m.F 30 14 + nI (ftL (rw_ D (f s)) qq).length))) → WH (d + 1) 124 65 [(0, .ref 30), (1, .ref a), (2, .ref q), (3, .ref (3 + 3 * f s)), (4, .int (nI x4)), (5, .long y5), (7, .int (nI ((List.range i).filter (fun i => qq ((rw_ D (f s)).getD i []))).length)), (8, .int (nI i))] [] m K := by
  have h20 := (hI (f s) hf).2.1
  have hw4 := (hI (f s) hf).1
  intro n
  induction n with
  | zero =>
    intro i m hi hL hD h5 hA k
    have d2 := (hD (f s) hf).2.1
    refine sg_124_65 _ _ _ _ _ _ _ ha hq (tbl_t hf) ?_
    rw [if_pos (by rw [d2, nIle (by omega) (by omega)]; omega)]
    refine sg_124_126 _ ?_
    have e : (List.range i).filter (fun i => qq ((rw_ D (f s)).getD i [])) = ftL (rw_ D (f s)) qq := by
      unfold ftL
      rw [show i = (rw_ D (f s)).length by omega]
    rw [e] at hA ⊢
    exact k m hA (Fr.refl _ m)
  | succ n ih =>
    intro i m hi hL hD h5 hA k
    obtain ⟨d1, d2, d3, d4⟩ := hD (f s) hf
    have lq : (m.A q).length = 20 := by rcases hq with z | z <;> rw [z] <;> exact hL.a (by decide) rfl
    have er : List.range (i + 1) = List.range i ++ [i] := List.range_succ
    have hle : ((List.range i).filter (fun i => qq ((rw_ D (f s)).getD i []))).length ≤ i := by
      have := List.length_filter_le (fun i => qq ((rw_ D (f s)).getD i [])) (List.range i)
      rw [List.length_range] at this
      exact this
    -- the row is taken
    have yes : qq ((rw_ D (f s)).getD i []) = true → WH (d + 1) 124 111 [(0, .ref 30), (1, .ref a), (2, .ref q), (3, .ref (3 + 3 * f s)), (4, .int (nI x4)), (5, .long y5), (7, .int (nI ((List.range i).filter (fun i => qq ((rw_ D (f s)).getD i []))).length)), (8, .int (nI i))] [] m K := by
      intro hy
      have ef : (List.range (i + 1)).filter (fun i => qq ((rw_ D (f s)).getD i [])) = (List.range i).filter (fun i => qq ((rw_ D (f s)).getD i [])) ++ [i] := by
        rw [er, List.filter_append, List.filter_cons_of_pos (p := fun i => qq ((rw_ D (f s)).getD i [])) hy, List.filter_nil]
      refine sg_124_111 _ _ _ _ _ _ _ ha hq (tbl_t hf) ?_
      rw [lq, nI_add, ix_nI (by omega)]
      refine ⟨ok_nI (by omega) (by decide), ?_⟩
      refine sg_124_120 _ _ _ _ _ _ _ ha hq (tbl_t hf) ?_
      rw [nI_add]
      have f1 : Fr [q] m (m.uA q ((m.A q).set ((List.range i).filter (fun i => qq ((rw_ D (f s)).getD i []))).length (nI i))) := by
        refine Fr.uA (Fr.refl _ m) (List.mem_singleton.mpr rfl) ?_
        rw [List.length_set]
      have hdj : djC [q] = true := by rcases hq with z | z <;> rw [z] <;> decide
      have hqa : a ∉ [q] := by
        intro z
        have z : a = q := List.mem_singleton.mp z
        rcases hq with h | h <;> rcases ha with h' | h' | h' | h' <;> omega
      have h30 : 30 ∉ [q] := by
        intro z
        have z : 30 = q := List.mem_singleton.mp z
        rcases hq with h | h <;> omega
      have := ih (i + 1) _ (by omega) (hL.fr f1) (hD.fr f1 hdj) (fun z => by rw [f1.f hqa]; exact h5 z) (fun j hj => ?_) (fun m' b1 f2 => ?_)
      · rw [ef, List.length_append] at this
        exact this
      · rw [ef] at hj ⊢
        rw [List.length_append, List.length_cons, List.length_nil] at hj
        rw [mA_A, if_pos rfl, getD_set _ _ _ _ _ (by omega), getD_snoc2]
        by_cases hjl : j = ((List.range i).filter (fun i => qq ((rw_ D (f s)).getD i []))).length
        · rw [if_pos hjl, if_pos hjl]
        · rw [if_neg hjl, if_neg hjl]; exact hA j (by omega)
      · rw [f1.f h30]
        exact k m' b1 (f1.trans f2)
    have no : qq ((rw_ D (f s)).getD i []) = false → WH (d + 1) 124 120 [(0, .ref 30), (1, .ref a), (2, .ref q), (3, .ref (3 + 3 * f s)), (4, .int (nI x4)), (5, .long y5), (7, .int (nI ((List.range i).filter (fun i => qq ((rw_ D (f s)).getD i []))).length)), (8, .int (nI i))] [] m K := by
      intro hn
      have ef : (List.range (i + 1)).filter (fun i => qq ((rw_ D (f s)).getD i [])) = (List.range i).filter (fun i => qq ((rw_ D (f s)).getD i [])) := by
        rw [er, List.filter_append, List.filter_cons_of_neg (p := fun i => qq ((rw_ D (f s)).getD i [])) (by rw [hn]; decide), List.filter_nil, List.append_nil]
      refine sg_124_120 _ _ _ _ _ _ _ ha hq (tbl_t hf) ?_
      rw [nI_add]
      have := ih (i + 1) m (by omega) hL hD h5 (by rw [ef]; exact hA) k
      rw [ef] at this
      exact this
    refine sg_124_65 _ _ _ _ _ _ _ ha hq (tbl_t hf) ?_
    rw [if_neg (by rw [d2, nIle (by omega) (by omega)]; omega), lq, if_neg (by rw [nIle (by omega) (by omega)]; omega)]
    rcases hqq with ⟨z1, z2⟩ | ⟨z1, z2, z3⟩
    · rw [if_neg (by rw [z1]; decide)]
      exact yes (z2 _)
    · rw [if_pos (by rw [z1])]
      by_cases hn : y5 = NUL
      · rw [if_pos ((lg_nul _).mpr hn)]
        exact no (by rw [z3, decide_eq_false (fun y => y hn), Bool.false_and])
      · rw [if_neg (fun y => hn ((lg_nul _).mp y)), h5 z1]
        have h3 := d3 i (by omega) col z2
        refine c_29 (tbl_t hf) hL d2 d1 (by omega) h20 z2 hw4 ⟨_, rfl, ?_⟩
        rw [h3]
        unfold cl_
        by_cases hv : ((rw_ D (f s)).getD i []).getD col 0 = y5
        · rw [if_pos ((lg_k _ _).mpr hv)]
          exact yes (by rw [z3, decide_eq_true hn, decide_eq_true hv]; rfl)
        · rw [if_neg (fun y => hv ((lg_k _ _).mp y))]
          exact no (by rw [z3, decide_eq_false hv, Bool.and_false])
/-- the class fetches by a plan -/
theorem c_124 {a q s bef : Nat} {st : Acs} (ha : acc a) (hq : rws q) (hs : s < 2) (hQ : CQ m rs f D ps) (hI : DI D) (h2a : m.F a 2 = nI s) (hA : Ac m a st) (hst : st.1 = 1 ∨ ((st.1 = 2 ∨ st.1 = 3) ∧ st.2.1 < wd D (f s) ∧ st.2.2.1 ≤ st.2.2.2 ∧ st.2.2.2 ≤ rs.length ∧ tyC false (seg rs st.2.2.1 st.2.2.2) ∧ PV m env (seg rs st.2.2.1 st.2.2.2))) (k : ∀ m', (∀ j, j < (ftL (rw_ D (f s)) (ftR rs env st)).length → (m'.A q).getD j 0 = nI ((ftL (rw_ D (f s)) (ftR rs env st)).getD j 0)) → Fr [22, q, 30] m m' → (∀ g, g ≠ 14 → m'.F 30 g = m.F 30 g) → m'.R 30 12 = m.R 30 12 → m'.R 30 13 = m.R 30 13 → m'.F 30 14 = m.F 30 14 + nI (ftL (rw_ D (f s)) (ftR rs env st)).length → K (some (.int (nI (ftL (rw_ D (f s)) (ftR rs env st)).length))) m') : WP (d + 4) 124 [.ref 30, .ref a, .ref q] m K := by
  have hQ0 := hQ
  obtain ⟨hL, hC, h2, hD, hPA, hPs, hpl, hf0, hf1, hr0, hr1⟩ := hQ
  have hfs : f s < 3 := by rcases (by omega : s = 0 ∨ s = 1) with z | z <;> rw [z] <;> assumption
  have h30 : 30 ∉ [q] := by
    intro z
    have z : 30 = q := List.mem_singleton.mp z
    rcases hq with h | h <;> omega
  have fin : ∀ m1, Fr [22] m m1 → ∀ m2, (∀ j, j < (ftL (rw_ D (f s)) (ftR rs env st)).length → (m2.A q).getD j 0 = nI ((ftL (rw_ D (f s)) (ftR rs env st)).getD j 0)) → Fr [q] m1 m2 → K (some (.int (nI (ftL (rw_ D (f s)) (ftR rs env st)).length))) (m2.uF 30 14 (m1.F 30 14 + nI (ftL (rw_ D (f s)) (ftR rs env st)).length)) := by
    intro m1 f1 m2 b1 f2
    refine k _ b1 ?_ (fun g hg => ?_) ?_ ?_ ?_
    · refine Fr.uF ((f1.mono ?_).trans (f2.mono ?_)) (by simp) _ _
      · intro c hc; rw [List.mem_singleton.mp hc]; simp
      · intro c hc; rw [List.mem_singleton.mp hc]; simp
    · rw [mF_F, if_neg (fun z => hg z.2), f2.f h30, f1.f (by decide)]
    · show m2.R 30 12 = _
      rw [f2.r h30, f1.r (by decide)]
    · show m2.R 30 13 = _
      rw [f2.r h30, f1.r (by decide)]
    · rw [mF_F, if_pos ⟨rfl, rfl⟩, f1.f (by decide)]
  refine sp_124 _ _ ha hq ?_
  rw [h2a]
  refine c_41 hQ0 hs ⟨_, rfl, tbl_t hfs, ?_⟩
  rw [hA.1]
  by_cases h1 : st.1 = 1
  · rw [if_pos (by rw [h1])]
    have := lp_124 (d := d + 3) (K := K) (f := f) (x4 := 1) (y5 := 1099511627776) (qq := ftR rs env st) (col := 0) ha hq hs hI hfs (Or.inl ⟨rfl, fun r => by unfold ftR; rw [decide_eq_true h1, Bool.true_or]⟩) (rw_ D (f s)).length 0 m (by omega) hL hD (fun z => by cases z) (fun j hj => by cases hj) (fun m2 b1 f2 => fin m (Fr.refl _ m) m2 b1 f2)
    exact this
  · rcases hst with z | ⟨z1, z2, z3, z4, z5, z6⟩
    · exact absurd z h1
    · rw [if_neg (by rw [nIeq (by omega) (by omega)]; exact h1)]
      obtain ⟨y1, y2, y3⟩ := hA.2 h1
      rw [y2, y3]
      refine c_51 (c := seg rs st.2.2.1 st.2.2.2) hL hC rfl z3 z4 z6 z5 (fun m1 f1 => ⟨_, rfl, ?_⟩)
      have := lp_124 (d := d + 3) (K := K) (f := f) (x4 := 0) (y5 := val env (seg rs st.2.2.1 st.2.2.2)) (qq := ftR rs env st) (col := st.2.1) ha hq hs hI hfs (Or.inr ⟨rfl, z2, fun r => by unfold ftR; rw [decide_eq_false h1, Bool.false_or]⟩) (rw_ D (f s)).length 0 m1 (by omega) (hL.fr f1) (hD.fr f1 (by decide)) (fun _ => by rw [f1.f (by rcases ha with h | h | h | h <;> rw [h] <;> decide)]; exact y1) (fun j hj => by cases hj) (fun m2 b1 f2 => fin m1 f1 m2 b1 f2)
      exact this
end F81
