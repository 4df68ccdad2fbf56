/-! THE REFERENCE: what a statement notes; term, name, perhapsWhere -/
def GS : List Nat := [5, 6, 7, 10, 12, 13, 15, 16, 19, 20, 21, 22, 25, 26, 27, 28, 29, 30, 31, 32, 33, 34, 38, 39]
def SS : List Nat := [46, 47, 48, 49, 50, 51, 52, 53, 54, 55]
def GR : List Nat := [19, 20, 21, 22, 25, 26, 27, 28, 29, 30, 31, 32]
def tmF (c : Sc) (i : Nat) : Nat := if i = 0 then 0 else c.2.getD (i - 1) 0
def RS (m : Mm) (c : Sc) (nm : Nat) : Prop := m.F 42 19 = nI nm ∧ nm ≤ 2 ∧ (0 < nm → (m.A 50).getD 0 0 = nI (c.1 5)) ∧ (if nm = 2 then (m.A 50).getD 1 0 = nI (c.1 6 - 1) ∧ 0 < c.1 6 else c.1 6 = 0) ∧ m.F 42 20 = nI (c.1 7) ∧ m.F 42 21 = nI (c.1 8) ∧ m.F 42 22 = nI c.2.length ∧ (∀ i, i < c.2.length → i < 4 → (m.A 51).getD i 0 = nI (tmF c i) ∧ (m.A 52).getD i 0 = nI (c.2.getD i 0)) ∧ m.F 42 25 = nI (if c.1 11 = 0 then 0 else 1) ∧ (c.1 11 ≠ 0 → m.F 42 26 = nI (c.1 10) ∧ m.F 42 27 = nI (c.1 11)) ∧ m.F 42 28 = nI (if c.1 13 = 0 then 0 else 1) ∧ (c.1 13 ≠ 0 → m.F 42 30 = nI (c.1 12) ∧ m.F 42 31 = nI (c.1 13)) ∧ m.F 42 29 = nI (c.1 14) ∧ m.F 42 32 = nI (if c.1 15 = 0 then 60 else c.1 15 - 1)
def dj (G S : List Nat) : Bool := G.all (fun x => !S.contains x)
theorem dj_no {G S : List Nat} (h : dj G S = true) {f : Nat} (hf : f ∈ S) : f ∉ G := by
  intro hg
  have := List.all_eq_true.mp h f hg
  have hc : S.contains f = true := List.contains_iff_mem.mpr hf
  rw [hc] at this
  exact absurd this (by decide)
section R54
variable {d N b : Nat} {m m0 m1 : Mm} {K : Option Value → Mm → Prop} {q : List Tk} {c : Sc} {nm : Nat}
theorem RS.fq {G S : List Nat} (h : RS m c nm) (k : Fq G S m m1) (h1 : dj G GR = true) (h2 : dj (42 :: S) [50, 51, 52] = true) : RS m1 c nm := by
  have F : ∀ f, f ∈ GR → m1.F 42 f = m.F 42 f := fun f hf => k.f (dj_no h1 hf)
  have A0 : m1.A 50 = m.A 50 := k.a (dj_no h2 (by decide))
  have A1 : m1.A 51 = m.A 51 := k.a (dj_no h2 (by decide))
  have A2 : m1.A 52 = m.A 52 := k.a (dj_no h2 (by decide))
  unfold RS at h ⊢
  rw [F 19 (by decide), F 20 (by decide), F 21 (by decide), F 22 (by decide), F 25 (by decide), F 26 (by decide), F 27 (by decide), F 28 (by decide), F 29 (by decide), F 30 (by decide), F 31 (by decide), F 32 (by decide), A0, A1, A2]
  exact h
end R54
def Rs (m : Mm) (N : Nat) (s : St) (nm w : Nat) : Prop := Len m ∧ RT m N s.1.1 ∧ RC m s.1.2.1 ∧ RP m s.1.2.2 ∧ RS m s.2 nm ∧ m.F 42 6 = nI 0 ∧ m.F 42 15 = nI 0 ∧ (w = 0 → m.F 42 13 = nI 0 ∧ m.F 42 34 = nI 0 ∧ s.1.2.2 = [] ∧ s.2.1 11 = 0) ∧ s.1.2.1.length + s.1.1.length ≤ N ∧ s.2.2.length + s.1.1.length ≤ N
def RBd (m0 : Mm) (N : Nat) (m : Mm) : Prop := Fq GS SS m0 m ∧ m.F 42 6 = nI 1 ∧ ∃ q, RT m N q
def QPost (m0 : Mm) (N : Nat) (x : Option St) (nm w : Nat) (K : Option Value → Mm → Prop) : Prop := match x with
  | some s => ∀ m', Rs m' N s nm w → Fq GS SS m0 m' → K none m'
  | none => ∀ m', RBd m0 N m' → K none m'
section R54b
variable {d N b : Nat} {m m0 m1 : Mm} {K : Option Value → Mm → Prop} {s : St} {nm w : Nat}
/-- where the next of the list begins -/
def atE (s : St) : Prop := s.1.2.1.length = tmF s.2 s.2.2.length
theorem c_158 (hX : Rs m N s nm w) (hE : atE s)
    (k1 : ∀ e, sItem s = some e → ∀ m', Rs m' N e nm w → atE e → e.1.1.length < s.1.1.length → Fq GS SS m m' → K none m')
    (k2 : sItem s = none → ∀ m', RBd m N m' → m'.F 42 19 = nI nm → K none m') : WP (d + 6) 158 [.ref 42] m K := by
  obtain ⟨hL, hT, hC, hP, hS, h6, h15, hw, hb1, hb2⟩ := hX
  have hN := hT.2.2.2.1
  have h22 : m.F 42 22 = nI s.2.2.length := hS.2.2.2.2.2.2.1
  refine sp_158 ?_
  refine c_151 (o := 0) (b := N) hL hT hC h15 (by decide) h6 hb1 (Nat.le_refl _) (fun cc r e1 m5 u1 u2 u3 u4 => ⟨rfl, ?_⟩) (fun e1 m5 c5 q5 u1 u2 u3 u4 u5 => ⟨rfl, ?_⟩)
  · have g22 : m5.F 42 22 = nI s.2.2.length := by rw [u4.f (by decide)]; exact h22
    have hL5 := hL.fq u4
    have l1 : (m5.A 51).length = 4 := hL5.a (by decide) rfl
    have l2 : (m5.A 52).length = 4 := hL5.a (by decide) rfl
    have hl := okP_ex _ _ _ _ e1
    have ei : sItem s = some ((r, s.1.2.1 ++ cc, s.1.2.2), s.2.1, s.2.2 ++ [(s.1.2.1 ++ cc).length]) := by
      unfold sItem sEx
      rw [show pEx 8 s.1.1 = some (cc, r) from e1]
    have hS5 : RS m5 s.2 nm := hS.fq u4 (by decide) (by decide)
    have fin : ∀ m6, Fq [22] [51, 52] m5 m6 → m6.F 42 22 = nI (s.2.2.length + 1) → (∀ i, i < s.2.2.length + 1 → i < 4 → (m6.A 51).getD i 0 = nI (tmF s.2 i) ∧ (m6.A 52).getD i 0 = nI ((s.2.2 ++ [(s.1.2.1 ++ cc).length]).getD i 0)) → K none m6 := by
      intro m6 f6 g6 ht
      refine k1 _ ei m6 ⟨hL5.fq f6, u1.fq f6 (by decide) (by decide) (by decide) (by decide), u2.fq f6 (by decide) (by decide) (by decide), (hP.fq u4 (by decide) (by decide) (by decide) (by decide)).fq f6 (by decide) (by decide) (by decide) (by decide), ?_, ?_, ?_, ?_, ?_, ?_⟩ ?_ ?_ ?_
      · obtain ⟨z1, z2, z3, z4, z5, z6, z7, z8, z9, z10, z11, z12, z13, z14⟩ := hS5
        have A0 : m6.A 50 = m5.A 50 := f6.a (by decide)
        refine ⟨?_, z2, ?_, ?_, ?_, ?_, ?_, ?_, ?_, ?_, ?_, ?_, ?_, ?_⟩
        · rw [f6.f (by decide)]; exact z1
        · rw [A0]; exact z3
        · rw [A0]; exact z4
        · rw [f6.f (by decide)]; exact z5
        · rw [f6.f (by decide)]; exact z6
        · rw [g6, List.length_append]; rfl
        · intro i hi h4
          rw [List.length_append, List.length_cons, List.length_nil] at hi
          have := ht i hi h4
          refine ⟨?_, this.2⟩
          rw [this.1]
          unfold tmF
          by_cases h0 : i = 0
          · rw [if_pos h0, if_pos h0]
          · rw [if_neg h0, if_neg h0]
            dsimp only
            rw [getD_snoc2, if_neg (by omega)]
        · rw [f6.f (by decide)]; exact z9
        · intro h; rw [f6.f (by decide), f6.f (by decide)]; exact z10 h
        · rw [f6.f (by decide)]; exact z11
        · intro h; rw [f6.f (by decide), f6.f (by decide)]; exact z12 h
        · rw [f6.f (by decide)]; exact z13
        · rw [f6.f (by decide)]; exact z14
      · rw [f6.f (by decide)]; exact u3
      · rw [f6.f (by decide), u4.f (by decide)]; exact h15
      · intro h
        obtain ⟨z1, z2, z3, z4⟩ := hw h
        exact ⟨by rw [f6.f (by decide), u4.f (by decide)]; exact z1, by rw [f6.f (by decide), u4.f (by decide)]; exact z2, z3, z4⟩
      · dsimp only; rw [List.length_append]; omega
      · dsimp only; rw [List.length_append, List.length_cons, List.length_nil]; omega
      · show (s.1.2.1 ++ cc).length = tmF _ (s.2.2 ++ [(s.1.2.1 ++ cc).length]).length
        unfold tmF
        have e0 : (s.2.2 ++ [(s.1.2.1 ++ cc).length]).length = s.2.2.length + 1 := by rw [List.length_append]; rfl
        rw [e0, if_neg (by omega), Nat.add_sub_cancel]
        show _ = (s.2.2 ++ [(s.1.2.1 ++ cc).length]).getD s.2.2.length 0
        rw [getD_snoc2, if_pos rfl]
      · dsimp only; omega
      · exact (u4.mono (by decide) (by decide)).trans (f6.mono (by decide) (by decide))
    by_cases h4 : 4 ≤ s.2.2.length
    · have c1 : nI 4 ≤ m5.F 42 22 := by rw [g22, nIle (by omega) (by omega)]; exact h4
      rw [if_pos c1, g22, nI_add]
      refine fin _ (Fq.uF (Fq.refl _ _ _) (by decide) _) rfl (fun i hi hi4 => ?_)
      have := hS5.2.2.2.2.2.2.2.1 i (by omega) hi4
      rw [getD_snoc2, if_neg (by omega)]
      exact this
    · have c1 : ¬ nI 4 ≤ m5.F 42 22 := by rw [g22, nIle (by omega) (by omega)]; exact h4
      rw [if_neg c1, g22, nI_add, l1, l2, ix_nI (by omega), hC.1, u2.1]
      have ho : ok 4 (nI s.2.2.length) := ok_nI (by omega) (by decide)
      refine ⟨ho, ho, fin _ ?_ rfl (fun i hi hi4 => ?_)⟩
      · refine Fq.uF (Fq.uA (Fq.uA (Fq.refl _ _ _) (by decide) ?_) (by decide) ?_) (by decide) _
        · rw [List.length_set]
        · rw [List.length_set]; rfl
      · show ((m5.A 51).set s.2.2.length (nI s.1.2.1.length)).getD i 0 = _ ∧ ((m5.A 52).set s.2.2.length (nI (s.1.2.1 ++ cc).length)).getD i 0 = _
        rw [getD_set _ _ _ _ _ (by omega), getD_set _ _ _ _ _ (by omega), getD_snoc2]
        by_cases hi2 : i = s.2.2.length
        · rw [if_pos hi2, if_pos hi2, if_pos hi2]
          refine ⟨?_, rfl⟩
          rw [hi2]
          exact congrArg nI hE
        · rw [if_neg hi2, if_neg hi2, if_neg hi2]
          exact hS5.2.2.2.2.2.2.2.1 i (by omega) hi4
  · have ei : sItem s = none := by
      unfold sItem sEx
      rw [show pEx 8 s.1.1 = none from e1]
    have g22 : m5.F 42 22 = nI s.2.2.length := by rw [u5.f (by decide)]; exact h22
    have hL5 := hL.fq u5
    have l1 : (m5.A 51).length = 4 := hL5.a (by decide) rfl
    have l2 : (m5.A 52).length = 4 := hL5.a (by decide) rfl
    have fin : ∀ m6, Fq [22] [51, 52] m5 m6 → K none m6 := by
      intro m6 f6
      refine k2 ei m6 ⟨(u5.mono (by decide) (by decide)).trans (f6.mono (by decide) (by decide)), ?_, q5, u1.fq f6 (by decide) (by decide) (by decide) (by decide)⟩ ?_
      · rw [f6.f (by decide)]; exact u2
      · rw [f6.f (by decide), u5.f (by decide)]; exact hS.1
    by_cases h4 : 4 ≤ s.2.2.length
    · have c1 : nI 4 ≤ m5.F 42 22 := by rw [g22, nIle (by omega) (by omega)]; exact h4
      rw [if_pos c1]
      exact fin _ (Fq.uF (Fq.refl _ _ _) (by decide) _)
    · have c1 : ¬ nI 4 ≤ m5.F 42 22 := by rw [g22, nIle (by omega) (by omega)]; exact h4
      rw [if_neg c1, g22, l1, l2]
      have ho : ok 4 (nI s.2.2.length) := ok_nI (by omega) (by decide)
      refine ⟨ho, ho, fin _ ?_⟩
      refine Fq.uF (Fq.uA (Fq.uA (Fq.refl _ _ _) (by decide) ?_) (by decide) ?_) (by decide) _
      · rw [List.length_set]
      · rw [List.length_set]; rfl
/-- a term behind a bad place -/
theorem c_158b {t : Nat} (hL : Len m) (h6 : m.F 42 6 = nI 1) (h22 : m.F 42 22 = nI t) (ht : t < 100) (k : ∀ m', Fq [10, 12, 16, 22] [51, 52] m m' → K none m') : WP (d + 2) 158 [.ref 42] m K := by
  refine sp_158 ?_
  refine c_151b h6 (fun m5 f5 => ⟨rfl, ?_⟩)
  have g22 : m5.F 42 22 = nI t := by rw [f5.f (by decide)]; exact h22
  have hL5 := hL.fq f5
  have l1 : (m5.A 51).length = 4 := hL5.a (by decide) rfl
  have l2 : (m5.A 52).length = 4 := hL5.a (by decide) rfl
  have f6 : Fq [10, 12, 16, 22] [51, 52] m m5 := f5.mono (by decide) (by decide)
  by_cases h4 : 4 ≤ t
  · have c1 : nI 4 ≤ m5.F 42 22 := by rw [g22, nIle (by omega) (by omega)]; exact h4
    rw [if_pos c1]
    exact k _ (Fq.uF f6 (by decide) _)
  · have c1 : ¬ nI 4 ≤ m5.F 42 22 := by rw [g22, nIle (by omega) (by omega)]; exact h4
    rw [if_neg c1, g22, l1, l2]
    have ho : ok 4 (nI t) := ok_nI (by omega) (by decide)
    refine ⟨ho, ho, k _ ?_⟩
    refine Fq.uF (Fq.uA (Fq.uA f6 (by decide) ?_) (by decide) ?_) (by decide) _
    · rw [List.length_set]
    · rw [List.length_set]; rfl
theorem eK_tbl {t : Tk} (h : eK t = 2) : t.1 = 1 := by
  unfold eK at h
  by_cases z1 : t.1 = 1
  · exact z1
  · rw [if_neg z1] at h
    split at h
    · omega
    · split at h <;> omega
theorem eK_num {t : Tk} (h : eK t = 3) : t.1 = 2 := by
  unfold eK at h
  by_cases z1 : t.1 = 1
  · rw [if_pos z1] at h; omega
  · rw [if_neg z1] at h
    by_cases z2 : t.1 = 2
    · exact z2
    · rw [if_neg z2] at h
      split at h <;> omega
theorem kh_ne {q : List Tk} {k w : Nat} (h : kh q ≠ w) (hw : ∀ t : Tk, t.1 = k → eK t = w) (hk : k ≠ 0) : hd q ≠ k := by
  cases q with
  | nil => exact fun z => hk z.symm
  | cons t r => exact fun z => h (hw t z)
/-- a table's name -/
theorem c_159 (hX : Rs m N s nm w) (hnm : nm < 2)
    (k1 : ∀ t r, s.1.1 = t :: r → t.1 = 1 → ∀ m', Rs m' N ((r, s.1.2), upS s.2 (5 + nm) (t.2 + nm)) (nm + 1) w → Fq GS SS m m' → K none m')
    (k2 : hd s.1.1 ≠ 1 → ∀ m', RBd m N m' → m'.F 42 19 = nI (nm + 1) → m'.F 42 22 = m.F 42 22 → K none m') : WP (d + 1) 159 [.ref 42] m K := by
  obtain ⟨hL, hT, hC, hP, hS, h6, h15, hw, hb1, hb2⟩ := hX
  have hN := hT.2.2.2.1
  refine sp_159 ?_
  refine c_take (by decide) (by decide) (Or.inl rfl) hL hT h6 (fun t r e e1 m' x a1 a2 a3 a4 => ⟨_, rfl, ?_⟩) (fun z m' a1 a2 a3 => ⟨_, rfl, ?_⟩)
  · have et := eK_tbl e1
    have ex : x = nI t.2 := by
      unfold wr at a1
      rw [if_neg (by omega)] at a1
      rw [a1]
      unfold eW
      rw [if_pos (Or.inl et)]
    have hL1 := hL.fq a4
    have l1 : (m'.A 50).length = 2 := hL1.a (by decide) rfl
    have hS1 := hS.fq a4 (by decide) (by decide)
    rw [hS.1, hS1.1, nI_add, l1, ix_nI (by omega)]
    refine ⟨ok_nI (by omega) (by decide), ?_⟩
    have f2 : Fq [19] [50] m' ((m'.uA 50 ((m'.A 50).set nm x)).uF 42 19 (nI (nm + 1))) := by
      refine Fq.uF (Fq.uA (Fq.refl _ _ _) (by decide) ?_) (by decide) _
      rw [List.length_set]
    rw [e] at hb1 hb2
    simp only [List.length_cons] at hb1 hb2
    refine k1 t r e et _ ⟨hL1.fq f2, a2.fq f2 (by decide) (by decide) (by decide) (by decide), (hC.fq a4 (by decide) (by decide) (by decide)).fq f2 (by decide) (by decide) (by decide), (hP.fq a4 (by decide) (by decide) (by decide) (by decide)).fq f2 (by decide) (by decide) (by decide) (by decide), ?_, ?_, ?_, ?_, ?_, ?_⟩ ?_
    · obtain ⟨z1, z2, z3, z4, z5, z6, z7, z8, z9, z10, z11, z12, z13, z14⟩ := hS1
      have sf : ∀ f, f ≠ 5 + nm → (upS s.2 (5 + nm) (t.2 + nm)).1 f = s.2.1 f := fun f hf => if_neg hf
      have si : (upS s.2 (5 + nm) (t.2 + nm)).1 (5 + nm) = t.2 + nm := if_pos rfl
      have g0 : ∀ i, ((m'.A 50).set nm x).getD i 0 = if i = nm then x else (m'.A 50).getD i 0 := fun i => getD_set _ _ _ _ _ (by omega)
      refine ⟨rfl, by omega, fun _ => ?_, ?_, ?_, ?_, ?_, ?_, ?_, ?_, ?_, ?_, ?_, ?_⟩
      · show ((m'.A 50).set nm x).getD 0 0 = _
        rw [g0]
        by_cases h0 : nm = 0
        · subst h0
          rw [if_pos rfl, ex]
          exact congrArg nI si.symm
        · rw [if_neg (by omega), sf 5 (by omega)]
          exact z3 (by omega)
      · show if nm + 1 = 2 then ((m'.A 50).set nm x).getD 1 0 = _ ∧ _ else _
        rw [g0]
        by_cases h0 : nm = 0
        · subst h0
          rw [if_neg (by decide), sf 6 (by decide)]
          rw [if_neg (by decide)] at z4
          exact z4
        · have h1 : nm = 1 := by omega
          subst h1
          rw [if_pos rfl, if_pos rfl, ex]
          have e6 : (upS s.2 (5 + 1) (t.2 + 1)).1 6 = t.2 + 1 := si
          rw [e6, Nat.add_sub_cancel]
          exact ⟨rfl, by omega⟩
      · rw [sf 7 (by omega)]; exact z5
      · rw [sf 8 (by omega)]; exact z6
      · exact z7
      · exact z8
      · rw [sf 11 (by omega)]; exact z9
      · rw [sf 10 (by omega), sf 11 (by omega)]; exact z10
      · rw [sf 13 (by omega)]; exact z11
      · rw [sf 12 (by omega), sf 13 (by omega)]; exact z12
      · rw [sf 14 (by omega)]; exact z13
      · rw [sf 15 (by omega)]; exact z14
    · rw [f2.f (by decide)]; exact a3
    · rw [f2.f (by decide), a4.f (by decide)]; exact h15
    · intro h
      obtain ⟨z1, z2, z3, z4⟩ := hw h
      refine ⟨by rw [f2.f (by decide), a4.f (by decide)]; exact z1, by rw [f2.f (by decide), a4.f (by decide)]; exact z2, z3, ?_⟩
      show (if 11 = 5 + nm then _ else s.2.1 11) = 0
      rw [if_neg (by omega)]; exact z4
    · dsimp only; omega
    · show s.2.2.length + r.length ≤ N; omega
    · exact (a4.mono (by decide) (by decide)).trans (f2.mono (by decide) (by decide))
  · have hL1 := hL.fq a3
    have l1 : (m'.A 50).length = 2 := hL1.a (by decide) rfl
    have h19 : m'.F 42 19 = nI nm := by rw [a3.f (by decide)]; exact hS.1
    rw [hS.1, h19, nI_add, l1]
    refine ⟨ok_nI (by omega) (by decide), k2 (kh_ne z (fun t ht => by unfold eK; rw [if_pos ht]) (by decide)) _ ⟨?_, ?_, s.1.1, ?_⟩ rfl (a3.f (by decide))⟩
    · refine Fq.uF (Fq.uA (a3.mono (by decide) (by decide)) (by decide) ?_) (by decide) _
      rw [List.length_set]
    · exact a2
    · refine a1.fq (G := [19]) (S := [50]) (Fq.uF (Fq.uA (Fq.refl _ _ _) (by decide) ?_) (by decide) _) (by decide) (by decide) (by decide) (by decide)
      rw [List.length_set]
/-- a name behind a bad place -/
theorem c_159b (hL : Len m) (hB : RBd m0 N m) (h19 : m.F 42 19 = nI nm) (hnm : nm < 2) (k : ∀ m', RBd m0 N m' → K none m') : WP (d + 1) 159 [.ref 42] m K := by
  obtain ⟨f0, h6, q, hT⟩ := hB
  refine sp_159 ?_
  have fin : ∀ m' (x : Int32) q', RT m' N q' → m'.F 42 6 = nI 1 → Fq [5, 6] [] m m' → ok (m'.A 50).length (m.F 42 19) ∧ K none ((m'.uA 50 ((m'.A 50).set (ix (m.F 42 19)) x)).uF 42 19 ((m'.F 42 19) + (nI 1))) := by
    intro m' x q' b1 b2 b3
    have l1 : (m'.A 50).length = 2 := (hL.fq b3).a (by decide) rfl
    rw [h19, l1]
    refine ⟨ok_nI (by omega) (by decide), k _ ⟨?_, b2, q', ?_⟩⟩
    · refine Fq.uF (Fq.uA (f0.trans (b3.mono (by decide) (by decide))) (by decide) ?_) (by decide) _
      rw [List.length_set]
    · refine b1.fq (G := [19]) (S := [50]) (Fq.uF (Fq.uA (Fq.refl _ _ _) (by decide) ?_) (by decide) _) (by decide) (by decide) (by decide) (by decide)
      rw [List.length_set]
  refine c_take (by decide) (by decide) (Or.inr rfl) hL hT h6 (fun t r e e1 m' x a1 a2 a3 a4 => ⟨_, rfl, fin m' x r a2 a3 a4⟩) (fun z m' a1 a2 a3 => ⟨_, rfl, fin m' _ q a1 a2 a3⟩)
theorem c_161 (hX : Rs m N s nm 0)
    (k1 : ∀ e, sWhere s = some e → ∀ m', Rs m' N e nm 1 → Fq GS SS m m' → K none m')
    (k2 : sWhere s = none → ∀ m', RBd m N m' → K none m') : WP (d + 8) 161 [.ref 42] m K := by
  obtain ⟨hL, hT, hC, hP, hS, h6, h15, hw, hb1, hb2⟩ := hX
  have hN := hT.2.2.2.1
  obtain ⟨h13, h34, hps, h11⟩ := hw rfl
  refine sp_161 ?_
  rw [if_pos h6]
  refine c_wrd_11 (by omega) ⟨_, rfl, ?_⟩
  refine c_takeWord (n := 11) (by decide) (by decide) hL hT (fun t r e et m1 a1 f1 => ⟨_, rfl, ?_⟩) (fun h => ⟨_, rfl, ?_⟩)
  · rw [if_neg (by decide)]
    have hhd : hd s.1.1 = 11 := by rw [e]; exact et
    rw [e] at hb1 hb2
    simp only [List.length_cons] at hb1 hb2
    have ew : sWhere s = (match tCnd (r, s.1.2.1, []) with | some e => some (e, upS (upS s.2 10 s.1.2.1.length) 11 e.2.1.length) | none => none) := by
      unfold sWhere sOpt
      rw [if_pos hhd]
      dsimp only
      rw [e]
      rw [show s.1.2 = (s.1.2.1, []) from by rw [← hps]]
      rfl
    have h33 : m.F 42 33 = nI 0 := by rw [hP.1, hps]; rfl
    refine c_157 (hL.fq f1) a1 (hC.fq f1 (by decide) (by decide) (by decide)) (by rw [f1.f (by decide)]; exact h6) (by rw [f1.f (by decide)]; exact h13) (by rw [f1.f (by decide)]; exact h15) (by rw [f1.f (by decide)]; exact h33) (by rw [f1.f (by decide)]; exact h34) (by omega) (fun s' e1 m2 b1 b2 b3 b4 b5 b6 b7 b8 b9 f2 => ⟨rfl, ?_⟩) (fun e1 m2 q2 b1 b2 f2 => ⟨rfl, ?_⟩)
    · rw [e1] at ew
      have hlen := okT_cnd e1
      dsimp only at hlen
      refine k1 _ ew m2 ⟨(hL.fq f1).fq f2, b1, b2, b3, ?_, b4, b8, fun z => by omega, b9, ?_⟩ ?_
      · obtain ⟨z1, z2, z3, z4, z5, z6, z7, z8, z9, z10, z11, z12, z13, z14⟩ := hS
        have A0 : m2.A 50 = m.A 50 := by rw [f2.a (by decide), f1.a (by decide)]
        have A1 : m2.A 51 = m.A 51 := by rw [f2.a (by decide), f1.a (by decide)]
        have A2 : m2.A 52 = m.A 52 := by rw [f2.a (by decide), f1.a (by decide)]
        have Fk : ∀ f, f ∉ GC → f ≠ 5 → m2.F 42 f = m.F 42 f := fun f h1 h2 => by rw [f2.f h1, f1.f (by simpa using h2)]
        have sf : ∀ f, f ≠ 10 → f ≠ 11 → (upS (upS s.2 10 s.1.2.1.length) 11 s'.2.1.length).1 f = s.2.1 f := fun f h1 h2 => by
          show (if f = 11 then _ else if f = 10 then _ else _) = _
          rw [if_neg h2, if_neg h1]
        have s11 : (upS (upS s.2 10 s.1.2.1.length) 11 s'.2.1.length).1 11 = s'.2.1.length := rfl
        have s10 : (upS (upS s.2 10 s.1.2.1.length) 11 s'.2.1.length).1 10 = s.1.2.1.length := rfl
        refine ⟨?_, z2, ?_, ?_, ?_, ?_, ?_, ?_, ?_, ?_, ?_, ?_, ?_, ?_⟩
        · rw [Fk 19 (by decide) (by decide)]; exact z1
        · rw [A0, sf 5 (by decide) (by decide)]; exact z3
        · rw [A0, sf 6 (by decide) (by decide)]; exact z4
        · rw [Fk 20 (by decide) (by decide), sf 7 (by decide) (by decide)]; exact z5
        · rw [Fk 21 (by decide) (by decide), sf 8 (by decide) (by decide)]; exact z6
        · rw [Fk 22 (by decide) (by decide)]; exact z7
        · rw [A1, A2]; exact z8
        · rw [s11, if_neg (by omega)]; exact b5
        · intro _; rw [s11, s10]; exact ⟨b6, b7⟩
        · rw [Fk 28 (by decide) (by decide), sf 13 (by decide) (by decide)]; exact z11
        · rw [Fk 30 (by decide) (by decide), Fk 31 (by decide) (by decide), sf 12 (by decide) (by decide), sf 13 (by decide) (by decide)]; exact z12
        · rw [Fk 29 (by decide) (by decide), sf 14 (by decide) (by decide)]; exact z13
        · rw [Fk 32 (by decide) (by decide), sf 15 (by decide) (by decide)]; exact z14
      · show s.2.2.length + s'.1.length ≤ N; omega
      · exact (f1.mono (by decide) (by decide)).trans (f2.mono (by decide) (by decide))
    · rw [e1] at ew
      exact k2 ew m2 ⟨(f1.mono (by decide) (by decide)).trans (f2.mono (by decide) (by decide)), b2, q2, b1⟩
  · rw [if_pos rfl]
    have ew : sWhere s = some s := by
      unfold sWhere sOpt
      rw [if_neg h]
    exact k1 s ew m ⟨hL, hT, hC, hP, hS, h6, h15, fun z => by omega, hb1, hb2⟩ (Fq.refl _ _ _)
theorem c_161b (h6 : m.F 42 6 = nI 1) (k : K none m) : WP (d + 1) 161 [.ref 42] m K := by
  refine sp_161 ?_
  rw [if_neg (by rw [h6]; decide)]
  exact k
end R54b
