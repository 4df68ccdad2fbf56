/-! PLANS: the reference's side, fixing, access, fetched -/
/-- what the reference's plan stands on -/
def RQ (m : Mm) (rs : List Op) (f : Nat → Nat) (D : Db) (P : Nat → List (List Int64)) (ps : List Pt) : Prop := Len m ∧ RE m rs f ∧ sd2 rs ∧ (∀ z, z ∈ rs → z.1 < 1000) ∧ tbOK rs f ∧ DR m D P ∧ RP m ps ∧ okPs rs ps ∧ ps.length ≤ 40
def sIx (n : Nat) : Int32 := if n = 0 then nI 0 else if n = 1 then nI 1 else -1
def oIx (o : Option Nat) : Int32 := match o with | some i => nI i | none => -1
section P79
variable {d : Nat} {m m0 m1 : Mm} {K : Option Value → Mm → Prop} {rs : List Op} {D : Db} {s bef : Nat} {ps : List Pt} {f : Nat → Nat} {P : Nat → List (List Int64)}
theorem RQ.fq {G S : List Nat} (h : RQ m rs f D P ps) (k : Fq G S m m1) (h33 : 33 ∉ G) (hs : dj (42 :: S) [46, 47, 53, 54, 55, 56, 57, 58, 59] = true) : RQ m1 rs f D P ps := by
  have N : ∀ c, c ∈ [46, 47, 53, 54, 55, 56, 57, 58, 59] → c ∉ (42 :: S) := fun c hc => dj_no hs hc
  obtain ⟨a1, a2, a3, a4, a5, a6, a7, a8, a9⟩ := h
  exact ⟨a1.fq k, a2.fq k (N 46 (by decide)) (N 47 (by decide)), a3, a4, a5, a6.fq k (dj_sub hs (by decide)), a7.fq k h33 (N 53 (by decide)) (N 54 (by decide)) (N 55 (by decide)), a8, a9⟩
theorem c_173 {i key : Nat} (hQ : RQ m rs f D P ps) (hb : befOK s bef) (hab : (s = 1 ∨ bef ≠ 0) → f 0 ≠ f 1) (hi : i < ps.length) (h0 : (ps.getD i (0, 0, 0)).2.1 ≠ 0) (hkey : key = 0 ∨ key = 1) (k : K (some (.int (sIx (sdP (okF D (f s) key) rs s bef (ps.getD i (0, 0, 0)))))) m) : WP (d + 1) 173 [.ref 42, .int (nI i), .int (nI (f s)), .int (nI (stR (f 0) (f 1) bef)), .int (nI key)] m K := by
  obtain ⟨hL, hC, h2, hok, hf, hD, hP, hPs, hlen⟩ := hQ
  have hn := hC.1
  have l3 : (m.A 53).length = 40 := hL.a (by decide) rfl
  have l4 : (m.A 54).length = 40 := hL.a (by decide) rfl
  have l5 : (m.A 55).length = 40 := hL.a (by decide) rfl
  obtain ⟨q1, q2, q3⟩ := hP.2 i hi
  have hp := hPs _ (getD_in (z := (0, 0, 0)) hi)
  generalize ps.getD i (0, 0, 0) = p at *
  obtain ⟨j, hj⟩ : ∃ j, p.2.1 = j + 1 := ⟨p.2.1 - 1, by omega⟩
  have hmid := hp.2.2 h0
  rw [hj, Nat.add_sub_cancel] at hmid
  have ej : ow p.2.1 = nI j := by rw [hj]; rfl
  have o40 : ok 40 (nI i) := ok_nI (by omega) (by decide)
  have hs : s = 0 ∨ (s = 1 ∧ f 0 ≠ f 1) := by
    rcases hb with z | z
    · exact Or.inl z.1
    · exact Or.inr ⟨z.1, hab (Or.inl z.1)⟩
  have hb3 : bef = 0 ∨ bef = 1 ∨ bef = 2 := by unfold befOK at hb; omega
  have hM : ∀ x y, (nI (mkR (f 0) (f 1) (seg rs x y)) &&& (nI (stR (f 0) (f 1) bef) ^^^ (-1)) = nI 0) = (mOK (seg rs x y) bef = true) := by
    intro x y
    refine mkR_bef hf.1 hf.2.1 hb3 (fun z => ?_)
    rcases z with z | z
    · obtain ⟨w, w1, w2, w3⟩ := hasS_ex z
      exact hf.2.2 ⟨w, seg_mem w1, w2, w3⟩
    · exact hab (Or.inr (by omega))
  refine sp_173 _ _ _ _ ?_
  rw [l3, l4, l5, ix_nI (by omega), q1, q2, q3, ej, nIsub (by omega)]
  refine ⟨o40, o40, o40, ?_⟩
  have esd : sdP (okF D (f s) key) rs s bef p = (if (lone rs p.1 j s).any (okF D (f s) key) = true ∧ mOK (seg rs j (p.2.2 - 1)) bef = true then 0 else if (lone rs j (p.2.2 - 1) s).any (okF D (f s) key) = true ∧ mOK (seg rs p.1 j) bef = true then 1 else 2) := by
    unfold sdP
    rw [hj, Nat.add_sub_cancel]
  rw [esd] at k
  -- the right way
  have right : ¬ ((lone rs p.1 j s).any (okF D (f s) key) = true ∧ mOK (seg rs j (p.2.2 - 1)) bef = true) → WP d 171 [.ref 42, .int (nI j), .int (nI (p.2.2 - 1)), .int (nI (f s)), .int (nI key)] m (fun v m34 => ∃ w35, v = some (.int w35) ∧ (if w35 = (nI 0) then K (some (.int (-1))) m34 else WP d 170 [.ref 42, .int (nI p.1), .int (nI j)] m34 (fun v m37 => ∃ w38, v = some (.int w38) ∧ (if (w38 &&& (nI (stR (f 0) (f 1) bef) ^^^ (-1))) = (nI 0) then K (some (.int (nI 1))) m37 else K (some (.int (-1))) m37)))) := by
    intro hL'
    rw [if_neg hL'] at k
    refine c_171 hL hC h2 hok hf hD hs hmid.2.2.2 (by omega) hkey ⟨_, rfl, ?_⟩
    by_cases hr : (lone rs j (p.2.2 - 1) s).any (okF D (f s) key) = true
    · rw [bI_t hr, if_neg (by decide)]
      refine c_170 hL hC h2 hok hf hmid.1 (by omega) ⟨_, rfl, ?_⟩
      by_cases hm : mOK (seg rs p.1 j) bef = true
      · rw [if_pos (by rw [hM]; exact hm)]
        rw [if_pos ⟨hr, hm⟩] at k; exact k
      · rw [if_neg (by rw [hM]; exact hm)]
        rw [if_neg (fun z => hm z.2)] at k; exact k
    · rw [bI_f hr, if_pos rfl]
      rw [if_neg (fun z => hr z.1)] at k; exact k
  refine c_171 hL hC h2 hok hf hD hs hmid.2.2.1 (by omega) hkey ⟨_, rfl, ?_⟩
  by_cases hl : (lone rs p.1 j s).any (okF D (f s) key) = true
  · rw [bI_t hl, if_neg (by decide)]
    refine c_170 hL hC h2 hok hf hmid.2.1 (by omega) ⟨_, rfl, ?_⟩
    by_cases hm : mOK (seg rs j (p.2.2 - 1)) bef = true
    · rw [if_pos (by rw [hM]; exact hm)]
      rw [if_pos ⟨hl, hm⟩] at k; exact k
    · rw [if_neg (by rw [hM]; exact hm)]
      exact right (fun z => hm z.2)
  · rw [bI_f hl, if_pos rfl]
    exact right (fun z => hl z.1)
theorem fstI_drop {okk : Nat → Bool} {i : Nat} (hi : i < ps.length) : fstI okk rs s bef (ps.drop i) = if (ps.getD i (0, 0, 0)).2.1 ≠ 0 ∧ sdP okk rs s bef (ps.getD i (0, 0, 0)) ≠ 2 then some 0 else (fstI okk rs s bef (ps.drop (i + 1))).map (fun j => j + 1) := by
  have edr : ps.drop i = ps.getD i (0, 0, 0) :: ps.drop (i + 1) := by
    rw [List.drop_eq_getElem_cons hi, List.getD_eq_getElem?_getD, List.getElem?_eq_getElem hi]; rfl
  rw [edr]; rfl
theorem lp_172 {key : Nat} (hQ : RQ m rs f D P ps) (hb : befOK s bef) (hab : (s = 1 ∨ bef ≠ 0) → f 0 ≠ f 1) (hkey : key = 0 ∨ key = 1) : ∀ (n i : Nat), i + n = ps.length → K (some (.int (oIx ((fstI (okF D (f s) key) rs s bef (ps.drop i)).map (fun j => i + j))))) m → WH (d + 2) 172 3 [(0, .ref 42), (1, .int (nI (f s))), (2, .int (nI (stR (f 0) (f 1) bef))), (3, .int (nI key)), (4, .int (nI i))] [] m K := by
  have hP := hQ.2.2.2.2.2.2.1
  have hlen := hQ.2.2.2.2.2.2.2.2
  have l5 : (m.A 55).length = 40 := hQ.1.a (by decide) rfl
  intro n
  induction n with
  | zero =>
    intro i hi k
    refine sg_172_3 _ _ _ _ ?_
    rw [if_pos (by rw [hP.1, nIle (by omega) (by omega)]; omega)]
    rw [List.drop_eq_nil_of_le (by omega)] at k
    exact k
  | succ n ih =>
    intro i hi k
    rw [fstI_drop (by omega)] at k
    obtain ⟨q1, q2, q3⟩ := hP.2 i (by omega)
    have next : (fstI (okF D (f s) key) rs s bef (ps.drop i) = (fstI (okF D (f s) key) rs s bef (ps.drop (i + 1))).map (fun j => j + 1)) → WH (d + 2) 172 3 [(0, .ref 42), (1, .int (nI (f s))), (2, .int (nI (stR (f 0) (f 1) bef))), (3, .int (nI key)), (4, .int (nI (i + 1)))] [] m K := by
      intro he
      refine ih (i + 1) (by omega) ?_
      rw [← fstI_drop (by omega), he] at k
      cases hf : fstI (okF D (f s) key) rs s bef (ps.drop (i + 1)) with
      | none => rw [hf] at k; exact k
      | some j =>
        rw [hf] at k
        have e1 : oIx (((some j).map (fun j => j + 1)).map (fun j => i + j)) = oIx ((some j).map (fun j => i + 1 + j)) := by
          show nI (i + (j + 1)) = nI (i + 1 + j)
          congr 1
          omega
        rw [e1] at k
        exact k
    refine sg_172_3 _ _ _ _ ?_
    rw [if_neg (by rw [hP.1, nIle (by omega) (by omega)]; omega), l5, ix_nI (by omega), q2, nI_add]
    refine ⟨ok_nI (by omega) (by decide), ?_⟩
    by_cases h0 : (ps.getD i (0, 0, 0)).2.1 = 0
    · rw [if_pos (by rw [h0]; decide)]
      exact next (by rw [fstI_drop (by omega), if_neg (fun z => z.1 h0)])
    · obtain ⟨j, hj⟩ : ∃ j, (ps.getD i (0, 0, 0)).2.1 = j + 1 := ⟨(ps.getD i (0, 0, 0)).2.1 - 1, by omega⟩
      have hp := hQ.2.2.2.2.2.2.2.1 _ (getD_in (z := (0, 0, 0)) (show i < ps.length by omega))
      have hn := hQ.2.1.1
      have hmid := hp.2.2 h0
      have ej : ow (ps.getD i (0, 0, 0)).2.1 = nI j := by rw [hj]; rfl
      rw [if_neg (by rw [ej, nIlt (by omega) (by omega)]; omega)]
      refine c_173 hQ hb hab (by omega) h0 hkey ⟨_, rfl, ?_⟩
      by_cases h2 : sdP (okF D (f s) key) rs s bef (ps.getD i (0, 0, 0)) = 2
      · rw [h2, if_pos (show sIx 2 < nI 0 by decide)]
        exact next (by rw [fstI_drop (by omega), if_neg (fun z => z.2 h2)])
      · rw [if_pos ⟨h0, h2⟩] at k
        have hle : sdP (okF D (f s) key) rs s bef (ps.getD i (0, 0, 0)) = 0 ∨ sdP (okF D (f s) key) rs s bef (ps.getD i (0, 0, 0)) = 1 := by
          unfold sdP at h2 ⊢
          split
          · exact Or.inl rfl
          · split
            · exact Or.inr rfl
            · next z1 z2 => rw [if_neg z1, if_neg z2] at h2; exact absurd rfl h2
        have hneg : ¬ sIx (sdP (okF D (f s) key) rs s bef (ps.getD i (0, 0, 0))) < nI 0 := by
          rcases hle with z | z <;> rw [z] <;> decide
        rw [if_neg hneg]
        exact k
theorem c_172 {key : Nat} (hQ : RQ m rs f D P ps) (hb : befOK s bef) (hab : (s = 1 ∨ bef ≠ 0) → f 0 ≠ f 1) (hkey : key = 0 ∨ key = 1) (k : K (some (.int (oIx (fstI (okF D (f s) key) rs s bef ps)))) m) : WP (d + 2) 172 [.ref 42, .int (nI (f s)), .int (nI (stR (f 0) (f 1) bef)), .int (nI key)] m K := by
  refine sp_172 _ _ _ ?_
  refine lp_172 hQ hb hab hkey ps.length 0 (by omega) ?_
  rw [List.drop_zero]
  have e : (fstI (okF D (f s) key) rs s bef ps).map (fun j => 0 + j) = fstI (okF D (f s) key) rs s bef ps := by
    cases fstI (okF D (f s) key) rs s bef ps with
    | none => rfl
    | some j => show some (0 + j) = some j; rw [Nat.zero_add]
  rw [e]; exact k
/-- the plan's kind and the part that it uses -/
def kdR (D : Db) (t : Nat) (rs : List Op) (s bef : Nat) (ps : List Pt) : Nat := match fstI isKey rs s bef ps with | some _ => 3 | none => (match fstI (fun c => ixd D t c) rs s bef ps with | some _ => 2 | none => 1)
def usR (D : Db) (t : Nat) (rs : List Op) (s bef : Nat) (ps : List Pt) : Option Nat := match fstI isKey rs s bef ps with | some i => some i | none => fstI (fun c => ixd D t c) rs s bef ps
theorem c_174 (hQ : RQ m rs f D P ps) (hb : befOK s bef) (hab : (s = 1 ∨ bef ≠ 0) → f 0 ≠ f 1) (k : ∀ m', Fq [58] [] m m' → m'.F 42 58 = oIx (usR D (f s) rs s bef ps) → K (some (.int (nI (kdR D (f s) rs s bef ps)))) m') : WP (d + 3) 174 [.ref 42, .int (nI (f s)), .int (nI (stR (f 0) (f 1) bef))] m K := by
  have e1 : okF D (f s) 1 = isKey := rfl
  have e0 : okF D (f s) 0 = fun c => ixd D (f s) c := rfl
  have hlen := hQ.2.2.2.2.2.2.2.2
  have hpos : ∀ (okk : Nat → Bool) i, fstI okk rs s bef ps = some i → ¬ nI i < nI 0 := by
    intro okk i h
    have := ((fstP_I (ok := okk) (rs := rs) (s := s) (bef := bef) ps).2 i h).1
    rw [nIlt (by omega) (by omega)]; omega
  refine sp_174 _ _ ?_
  refine c_172 (key := 1) hQ hb hab (Or.inr rfl) ⟨_, rfl, ?_⟩
  rw [e1]
  unfold kdR usR at k
  cases h1 : fstI isKey rs s bef ps with
  | some i =>
    rw [h1] at k
    have hp := hpos isKey i h1
    rw [if_neg (show ¬ oIx (some i) < nI 0 from hp)]
    exact k _ (Fq.uF (Fq.refl _ _ _) (by decide) _) rfl
  | none =>
    rw [h1] at k
    rw [if_pos (show oIx none < nI 0 by decide)]
    have f1 : Fq [58] [] m (m.uF 42 58 (oIx none)) := Fq.uF (Fq.refl _ _ _) (by decide) _
    refine c_172 (key := 0) (hQ.fq f1 (by decide) (by decide)) hb hab (Or.inl rfl) ⟨_, rfl, ?_⟩
    rw [e0]
    cases h2 : fstI (fun c => ixd D (f s) c) rs s bef ps with
    | some i =>
      rw [h2] at k
      have hp := hpos _ i h2
      rw [if_neg (show ¬ oIx (some i) < nI 0 from hp)]
      exact k _ (Fq.uF f1 (by decide) _) rfl
    | none =>
      rw [h2] at k
      rw [if_pos (show oIx none < nI 0 by decide)]
      exact k _ (Fq.uF f1 (by decide) _) rfl
end P79
