/-! THE REFERENCE: what a condition holds; its parts; unhold, keep, complete -/
def RH (m : Mm) (H : List Nat) : Prop := m.F 42 13 = nI H.length ∧ ∀ i, i < H.length → (m.A 49).getD i 0 = nI (H.getD i 0) ∧ H.getD i 0 < 100
def RP (m : Mm) (ps : List Pt) : Prop := m.F 42 33 = nI ps.length ∧ ∀ i, i < ps.length → (m.A 53).getD i 0 = nI (ps.getD i (0, 0, 0)).1 ∧ (m.A 55).getD i 0 = ow (ps.getD i (0, 0, 0)).2.1 ∧ (m.A 54).getD i 0 = nI (ps.getD i (0, 0, 0)).2.2
def GW : List Nat := [5, 6, 7, 10, 12, 13, 15, 16, 33, 34, 38, 39]
def SWr : List Nat := [46, 47, 48, 49, 53, 54, 55]
section R50
variable {d N b o : Nat} {m m0 m1 : Mm} {K : Option Value → Mm → Prop} {q : List Tk} {cs : List Op} {H : List Nat} {ps : List Pt}
theorem RH.fq {G S : List Nat} (h : RH m H) (k : Fq G S m m1) (h1 : 13 ∉ G) (h2 : 49 ∉ (42 :: S)) : RH m1 H := by
  obtain ⟨a, b⟩ := h
  refine ⟨by rw [k.f h1]; exact a, ?_⟩
  rw [k.a h2]; exact b
theorem RP.fq {G S : List Nat} (h : RP m ps) (k : Fq G S m m1) (h1 : 33 ∉ G) (h2 : 53 ∉ (42 :: S)) (h3 : 54 ∉ (42 :: S)) (h4 : 55 ∉ (42 :: S)) : RP m1 ps := by
  obtain ⟨a, b⟩ := h
  refine ⟨by rw [k.f h1]; exact a, ?_⟩
  rw [k.a h2, k.a h3, k.a h4]; exact b
theorem RH.pop {x : Nat} (h : RH m (H ++ [x])) : RH (m.uF 42 13 (nI H.length)) H := by
  refine ⟨?_, fun i hi => ?_⟩
  · rw [mF_F, if_pos ⟨rfl, rfl⟩]
  · have := h.2 i (by rw [List.length_append]; omega)
    rw [getD_snoc2, if_neg (by omega)] at this
    exact this
theorem RH.last {x : Nat} (h : RH m (H ++ [x])) : (m.A 49).getD H.length 0 = nI x ∧ x < 100 := by
  have := h.2 H.length (by rw [List.length_append]; exact Nat.lt_succ_self _)
  rw [getD_snoc2, if_pos rfl] at this
  exact this
theorem RH.n13 {x : Nat} (h : RH m (H ++ [x])) (hl : (H ++ [x]).length ≤ 90) : m.F 42 13 = nI (H.length + 1) ∧ m.F 42 13 - nI 1 = nI H.length := by
  have e : m.F 42 13 = nI (H.length + 1) := by rw [h.1, List.length_append]; rfl
  exact ⟨e, by rw [e, nIsub (by omega), Nat.add_sub_cancel]⟩
theorem rop_unh {x : Nat} (h : 13 ≤ x ∧ x ≤ 15) : rop (opr (unh x)).1 = x ∧ rar (opr (unh x)) = 0 := by
  rcases (by omega : x = 13 ∨ x = 14 ∨ x = 15) with rfl | rfl | rfl <;> exact ⟨rfl, rfl⟩
theorem c_152 {x : Nat} (hL : Len m) (hC : RC m cs) (hR : RH m (H ++ [x])) (hl : cs.length + (H ++ [x]).length ≤ 90) (hx : 13 ≤ x ∧ x ≤ 15) (k : ∀ m', RC m' (cs ++ [opr (unh x)]) → RH m' H → Fq [7, 13] [46, 47] m m' → K none m') : WP (d + 1) 152 [.ref 42] m K := by
  have l1 : (m.A 49).length = 101 := hL.a (by decide) rfl
  have hh := hR.n13 (by omega)
  rw [List.length_append, List.length_cons, List.length_nil] at hl
  refine sp_152 ?_
  rw [hh.2, l1, ix_nI (by omega), hR.last.1]
  refine ⟨ok_nI (by omega) (by decide), ?_⟩
  have f1 : Fq [7, 13] [46, 47] m (m.uF 42 13 (nI H.length)) := Fq.uF (Fq.refl _ _ m) (by decide) _
  have hu := rop_unh hx
  refine c_emit (x := opr (unh x)) (hL.fq f1) (hC.fq (Fq.uF (Fq.refl [13] [] m) (by decide) _) (by decide) (by decide) (by decide)) (by omega) (by rw [hu.1]) (by rw [hu.2]) (fun m2 hC2 f2 => ⟨rfl, k m2 hC2 ?_ ?_⟩)
  · exact hR.pop.fq f2 (by decide) (by decide)
  · exact f1.trans (f2.mono (by decide) (by decide))
/-- when something is bad: what is held goes, whatever it is -/
theorem c_152j {c h : Nat} (hL : Len m) (h7 : m.F 42 7 = nI c) (h13 : m.F 42 13 = nI (h + 1)) (hl : c + h ≤ 90) (k : ∀ m', m'.F 42 7 = nI (c + 1) → m'.F 42 13 = nI h → Fq [7, 13] [46, 47] m m' → K none m') : WP (d + 1) 152 [.ref 42] m K := by
  have l1 : (m.A 49).length = 101 := hL.a (by decide) rfl
  have e : m.F 42 13 - nI 1 = nI h := by rw [h13, nIsub (by omega), Nat.add_sub_cancel]
  refine sp_152 ?_
  rw [e, l1]
  refine ⟨ok_nI (by omega) (by decide), ?_⟩
  have f1 : Fq [7, 13] [46, 47] m (m.uF 42 13 (nI h)) := Fq.uF (Fq.refl _ _ m) (by decide) _
  refine c_emitJ (c := c) (hL.fq f1) h7 (by omega) (fun m2 a1 a2 a3 f2 => ⟨rfl, k m2 a1 ?_ ?_⟩)
  · rw [f2.f (by decide)]; rfl
  · exact f1.trans (f2.mono (by decide) (by decide))
theorem c_153 {x : Nat} (hL : Len m) (hR : RH m H) (hl : H.length ≤ 90) (hx : x < 100) (k : ∀ m', RH m' (H ++ [x]) → Fq [13] [49] m m' → K none m') : WP d 153 [.ref 42, .int (nI x)] m K := by
  have l1 : (m.A 49).length = 101 := hL.a (by decide) rfl
  refine sp_153 _ ?_
  rw [hR.1, l1, ix_nI (by omega), nI_add]
  refine ⟨ok_nI (by omega) (by decide), k _ ⟨?_, fun i hi => ?_⟩ ?_⟩
  · rw [mF_F, if_pos ⟨rfl, rfl⟩, List.length_append]; rfl
  · rw [List.length_append, List.length_cons, List.length_nil] at hi
    show ((m.A 49).set H.length (nI x)).getD i 0 = _ ∧ _
    rw [getD_set _ _ _ _ _ (by omega), getD_snoc2]
    by_cases h1 : i = H.length
    · rw [if_pos h1, if_pos h1]; exact ⟨rfl, hx⟩
    · rw [if_neg h1, if_neg h1]; exact hR.2 i (by omega)
  · refine Fq.uF (Fq.uA (Fq.refl _ _ m) (by decide) ?_) (by decide) _
    rw [List.length_set]
theorem nsh_le (W : List Nat) : nsh W ≤ W.length := List.length_filter_le _ _
/-- a part is noted where no nest is left -/
theorem c_154e {bg md : Nat} (hL : Len m) (hC : RC m cs) (hR : RH m H) (hP : RP m ps) (h15 : m.F 42 15 = nI (nsh H)) (hl : H.length ≤ 90) (hb : nsh H = 0 → m.F 42 38 = nI bg ∧ m.F 42 39 = ow md ∧ ps.length < 40) (k : ∀ m', RC m' cs → RH m' H → m'.F 42 15 = nI (nsh H) → RP m' (psA H ps bg md cs.length) → Fq [33] [53, 54, 55] m m' → K none m') : (if (m.F 42 15) = (nI 0) then ok (m.A 53).length (m.F 42 33) ∧ ok (m.A 54).length (m.F 42 33) ∧ ok (m.A 55).length (m.F 42 33) ∧ K none ((((m.uA 53 ((m.A 53).set (ix (m.F 42 33)) (m.F 42 38))).uA 54 ((m.A 54).set (ix (m.F 42 33)) (m.F 42 7))).uA 55 ((m.A 55).set (ix (m.F 42 33)) (m.F 42 39))).uF 42 33 ((m.F 42 33) + (nI 1))) else K none m) := by
  have l1 : (m.A 53).length = 40 := hL.a (by decide) rfl
  have l2 : (m.A 54).length = 40 := hL.a (by decide) rfl
  have l3 : (m.A 55).length = 40 := hL.a (by decide) rfl
  have hns := nsh_le H
  rw [h15]
  by_cases h0 : nsh H = 0
  · obtain ⟨h38, h39, hp⟩ := hb h0
    rw [if_pos (by rw [h0]), h38, h39, hC.1, hP.1, l1, l2, l3, ix_nI (by omega), nI_add]
    have ho : ok 40 (nI ps.length) := ok_nI (by omega) (by decide)
    refine ⟨ho, ho, ho, ?_⟩
    have f1 : Fq [33] [53, 54, 55] m ((((m.uA 53 ((m.A 53).set ps.length (nI bg))).uA 54 ((m.A 54).set ps.length (nI cs.length))).uA 55 ((m.A 55).set ps.length (ow md))).uF 42 33 (nI (ps.length + 1))) := by
      refine Fq.uF (Fq.uA (Fq.uA (Fq.uA (Fq.refl _ _ m) (by decide) ?_) (by decide) ?_) (by decide) ?_) (by decide) _
      · rw [List.length_set]
      · rw [List.length_set]; rfl
      · rw [List.length_set]; rfl
    refine k _ (hC.fq f1 (by decide) (by decide) (by decide)) (hR.fq f1 (by decide) (by decide)) (by rw [f1.f (by decide)]; exact h15) ?_ f1
    unfold psA
    rw [if_pos h0]
    refine ⟨?_, fun i hi => ?_⟩
    · rw [List.length_append]; rfl
    · rw [List.length_append, List.length_cons, List.length_nil] at hi
      show ((m.A 53).set ps.length (nI bg)).getD i 0 = _ ∧ ((m.A 55).set ps.length (ow md)).getD i 0 = _ ∧ ((m.A 54).set ps.length (nI cs.length)).getD i 0 = _
      rw [getD_set _ _ _ _ _ (by omega), getD_set _ _ _ _ _ (by omega), getD_set _ _ _ _ _ (by omega), getD_snoc]
      by_cases hi2 : i = ps.length
      · rw [if_pos hi2, if_pos hi2, if_pos hi2, if_pos hi2]
        exact ⟨rfl, rfl, rfl⟩
      · rw [if_neg hi2, if_neg hi2, if_neg hi2, if_neg hi2]
        exact hP.2 i (by omega)
  · have c1 : ¬ nI (nsh H) = nI 0 := by rw [nIeq (by omega) (by omega)]; exact h0
    rw [if_neg c1]
    refine k m hC hR h15 ?_ (Fq.refl _ _ m)
    unfold psA
    rw [if_neg h0]
    exact hP
theorem c_154 {bg md : Nat} (hH : topW H ≠ 13) : ∀ (k0 : Nat) (m : Mm) (cs : List Op), Len m → RC m cs → RH m (H ++ List.replicate k0 13) → RP m ps → m.F 42 15 = nI (nsh (H ++ List.replicate k0 13)) → cs.length + (H ++ List.replicate k0 13).length ≤ 90 → (nsh H = 0 → m.F 42 38 = nI bg ∧ m.F 42 39 = ow md ∧ ps.length < 40) → (∀ m', RC m' (cs ++ List.replicate k0 (opr 18)) → RH m' H → m'.F 42 15 = nI (nsh H) → RP m' (psA H ps bg md (cs ++ List.replicate k0 (opr 18)).length) → Fq [7, 13, 15, 33] [46, 47, 53, 54, 55] m m' → K none m') → WH (d + 2) 154 0 [(0, .ref 42)] [] m K := by
  intro k0
  induction k0 with
  | zero =>
    intro m cs hL hC hR hP h15 hl hb k
    rw [List.replicate_zero, List.append_nil] at hR h15 hl
    have l1 : (m.A 49).length = 101 := hL.a (by decide) rfl
    have fin := c_154e hL hC hR hP h15 (by omega) hb (fun m' a1 a2 a3 a4 f => k m' (by rw [List.replicate_zero, List.append_nil]; exact a1) a2 a3 (by rw [List.replicate_zero, List.append_nil]; exact a4) (f.mono (by decide) (by decide)))
    refine sg_154_0 ?_
    rcases List.eq_nil_or_concat H with e | ⟨V, x, e⟩
    · subst e
      rw [if_pos (by rw [hR.1]; decide)]
      exact fin
    · rw [List.concat_eq_append] at e
      subst e
      have hh := hR.n13 (by omega)
      have c1 : ¬ m.F 42 13 ≤ nI 0 := by
        rw [hh.1, nIle (by rw [List.length_append, List.length_cons, List.length_nil] at hl; omega) (by omega)]; omega
      rw [List.length_append, List.length_cons, List.length_nil] at hl
      rw [topW_snoc] at hH
      have hx := hR.last
      have c2 : ¬ nI x = nI 13 := by rw [nIeq (by omega) (by omega)]; exact hH
      rw [if_neg c1, hh.2, l1, ix_nI (by omega), hx.1, if_neg c2]
      exact ⟨ok_nI (by omega) (by decide), fin⟩
  | succ k0 ih =>
    intro m cs hL hC hR hP h15 hl hb k
    have e1 : H ++ List.replicate (k0 + 1) 13 = (H ++ List.replicate k0 13) ++ [13] := by
      rw [List.append_assoc, List.replicate_succ']
    rw [e1] at hR h15 hl
    have l1 : (m.A 49).length = 101 := hL.a (by decide) rfl
    have hh := hR.n13 (by omega)
    have hl2 := hl
    rw [List.length_append (bs := [13]), List.length_cons, List.length_nil] at hl2
    have c1 : ¬ m.F 42 13 ≤ nI 0 := by
      rw [hh.1, nIle (by omega) (by omega)]; omega
    refine sg_154_0 ?_
    rw [if_neg c1, hh.2, l1, ix_nI (by omega), hR.last.1, if_pos rfl]
    refine ⟨ok_nI (by omega) (by decide), ?_⟩
    refine c_152 hL hC hR hl (by omega) (fun m2 hC2 hR2 f2 => ⟨rfl, ?_⟩)
    have e15 : m2.F 42 15 - nI 1 = nI (nsh (H ++ List.replicate k0 13)) := by
      rw [f2.f (by decide), h15, nsh_app _ [13]]
      show nI (_ + 1) - nI 1 = _
      rw [nIsub (by omega), Nat.add_sub_cancel]
    rw [e15]
    have f3 : Fq [15] [] m2 (m2.uF 42 15 (nI (nsh (H ++ List.replicate k0 13)))) := Fq.uF (Fq.refl _ _ _) (by decide) _
    have f4 : Fq [7, 13, 15, 33] [46, 47, 53, 54, 55] m (m2.uF 42 15 (nI (nsh (H ++ List.replicate k0 13)))) := (f2.mono (by decide) (by decide)).trans (f3.mono (by decide) (by decide))
    refine ih _ _ (hL.fq f4) (hC2.fq f3 (by decide) (by decide) (by decide)) (hR2.fq f3 (by decide) (by decide)) ((hP.fq f2 (by decide) (by decide) (by decide) (by decide)).fq f3 (by decide) (by decide) (by decide) (by decide)) rfl (by rw [List.length_append (bs := [opr (unh 13)]), List.length_cons, List.length_nil]; omega) (fun h0 => ?_) (fun m' a1 a2 a3 a4 f => k m' ?_ a2 a3 ?_ (f4.trans f))
    · obtain ⟨b1, b2, b3⟩ := hb h0
      exact ⟨by rw [f3.f (by decide), f2.f (by decide)]; exact b1, by rw [f3.f (by decide), f2.f (by decide)]; exact b2, b3⟩
    · rw [List.append_assoc] at a1
      exact a1
    · rw [List.append_assoc] at a4
      exact a4
end R50
