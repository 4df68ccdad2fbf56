/-! choose() of the reference: all pairs -/
section L99
variable {d nm : Nat} {m m0 m1 : Mm} {K : Option Value → Mm → Prop} {D : Db} {e : St} {P : Nat → List (List Int64)} {ps : List Pt} {t r q : Nat}
theorem pre_snoc (D : Db) (e : St) (P : Nat → List (List Int64)) (r q : Nat) : (preP D e r (q + 1)).filter (whP D e P) = if whP D e P (r, q) = true then (preP D e r q).filter (whP D e P) ++ [(r, q)] else (preP D e r q).filter (whP D e P) := by
  rw [preP_q, List.filter_append]
  by_cases hw : whP D e P (r, q) = true
  · rw [if_pos hw, List.filter_cons_of_pos hw, List.filter_nil]
  · rw [if_neg hw, List.filter_cons_of_neg hw, List.filter_nil, List.append_nil]
theorem lp_184b (hWF : WF e) (hI : DI D) (ha : e.1.2.1.all (okSb D e) = true) (hab : e.2.1 6 ≠ 0 → tq e 0 ≠ tq e 1) (hr : r < (rw_ D (tq e 0)).length) (k5 : 60 < (FL D e P).length → ∀ m', Fq [48] SCh m0 m' → K (some (.int (nI 5))) m') : ∀ (n q : Nat) (m : Mm), q + n = endP D e → RQ m (rs_ D e) (tq e) D P ps → RS m e.2 nm → RL m D e P ((preP D e r q).filter (whP D e P)) → TD0 m ((preP D e r q).filter (whP D e P)).length → ((preP D e r q).filter (whP D e P)).length ≤ 60 → Fq [48] SCh m0 m → (∀ m', RL m' D e P ((preP D e (r + 1) 0).filter (whP D e P)) → TD0 m' ((preP D e (r + 1) 0).filter (whP D e P)).length → ((preP D e (r + 1) 0).filter (whP D e P)).length ≤ 60 → Fq [48] SCh m0 m' → WH (d + 3) 184 33 [(0, .ref 42), (1, .int (nI (tq e 0))), (2, .int (uX e)), (3, .int (nI r + nI 1))] [] m' K) → WH (d + 3) 184 62 [(0, .ref 42), (1, .int (nI (tq e 0))), (2, .int (uX e)), (3, .int (nI r)), (4, .int (nI (endP D e))), (5, .int (nI q))] [] m K := by
  intro n
  induction n with
  | zero =>
    intro q m hq hQ hS hR hT hl hF k
    have hf := hQ.2.2.2.2.1
    have h20 := (hI _ hf.2.1).2.1
    have he20 : endP D e ≤ 20 := by unfold endP; split <;> omega
    refine sg_184_62 _ _ _ _ _ ?_
    rw [if_pos (by rw [nIle (by omega) (by omega)]; omega)]
    rw [preP_r, ← show q = endP D e by omega] at k
    exact k m hR hT hl hF
  | succ n ih =>
    intro q m hq hQ hS hR hT hl hF k
    have hf := hQ.2.2.2.2.1
    have h20 := (hI _ hf.2.1).2.1
    have h20' := (hI _ hf.1).2.1
    have he20 : endP D e ≤ 20 := by unfold endP; split <;> omega
    have l60 : (m.A 60).length = 3 := hQ.1.a (by decide) rfl
    have hp : okPr D e (r, q) := end_ok hr (show q < endP D e by omega)
    have esn := pre_snoc D e P r q
    have hf0 := hf.1
    have hf1 := hf.2.1
    -- after the rows are set
    have go : ∀ m1, Fq [48] SCh m m1 → (m1.A 60).getD (tq e 0) 0 = nI r → (e.2.1 6 ≠ 0 → (m1.A 60).getD (tq e 1) 0 = nI q) → RL m1 D e P ((preP D e r q).filter (whP D e P)) → TD0 m1 ((preP D e r q).filter (whP D e P)).length → WH (d + 3) 184 88 [(0, .ref 42), (1, .int (nI (tq e 0))), (2, .int (uX e)), (3, .int (nI r)), (4, .int (nI (endP D e))), (5, .int (nI q))] [] m1 K := by
      intro m1 f1 g0 g1 hR1 hT1
      refine t_184 (d := d) (x1 := nI (tq e 0)) (x2 := uX e) (x4 := nI (endP D e)) hWF hI ha (hQ.fq f1 (by decide) (by decide)) (hS.fq f1 (by decide) (by decide)) hR1 hT1 hl hp g0 g1 (fun h60 hw m' f2 => k5 ?_ m' ((hF.trans f1).trans f2)) (fun m' a1 a2 f2 hlt => ?_)
      · have hsub := ((preP_sub (e := e) (D := D) (r := r) (q := q + 1) hr (by omega)).filter (whP D e P)).length_le
        have e1 : ((preP D e r (q + 1)).filter (whP D e P)).length = 61 := by
          rw [esn, if_pos hw, List.length_append, h60]; rfl
        rw [e1] at hsub
        show 60 < (FL D e P).length
        unfold FL
        omega
      · rw [← esn] at a1 a2
        rw [nI_add]
        have f3 := f1.trans f2
        refine ih (q + 1) m' (by omega) (hQ.fq f3 (by decide) (by decide)) (hS.fq f3 (by decide) (by decide)) a1 a2 ?_ (hF.trans f3) k
        rw [esn]
        by_cases hw : whP D e P (r, q) = true
        · rw [if_pos hw, List.length_append]
          have := hlt hw
          show _ + 1 ≤ 60
          omega
        · rw [if_neg hw]; exact hl
    refine sg_184_62 _ _ _ _ _ ?_
    rw [if_neg (by rw [nIle (by omega) (by omega)]; omega), l60, ix_nI (by omega)]
    refine ⟨ok_nI (by omega) (by decide), ?_⟩
    by_cases hz : e.2.1 6 = 0
    · have hu : uX e = -1 := if_pos hz
      rw [if_pos (by rw [hu]; decide)]
      have f1 : Fq [48] SCh m (m.uA 60 ((m.A 60).set (tq e 0) (nI r))) := Fq.uA (Fq.refl _ _ _) (by decide) (by rw [List.length_set])
      refine go _ f1 ?_ (fun z => absurd hz z) hR hT
      rw [mA_A, if_pos rfl, getD_set _ _ _ _ _ (by omega), if_pos rfl]
    · have hu : uX e = nI (tq e 1) := if_neg hz
      have hne := hab hz
      rw [if_neg (by rw [hu, nIlt (by omega) (by decide)]; omega), List.length_set, l60]
      refine ⟨by rw [hu]; exact ok_nI (by omega) (by decide), ?_⟩
      have f1 : Fq [48] SCh m ((m.uA 60 ((m.A 60).set (tq e 0) (nI r))).uA 60 (((m.A 60).set (tq e 0) (nI r)).set (ix (uX e)) (nI q))) := Fq.uA (Fq.uA (Fq.refl _ _ _) (by decide) (by rw [List.length_set])) (by decide) (by rw [List.length_set]; rfl)
      refine go _ f1 ?_ (fun _ => ?_) hR hT
      · rw [mA_A, if_pos rfl, hu, ix_nI (by omega), getD_set _ _ _ _ _ (by rw [List.length_set]; omega), if_neg hne, getD_set _ _ _ _ _ (by omega), if_pos rfl]
      · rw [mA_A, if_pos rfl, hu, ix_nI (by omega), getD_set _ _ _ _ _ (by rw [List.length_set]; omega), if_pos rfl]
theorem lp_184a (hWF : WF e) (hI : DI D) (ha : e.1.2.1.all (okSb D e) = true) (hab : e.2.1 6 ≠ 0 → tq e 0 ≠ tq e 1) (hQ0 : RQ m0 (rs_ D e) (tq e) D P ps) (hS0 : RS m0 e.2 nm) (k5 : 60 < (FL D e P).length → ∀ m', Fq [48] SCh m0 m' → K (some (.int (nI 5))) m') (k : ∀ m', RL m' D e P (FL D e P) → TD0 m' (FL D e P).length → (FL D e P).length ≤ 60 → Fq [48] SCh m0 m' → WH (d + 3) 184 199 [(0, .ref 42), (1, .int (nI (tq e 0))), (2, .int (uX e))] [] (m'.uF 42 54 (m'.F 42 22)) K) : ∀ (n r : Nat) (m : Mm), r + n = (rw_ D (tq e 0)).length → RL m D e P ((preP D e r 0).filter (whP D e P)) → TD0 m ((preP D e r 0).filter (whP D e P)).length → ((preP D e r 0).filter (whP D e P)).length ≤ 60 → Fq [48] SCh m0 m → WH (d + 3) 184 33 [(0, .ref 42), (1, .int (nI (tq e 0))), (2, .int (uX e)), (3, .int (nI r))] [] m K := by
  intro n
  induction n with
  | zero =>
    intro r m hr hR hT hl hF
    have hQ := hQ0.fq hF (by decide) (by decide)
    have hS := hS0.fq hF (by decide) (by decide)
    have hf := hQ.2.2.2.2.1
    have hf0 := hf.1
    have hD := hQ.2.2.2.2.2.1
    have h20' := (hI _ hf.1).2.1
    have l7 : (m.A 57).length = 3 := hQ.1.a (by decide) rfl
    refine sg_184_33 _ _ _ ?_
    rw [l7, ix_nI (by omega), (hD _ hf.1).2.1, if_pos (by rw [nIle (by omega) (by omega)]; omega)]
    refine ⟨ok_nI (by omega) (by decide), ?_⟩
    have ef : (preP D e r 0).filter (whP D e P) = FL D e P := by
      unfold preP FL rowP
      rw [show r = (rw_ D (tq e 0)).length by omega]
      show List.filter _ (_ ++ []) = _
      rw [List.append_nil]
    rw [ef] at hR hT hl
    exact k m hR hT hl hF
  | succ n ih =>
    intro r m hr hR hT hl hF
    have hQ := hQ0.fq hF (by decide) (by decide)
    have hS := hS0.fq hF (by decide) (by decide)
    have hf := hQ.2.2.2.2.1
    have hf0 := hf.1
    have hf1 := hf.2.1
    have hD := hQ.2.2.2.2.2.1
    have h20' := (hI _ hf.1).2.1
    have l7 : (m.A 57).length = 3 := hQ.1.a (by decide) rfl
    have go := lp_184b (d := d) (m0 := m0) (K := K) (ps := ps) (nm := nm) hWF hI ha hab (r := r) (by omega) k5 (endP D e) 0 m (by omega) hQ hS hR hT hl hF (fun m' a1 a2 a3 a4 => by
      rw [nI_add]
      exact ih (r + 1) m' (by omega) a1 a2 a3 a4)
    refine sg_184_33 _ _ _ ?_
    rw [l7, ix_nI (by omega), (hD _ hf.1).2.1, if_neg (by rw [nIle (by omega) (by omega)]; omega)]
    refine ⟨ok_nI (by omega) (by decide), ?_⟩
    by_cases hz : e.2.1 6 = 0
    · have hu : uX e = -1 := if_pos hz
      have he : endP D e = 1 := if_pos hz
      rw [if_neg (by rw [hu]; decide)]
      rw [he] at go
      exact go
    · have hu : uX e = nI (tq e 1) := if_neg hz
      have he : endP D e = (rw_ D (tq e 1)).length := if_neg hz
      have go' := go
      rw [he] at go'
      rw [if_pos (by rw [hu, nIle (by decide) (by omega)]; omega)]
      refine ⟨by rw [hu]; exact ok_nI (by omega) (by decide), ?_⟩
      have e57 : (m.A 57).getD (ix (uX e)) 0 = nI (rw_ D (tq e 1)).length := by rw [hu, ix_nI (by omega)]; exact (hD _ hf.2.1).2.1
      rw [e57]
      exact go'
end L99
