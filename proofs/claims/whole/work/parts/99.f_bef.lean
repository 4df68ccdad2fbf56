/-! before() of the reference -/
abbrev Pr : Type := Nat × Nat
def p1 (D : Db) (e : St) (P : Nat → List (List Int64)) (p : Pr) : Nat := sgm D P (tq e 0) p.1
def p2 (D : Db) (e : St) (P : Nat → List (List Int64)) (p : Pr) : Nat := if e.2.1 6 = 0 then 0 else sgm D P (tq e 1) p.2
def hP (D : Db) (e : St) (P : Nat → List (List Int64)) (p : Pr) : Hit := hitD D e (p1 D e P p) (p2 D e P p)
def okPr (D : Db) (e : St) (p : Pr) : Prop := p.1 < (rw_ D (tq e 0)).length ∧ (if e.2.1 6 = 0 then p.2 = 0 else p.2 < (rw_ D (tq e 1)).length)
def RL (m : Mm) (D : Db) (e : St) (P : Nat → List (List Int64)) (L : List Pr) : Prop := m.F 42 48 = nI L.length ∧ ∀ k, k < L.length → (m.A 64).getD k 0 = nI (L.getD k (0, 0)).1 ∧ (m.A 65).getD k 0 = nI (L.getD k (0, 0)).2 ∧ (m.B 66).getD k 0 = orV D e (p1 D e P (L.getD k (0, 0))) (p2 D e P (L.getD k (0, 0)))
def uX (e : St) : Int32 := if e.2.1 6 = 0 then -1 else nI (tq e 1)
section B99
variable {d nm : Nat} {m m0 m1 : Mm} {K : Option Value → Mm → Prop} {D : Db} {e : St} {P : Nat → List (List Int64)} {ps : List Pt} {t r q : Nat} {L : List Pr}
theorem orV_Nm (hWF : WF e) (hI : DI D) (h5 : tq e 0 < 3) (h6 : tq e 1 < 3) (ha : e.1.2.1.all (okSb D e) = true) {i j : Nat} (hR : inR D e i j) : Nm (orV D e i j) := by
  unfold orV
  by_cases h13 : e.2.1 13 = 0
  · rw [if_pos h13]; exact Or.inr ⟨0, rfl⟩
  · rw [if_neg h13]
    have ht := (hWF.2.2.2.1 h13).2.2
    have ht' : tyC false (seg (rs_ D e) (e.2.1 12) (e.2.1 13)) := by unfold rs_; rw [seg_map]; exact tyC_map ht
    have hE := envD_ok hI h5 h6 ha hWF.1 hR
    have := (val_ty (fun x hx h3 => hE x (seg_mem hx) h3) ht').1
    unfold VT at this
    rw [if_neg (by decide)] at this
    exact this
theorem okPr_in (hp0 : (P (tq e 0)).Perm (rw_ D (tq e 0))) (hp1 : (P (tq e 1)).Perm (rw_ D (tq e 1))) {p : Pr} (h : okPr D e p) : inZ D e (p1 D e P p) (p2 D e P p) := by
  unfold inZ p1 p2
  refine ⟨sgm_lt hp0 h.1, ?_⟩
  by_cases hz : e.2.1 6 = 0
  · rw [if_pos hz, if_pos hz]
  · rw [if_neg hz, if_neg hz]
    have := h.2
    rw [if_neg hz] at this
    exact sgm_lt hp1 this
theorem c_186 (hWF : WF e) (hI : DI D) (h5 : tq e 0 < 3) (h6 : tq e 1 < 3) (ha : e.1.2.1.all (okSb D e) = true) (h01 : 0 < wd D (tq e 0) ∧ 0 < wd D (tq e 1)) (hL : Len m) (hD : DR m D P) (h29 : m.F 42 29 = nI (e.2.1 14)) (hR : RL m D e P L) (hl60 : L.length ≤ 60) {a b : Nat} (hal : a < L.length) (hbl : b < L.length) (oa : okPr D e (L.getD a (0, 0))) (ob : okPr D e (L.getD b (0, 0))) (k : K (some (.int (bI (hlt (hP D e P (L.getD a (0, 0))) (hP D e P (L.getD b (0, 0))) = true)))) m) : WP d 186 [.ref 42, .int (nI a), .int (nI b), .int (nI (tq e 0)), .int (uX e)] m K := by
  obtain ⟨a1, a2, a3⟩ := hR.2 a hal
  obtain ⟨b1, b2, b3⟩ := hR.2 b hbl
  have hp0 := (hD _ h5).2.2.1
  have hp1 := (hD _ h6).2.2.1
  have ia := okPr_in hp0 hp1 oa
  have ib := okPr_in hp0 hp1 ob
  have na := orV_Nm hWF hI h5 h6 ha ia.r
  have nb := orV_Nm hWF hI h5 h6 ha ib.r
  have h14 := hWF.2.2.2.2.2.2.2.2.2.2.2.2.2
  have R0 := (hI _ h5).2.1
  have R1 := (hI _ h6).2.1
  have w0 := (hI _ h5).1
  have w1 := (hI _ h6).1
  have l64 : (m.A 64).length = 60 := hL.a (by decide) rfl
  have l65 : (m.A 65).length = 60 := hL.a (by decide) rfl
  have l66 : (m.B 66).length = 60 := hL.b (by decide) rfl
  have l58 : (m.B 58).length = 240 := hL.b (by decide) rfl
  generalize hpa : L.getD a (0, 0) = pa at *
  generalize hpb : L.getD b (0, 0) = pb at *
  have ka : (m.B 58).getD (80 * tq e 0 + 4 * pa.1) 0 = ((rw_ D (tq e 0)).getD (p1 D e P pa) []).getD 0 0 := by
    have := (hD _ h5).2.2.2.1 pa.1 oa.1 0 h01.1
    rw [Nat.add_zero] at this
    rw [this]
    unfold cl_ p1
    rw [sgm_get hp0 oa.1]
  have kb : (m.B 58).getD (80 * tq e 0 + 4 * pb.1) 0 = ((rw_ D (tq e 0)).getD (p1 D e P pb) []).getD 0 0 := by
    have := (hD _ h5).2.2.2.1 pb.1 ob.1 0 h01.1
    rw [Nat.add_zero] at this
    rw [this]
    unfold cl_ p1
    rw [sgm_get hp0 ob.1]
  have oa1 := oa.1
  have ob1 := ob.1
  have keq := key_eq hI h5 ia.1 ib.1
  have klt := key_lt hI h5 ia.1 ib.1
  have cge : ∀ x y, (nI 0 ≤ lg_cmp x y) = (y ≤ x) := fun x y => propext (lg_cmp_ge x y)
  have cle : ∀ x y, (lg_cmp x y ≤ nI 0) = (x ≤ y) := fun x y => propext (lg_cmp_le x y)
  have nle : ∀ x y : Int64, ¬ y ≤ x ↔ x < y := fun x y => by rw [Int64.le_iff_toInt_le, Int64.lt_iff_toInt_lt]; omega
  have ehl : hlt (hP D e P pa) (hP D e P pb) = if rkO (e.2.1 14) (orV D e (p1 D e P pa) (p2 D e P pa)) = rkO (e.2.1 14) (orV D e (p1 D e P pb) (p2 D e P pb)) then (if p1 D e P pa = p1 D e P pb then decide (p2 D e P pa < p2 D e P pb) else decide (p1 D e P pa < p1 D e P pb)) else decide (rkO (e.2.1 14) (orV D e (p1 D e P pa) (p2 D e P pa)) < rkO (e.2.1 14) (orV D e (p1 D e P pb) (p2 D e P pb))) := rfl
  have req := rk_eq h14 na nb
  have rlt := rk_lt h14 na nb
  rw [ehl] at k
  -- the tail that all four cases share
  have tail : ∀ X Y : Int64, X = upV (orV D e (p1 D e P pa) (p2 D e P pa)) → Y = upV (orV D e (p1 D e P pb) (p2 D e P pb)) → (if (lg_cmp X Y) = (nI 0) then ok (m.A 64).length (nI a) ∧ ok (m.B 58).length (((nI 80) * (nI (tq e 0))) + ((nI 4) * ((m.A 64).getD (ix (nI a)) 0))) ∧ ok (m.A 64).length (nI b) ∧ ok (m.B 58).length (((nI 80) * (nI (tq e 0))) + ((nI 4) * ((m.A 64).getD (ix (nI b)) 0))) ∧ (if (lg_cmp ((m.B 58).getD (ix (((nI 80) * (nI (tq e 0))) + ((nI 4) * ((m.A 64).getD (ix (nI a)) 0)))) 0) ((m.B 58).getD (ix (((nI 80) * (nI (tq e 0))) + ((nI 4) * ((m.A 64).getD (ix (nI b)) 0)))) 0)) = (nI 0) then (if (nI 0) ≤ (uX e) then ok (m.A 65).length (nI a) ∧ ok (m.B 58).length (((nI 80) * (uX e)) + ((nI 4) * ((m.A 65).getD (ix (nI a)) 0))) ∧ ok (m.A 65).length (nI b) ∧ ok (m.B 58).length (((nI 80) * (uX e)) + ((nI 4) * ((m.A 65).getD (ix (nI b)) 0))) ∧ (if (nI 0) ≤ (lg_cmp ((m.B 58).getD (ix (((nI 80) * (uX e)) + ((nI 4) * ((m.A 65).getD (ix (nI a)) 0)))) 0) ((m.B 58).getD (ix (((nI 80) * (uX e)) + ((nI 4) * ((m.A 65).getD (ix (nI b)) 0)))) 0)) then K (some (.int (nI 0))) m else K (some (.int (nI 1))) m) else WH d 186 152 [(9, .long ((m.B 58).getD (ix (((nI 80) * (nI (tq e 0))) + ((nI 4) * ((m.A 64).getD (ix (nI a)) 0)))) 0)), (11, .long ((m.B 58).getD (ix (((nI 80) * (nI (tq e 0))) + ((nI 4) * ((m.A 64).getD (ix (nI b)) 0)))) 0))] [] m K) else WH d 186 152 [(9, .long ((m.B 58).getD (ix (((nI 80) * (nI (tq e 0))) + ((nI 4) * ((m.A 64).getD (ix (nI a)) 0)))) 0)), (11, .long ((m.B 58).getD (ix (((nI 80) * (nI (tq e 0))) + ((nI 4) * ((m.A 64).getD (ix (nI b)) 0)))) 0))] [] m K) else (if (m.F 42 29) = (nI 0) then (if (nI 0) ≤ (lg_cmp X Y) then K (some (.int (nI 0))) m else K (some (.int (nI 1))) m) else (if (lg_cmp X Y) ≤ (nI 0) then K (some (.int (nI 0))) m else K (some (.int (nI 1))) m))) := by
    intro X Y hX hY
    subst hX hY
    by_cases hxy : upV (orV D e (p1 D e P pa) (p2 D e P pa)) = upV (orV D e (p1 D e P pb) (p2 D e P pb))
    · rw [if_pos ((lg_k _ _).mpr hxy)]
      rw [if_pos (req.mpr hxy)] at k
      rw [l64, l58, l65, ix_nI (by omega : a < 2 ^ 31), ix_nI (by omega : b < 2 ^ 31), a1, b1, a2, b2, pk_mul, pk_mul, pk_mul, nI_add, nI_add, ix_nI (by omega), ix_nI (by omega), ka, kb]
      refine ⟨ok_nI (by omega) (by decide), ok_nI (by omega) (by decide), ok_nI (by omega) (by decide), ok_nI (by omega) (by decide), ?_⟩
      have w152 : (p1 D e P pa = p1 D e P pb → p2 D e P pa = p2 D e P pb) → WH d 186 152 [(9, .long (((rw_ D (tq e 0)).getD (p1 D e P pa) []).getD 0 0)), (11, .long (((rw_ D (tq e 0)).getD (p1 D e P pb) []).getD 0 0))] [] m K := by
        intro hsame
        refine sg_186_152 _ _ ?_
        by_cases hlt : p1 D e P pa < p1 D e P pb
        · rw [if_neg (by rw [cge]; exact (nle _ _).mpr (klt.mpr hlt))]
          rw [if_neg (by omega), bI_t (decide_eq_true hlt)] at k
          exact k
        · rw [if_pos (by rw [cge]; exact Classical.not_not.mp (fun z => hlt (klt.mp ((nle _ _).mp z))))]
          by_cases he : p1 D e P pa = p1 D e P pb
          · rw [if_pos he, bI_f (by rw [decide_eq_false (by have := hsame he; omega)]; decide)] at k
            exact k
          · rw [if_neg he, bI_f (by rw [decide_eq_false hlt]; decide)] at k
            exact k
      by_cases hz : e.2.1 6 = 0
      · have hs2 : p2 D e P pa = p2 D e P pb := by unfold p2; rw [if_pos hz, if_pos hz]
        have hu : uX e = -1 := if_pos hz
        by_cases hk : ((rw_ D (tq e 0)).getD (p1 D e P pa) []).getD 0 0 = ((rw_ D (tq e 0)).getD (p1 D e P pb) []).getD 0 0
        · rw [if_pos ((lg_k _ _).mpr hk), hu, if_neg (by decide)]
          exact w152 (fun _ => hs2)
        · rw [if_neg (fun z => hk ((lg_k _ _).mp z))]
          exact w152 (fun _ => hs2)
      · have hu : uX e = nI (tq e 1) := if_neg hz
        have oa2 : pa.2 < (rw_ D (tq e 1)).length := by have := oa.2; rw [if_neg hz] at this; exact this
        have ob2 : pb.2 < (rw_ D (tq e 1)).length := by have := ob.2; rw [if_neg hz] at this; exact this
        by_cases hk : ((rw_ D (tq e 0)).getD (p1 D e P pa) []).getD 0 0 = ((rw_ D (tq e 0)).getD (p1 D e P pb) []).getD 0 0
        · have heq := keq.mp hk
          rw [if_pos heq] at k
          have ka2 : (m.B 58).getD (80 * tq e 1 + 4 * pa.2) 0 = ((rw_ D (tq e 1)).getD (p2 D e P pa) []).getD 0 0 := by
            have := (hD _ h6).2.2.2.1 pa.2 oa2 0 h01.2
            rw [Nat.add_zero] at this
            rw [this]
            unfold cl_ p2
            rw [if_neg hz, sgm_get hp1 oa2]
          have kb2 : (m.B 58).getD (80 * tq e 1 + 4 * pb.2) 0 = ((rw_ D (tq e 1)).getD (p2 D e P pb) []).getD 0 0 := by
            have := (hD _ h6).2.2.2.1 pb.2 ob2 0 h01.2
            rw [Nat.add_zero] at this
            rw [this]
            unfold cl_ p2
            rw [if_neg hz, sgm_get hp1 ob2]
          have ja : p2 D e P pa < (rw_ D (tq e 1)).length := by have := ia.2; rw [if_neg hz] at this; exact this
          have jb : p2 D e P pb < (rw_ D (tq e 1)).length := by have := ib.2; rw [if_neg hz] at this; exact this
          have klt2 := key_lt hI h6 ja jb
          rw [if_pos ((lg_k _ _).mpr hk), hu, if_pos (by rw [nIle (by decide) (by omega)]; omega), pk_mul, pk_mul, pk_mul, nI_add, nI_add, ix_nI (by omega), ix_nI (by omega), ka2, kb2]
          refine ⟨ok_nI (by omega) (by decide), ok_nI (by omega) (by decide), ok_nI (by omega) (by decide), ok_nI (by omega) (by decide), ?_⟩
          by_cases hlt : p2 D e P pa < p2 D e P pb
          · rw [if_neg (by rw [cge]; exact (nle _ _).mpr (klt2.mpr hlt))]
            rw [bI_t (decide_eq_true hlt)] at k
            exact k
          · rw [if_pos (by rw [cge]; exact Classical.not_not.mp (fun z => hlt (klt2.mp ((nle _ _).mp z))))]
            rw [bI_f (by rw [decide_eq_false hlt]; decide)] at k
            exact k
        · rw [if_neg (fun z => hk ((lg_k _ _).mp z))]
          exact w152 (fun z => absurd (keq.mpr z) hk)
    · rw [if_neg (fun z => hxy ((lg_k _ _).mp z)), h29]
      rw [if_neg (fun z => hxy (req.mp z))] at k
      by_cases hdn : e.2.1 14 = 0
      · rw [if_pos (by rw [hdn])]
        rw [if_pos hdn] at rlt
        by_cases hlt : upV (orV D e (p1 D e P pa) (p2 D e P pa)) < upV (orV D e (p1 D e P pb) (p2 D e P pb))
        · rw [if_neg (by rw [cge]; exact (nle _ _).mpr hlt)]
          rw [bI_t (decide_eq_true (rlt.mpr hlt))] at k
          exact k
        · rw [if_pos (by rw [cge]; exact Classical.not_not.mp (fun z => hlt ((nle _ _).mp z)))]
          rw [bI_f (by rw [decide_eq_false (fun z => hlt (rlt.mp z))]; decide)] at k
          exact k
      · rw [if_neg (by rw [nIeq (by omega) (by decide)]; exact hdn)]
        rw [if_neg hdn] at rlt
        by_cases hlt : upV (orV D e (p1 D e P pb) (p2 D e P pb)) < upV (orV D e (p1 D e P pa) (p2 D e P pa))
        · rw [if_neg (by rw [cle]; exact (nle _ _).mpr hlt)]
          rw [bI_t (decide_eq_true (rlt.mpr hlt))] at k
          exact k
        · rw [if_pos (by rw [cle]; exact Classical.not_not.mp (fun z => hlt ((nle _ _).mp z)))]
          rw [bI_f (by rw [decide_eq_false (fun z => hlt (rlt.mp z))]; decide)] at k
          exact k
  have oka : ok (m.B 66).length (nI a) := by rw [l66]; exact ok_nI (by omega) (by decide)
  have okb : ok (m.B 66).length (nI b) := by rw [l66]; exact ok_nI (by omega) (by decide)
  have ga : (m.B 66).getD (ix (nI a)) 0 = orV D e (p1 D e P pa) (p2 D e P pa) := by rw [ix_nI (by omega)]; exact a3
  have gb : (m.B 66).getD (ix (nI b)) 0 = orV D e (p1 D e P pb) (p2 D e P pb) := by rw [ix_nI (by omega)]; exact b3
  have eN : (-1099511627776 : Int64) = -NUL := by decide
  refine sp_186 _ _ _ _ ⟨oka, ?_⟩
  rw [ga, gb]
  by_cases hna : orV D e (p1 D e P pa) (p2 D e P pa) = NUL
  · have ua : upV (orV D e (p1 D e P pa) (p2 D e P pa)) = -1099511627776 := by unfold upV; rw [if_pos hna]; exact eN.symm
    rw [if_pos ((lg_nul _).mpr hna)]
    refine ⟨okb, ?_⟩
    by_cases hnb : orV D e (p1 D e P pb) (p2 D e P pb) = NUL
    · have ub : upV (orV D e (p1 D e P pb) (p2 D e P pb)) = -1099511627776 := by unfold upV; rw [if_pos hnb]; exact eN.symm
      rw [if_pos ((lg_nul _).mpr hnb)]
      exact tail _ _ ua.symm ub.symm
    · have ub : upV (orV D e (p1 D e P pb) (p2 D e P pb)) = orV D e (p1 D e P pb) (p2 D e P pb) := by unfold upV; rw [if_neg hnb]
      rw [if_neg (fun z => hnb ((lg_nul _).mp z))]
      exact ⟨okb, tail _ _ ua.symm ub.symm⟩
  · have ua : upV (orV D e (p1 D e P pa) (p2 D e P pa)) = orV D e (p1 D e P pa) (p2 D e P pa) := by unfold upV; rw [if_neg hna]
    rw [if_neg (fun z => hna ((lg_nul _).mp z))]
    refine ⟨oka, okb, ?_⟩
    by_cases hnb : orV D e (p1 D e P pb) (p2 D e P pb) = NUL
    · have ub : upV (orV D e (p1 D e P pb) (p2 D e P pb)) = -1099511627776 := by unfold upV; rw [if_pos hnb]; exact eN.symm
      rw [if_pos ((lg_nul _).mpr hnb)]
      exact tail _ _ ua.symm ub.symm
    · have ub : upV (orV D e (p1 D e P pb) (p2 D e P pb)) = orV D e (p1 D e P pb) (p2 D e P pb) := by unfold upV; rw [if_neg hnb]
      rw [if_neg (fun z => hnb ((lg_nul _).mp z))]
      exact ⟨okb, tail _ _ ua.symm ub.symm⟩
end B99
