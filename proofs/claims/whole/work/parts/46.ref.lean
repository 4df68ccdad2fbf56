/-! THE REFERENCE: operator() -/
def pp (c x : Nat) : Prop := x = 6 ∨ x = 7 ∨ (c ≤ 5 ∧ (x = 4 ∨ x = 5))
theorem rop_unr {x : Nat} (h : 4 ≤ x ∧ x ≤ 8) : rop (opr (unr x)).1 = x ∧ rar (opr (unr x)) = 0 := by
  rcases (by omega : x = 4 ∨ x = 5 ∨ x = 6 ∨ x = 7 ∨ x = 8) with rfl | rfl | rfl | rfl | rfl <;> exact ⟨rfl, rfl⟩
theorem mem_getD {W : List Nat} {x : Nat} (h : x ∈ W) : ∃ i, i < W.length ∧ W.getD i 0 = x := by
  obtain ⟨i, hi, e⟩ := List.mem_iff_getElem.mp h
  refine ⟨i, hi, ?_⟩
  rw [List.getD_eq_getElem?_getD, List.getElem?_eq_getElem hi, e]; rfl
theorem mem_of_getD {W : List Nat} {x i : Nat} (hi : i < W.length) (e : W.getD i 0 = x) : x ∈ W := by
  rw [List.getD_eq_getElem?_getD, List.getElem?_eq_getElem hi] at e
  exact List.mem_iff_getElem.mpr ⟨i, hi, e⟩
section R46
variable {d N b o : Nat} {m m0 m1 : Mm} {K : Option Value → Mm → Prop} {q : List Tk} {cs : List Op} {W : List Nat}
/-- one of what waits becomes a step -/
theorem c_pop {V : List Nat} {x : Nat} {K : Option Value → Mm → Prop} (hL : Len m) (hC : RC m cs) (hR : RW m (V ++ [x])) (hl : cs.length + (V ++ [x]).length ≤ 90) (hx : 4 ≤ x ∧ x ≤ 8) (k : ∀ m', RC m' (cs ++ [opr (unr x)]) → RW m' V → Fq [7, 10] [46, 47] m m' → K none m') : ok (m.A 48).length ((m.F 42 10) - (nI 1)) ∧ WP d 145 [.ref 42, .int ((m.A 48).getD (ix ((m.F 42 10) - (nI 1))) 0), .int (nI 0)] (m.uF 42 10 ((m.F 42 10) - (nI 1))) K := by
  have l1 : (m.A 48).length = 101 := hL.a (by decide) rfl
  rw [List.length_append, List.length_cons, List.length_nil] at hl
  have h10 : m.F 42 10 = nI (V.length + 1) := by rw [hR.1, List.length_append]; rfl
  have e : m.F 42 10 - nI 1 = nI V.length := by rw [h10, nIsub (by omega), Nat.add_sub_cancel]
  rw [e, l1, ix_nI (by omega), hR.last]
  refine ⟨ok_nI (by omega) (by decide), ?_⟩
  have f1 : Fq [7, 10] [46, 47] m (m.uF 42 10 (nI V.length)) := Fq.uF (Fq.refl _ _ m) (by decide) _
  have hu := rop_unr hx
  refine c_emit (x := opr (unr x)) (hL.fq f1) (hC.fq (Fq.uF (Fq.refl [10] [] m) (by decide) _) (by decide) (by decide) (by decide)) (by omega) (by rw [hu.1]) (by rw [hu.2]) (fun m2 hC2 f2 => k m2 hC2 ?_ ?_)
  · exact hR.pop.fq f2 (by decide) (by decide)
  · exact f1.trans (f2.mono (by decide) (by decide))
theorem c_60 {c : Nat} (hc : c < 100) (hL : Len m) (hR : RW m W) (hW : W.length ≤ 90) (k1 : pp c (topW W) → WH (d + 1) 150 99 [(0, .ref 42), (1, .int (nI c))] [] m K) (k2 : ¬ pp c (topW W) → WH (d + 1) 150 126 [(0, .ref 42), (1, .int (nI c))] [] m K) : WH (d + 1) 150 60 [(0, .ref 42), (1, .int (nI c))] [] m K := by
  have ht := hR.lt
  refine sg_150_60 _ ?_
  refine c_top hL hR hW ⟨_, rfl, ?_⟩
  simp (disch := omega) only [nIeq, nIlt]
  by_cases h6 : topW W = 6
  · rw [if_pos h6]; exact k1 (Or.inl h6)
  · rw [if_neg h6]
    refine c_top hL hR hW ⟨_, rfl, ?_⟩
    simp (disch := omega) only [nIeq]
    by_cases h7 : topW W = 7
    · rw [if_pos h7]; exact k1 (Or.inr (Or.inl h7))
    · rw [if_neg h7]
      by_cases h5 : 5 < c
      · rw [if_pos h5]; exact k2 (fun z => by rcases z with z | z | z <;> omega)
      · rw [if_neg h5]
        refine c_top hL hR hW ⟨_, rfl, ?_⟩
        simp (disch := omega) only [nIeq]
        by_cases h4 : topW W = 4
        · rw [if_pos h4]; exact k1 (Or.inr (Or.inr ⟨by omega, Or.inl h4⟩))
        · rw [if_neg h4]
          refine c_top hL hR hW ⟨_, rfl, ?_⟩
          simp (disch := omega) only [nIeq]
          by_cases h55 : topW W = 5
          · rw [if_pos h55]; exact k1 (Or.inr (Or.inr ⟨by omega, Or.inr h55⟩))
          · rw [if_neg h55]; exact k2 (fun z => by rcases z with z | z | z <;> omega)
theorem c_pops {c : Nat} {W0 : List Nat} (hc : c < 100) (h0 : ¬ pp c (topW W0)) : ∀ (n : Nat) (P : List Nat) (m : Mm) (cs : List Op), P.length = n → Len m → RC m cs → RW m (W0 ++ P) → cs.length + (W0 ++ P).length ≤ 90 → (∀ x ∈ P, pp c x) → (∀ m', RC m' (cs ++ em P) → RW m' W0 → Fq [7, 10] [46, 47] m m' → WH (d + 1) 150 126 [(0, .ref 42), (1, .int (nI c))] [] m' K) → WH (d + 1) 150 60 [(0, .ref 42), (1, .int (nI c))] [] m K := by
  intro n
  induction n with
  | zero =>
    intro P m cs hn hL hC hR hl hP k
    have e : P = [] := List.length_eq_zero_iff.mp hn
    subst e
    rw [List.append_nil] at hR hl
    refine c_60 hc hL hR (by omega) (fun z => absurd z h0) (fun _ => k m ?_ hR (Fq.refl _ _ m))
    rw [em_nil, List.append_nil]; exact hC
  | succ n ih =>
    intro P m cs hn hL hC hR hl hP k
    rcases List.eq_nil_or_concat P with e | ⟨V, x, e⟩
    · subst e; cases hn
    · rw [List.concat_eq_append] at e
      subst e
      rw [← List.append_assoc] at hR hl
      have hl2 := hl
      rw [List.length_append, List.length_cons, List.length_nil] at hn hl2
      have hx : pp c x := hP x (by simp)
      refine c_60 hc hL hR (by omega) (fun _ => ?_) (fun z => absurd (by rw [topW_snoc]; exact hx) z)
      refine sg_150_99 _ ?_
      refine c_pop hL hC hR hl (by rcases hx with z | z | z <;> omega) (fun m2 hC2 hR2 f2 => ⟨rfl, ?_⟩)
      refine ih V m2 _ (by omega) (hL.fq f2) hC2 hR2 (by rw [List.length_append, List.length_cons, List.length_nil]; omega) (fun y hy => hP y (by simp [hy])) (fun m3 a1 a2 a3 => k m3 ?_ a2 (f2.trans a3))
      rw [em_app, em_one, ← List.append_assoc]; exact a1
theorem c_150o {t : Tk} {r : List Tk} {W0 P : List Nat} (hX : RX m N b o (t :: r) cs (W0 ++ P) 0) (ht : isMul t.1 = true ∨ isAdd t.1 = true) (hP : ∀ x ∈ P, pp (rop t.1) x) (h0 : ¬ pp (rop t.1) (topW W0)) (k : ∀ m', RX m' N b o r (cs ++ em P) (W0 ++ [rop t.1]) 1 → Fq GX SXr m m' → K (some (.int (nI 1))) m') : WP (d + 1) 150 [.ref 42] m K := by
  obtain ⟨hL, hT0, hC, hR, hn, ho, hw, h60, hb, hbN, ho8⟩ := hX
  have hN := hT0.2.2.2.1
  rw [List.length_cons] at hb
  have htd : hd (t :: r) = t.1 := rfl
  have htt : t.1 = 42 ∨ t.1 = 47 ∨ t.1 = 43 ∨ t.1 = 45 := by
    rcases ht with z | z
    · rcases (isMul_iff _).mp z with z | z <;> omega
    · rcases (isAdd_iff _).mp z with z | z <;> omega
  have main : ∀ c, rop t.1 = c → c < 8 → 4 ≤ c → WH (d + 1) 150 60 [(0, .ref 42), (1, .int (nI c))] [] m K := by
    intro c hc h1 h2
    rw [hc] at h0 hP k
    refine c_pops (by omega) h0 _ P m cs rfl hL hC hR (by omega) hP (fun m2 hC2 hR2 f2 => ?_)
    refine sg_150_126 _ ?_
    have hL2 := hL.fq f2
    have l1 : (m2.A 48).length = 101 := hL2.a (by decide) rfl
    have hT2 := hT0.fq f2 (by decide) (by decide) (by decide) (by decide)
    have h5 := hT2.1
    rw [List.length_append] at hb
    simp (disch := omega) only [hR2.1, h5, nI_add, ix_nI, l1]
    refine ⟨ok_nI (by omega) (by decide), k _ ?_ ?_⟩
    · have g1 : Fq [10] [48] m2 ((m2.uA 48 ((m2.A 48).set W0.length (nI c))).uF 42 10 (nI (W0.length + 1))) := by
        refine Fq.uF (Fq.uA (Fq.refl _ _ m2) (by decide) ?_) (by decide) _
        rw [List.length_set]
      refine ⟨?_, ?_, ?_, ?_, ?_, ?_, rfl, ?_, ?_, hbN, ho8⟩
      · refine hL2.fq (G := GX) (S := SXr) (Fq.uF (Fq.uF (Fq.uF (Fq.uA (Fq.refl _ _ m2) (by decide) ?_) (by decide) _) (by decide) _) (by decide) _)
        rw [List.length_set]
      · exact (hT2.fq g1 (by decide) (by decide) (by decide) (by decide)).next.fq (Fq.uF (Fq.refl [16] [] _) (by decide) _) (by decide) (by decide) (by decide) (by decide)
      · exact hC2
      · have hP := hR2.push hL2 (by omega) (show c < 100 by omega)
        exact ⟨hP.1, hP.2⟩
      · have e1 : nst (W0 ++ [c]) = nst (W0 ++ P) := by
          rw [nst_app, nst_app]
          have e2 : nst [c] = 0 := by
            rcases (by omega : c = 4 ∨ c = 5 ∨ c = 6 ∨ c = 7) with rfl | rfl | rfl | rfl <;> rfl
          have e3 : nst P = 0 := by
            unfold nst
            rw [List.length_eq_zero_iff, List.filter_eq_nil_iff]
            intro x hx
            have := hP x hx
            simp only [Bool.or_eq_true, beq_iff_eq]
            rcases this with z | z | z <;> omega
          rw [e2, e3]
        rw [e1, ← hn, ← f2.f (f := 12) (by decide)]; rfl
      · rw [← ho, ← f2.f (f := 15) (by decide)]; rfl
      · rw [← h60, ← f2.f (f := 6) (by decide)]; rfl
      · simp only [List.length_append, em_len, List.length_cons, List.length_nil]; omega
    · refine Fq.uF (Fq.uF (Fq.uF (Fq.uA (f2.mono (by decide) (by decide)) (by decide) ?_) (by decide) _) (by decide) _) (by decide) _
      rw [List.length_set]
  refine sp_150 ?_
  refine c_isSign (c := 43) rfl hL hT0 ⟨_, rfl, ?_⟩
  simp only [bI_0]
  by_cases h43 : hd (t :: r) = 43
  · rw [if_neg (fun z => z h43)]; exact main 4 (by rw [show t.1 = 43 from h43]; rfl) (by decide) (by decide)
  · rw [if_pos h43]
    refine c_isSign (c := 45) rfl hL hT0 ⟨_, rfl, ?_⟩
    simp only [bI_0]
    by_cases h45 : hd (t :: r) = 45
    · rw [if_neg (fun z => z h45)]; exact main 5 (by rw [show t.1 = 45 from h45]; rfl) (by decide) (by decide)
    · rw [if_pos h45]
      refine c_isSign (c := 42) rfl hL hT0 ⟨_, rfl, ?_⟩
      simp only [bI_0]
      by_cases h42 : hd (t :: r) = 42
      · rw [if_neg (fun z => z h42)]; exact main 6 (by rw [show t.1 = 42 from h42]; rfl) (by decide) (by decide)
      · rw [if_pos h42]
        refine c_isSign (c := 47) rfl hL hT0 ⟨_, rfl, ?_⟩
        simp only [bI_0]
        have h47 : hd (t :: r) = 47 := by omega
        rw [if_neg (fun z => z h47)]; exact main 7 (by rw [show t.1 = 47 from h47]; rfl) (by decide) (by decide)
/-- is a ( among what waits? -/
theorem c_scan1 (hR : RW m W) (hW : W.length ≤ 90) (k1 : WP d 140 [.ref 42, .int (nI 41)] m (fun v m3 => ∃ w4, v = some (.int w4) ∧ (if w4 = (nI 0) then WH (d + 1) 150 215 [] [] m3 K else WH (d + 1) 150 227 [(0, .ref 42)] [] (m3.uF 42 5 ((m3.F 42 5) + (nI 1))) K))) : ∀ (n k : Nat), k + n = W.length → WH (d + 1) 150 167 [(0, .ref 42), (2, .int (nI 1)), (3, .int (nI k))] [] m K := by
  intro n
  induction n with
  | zero =>
    intro k h
    refine sg_150_167 _ _ ?_
    simp (disch := omega) only [hR.1, nIle]
    rw [if_pos (by omega), if_neg (by decide)]
    exact k1
  | succ n ih =>
    intro k h
    refine sg_150_167 _ _ ?_
    simp (disch := omega) only [hR.1, nIle]
    rw [if_neg (by omega), if_neg (by decide)]
    refine sg_150_190 _ ?_
    rw [nI_add]
    exact ih (k + 1) (by omega)
theorem c_scan (hL : Len m) (hR : RW m W) (hW : W.length ≤ 90) (k1 : 16 ∈ W → WP d 140 [.ref 42, .int (nI 41)] m (fun v m3 => ∃ w4, v = some (.int w4) ∧ (if w4 = (nI 0) then WH (d + 1) 150 215 [] [] m3 K else WH (d + 1) 150 227 [(0, .ref 42)] [] (m3.uF 42 5 ((m3.F 42 5) + (nI 1))) K))) (k2 : 16 ∉ W → WH (d + 1) 150 215 [] [] m K) : ∀ (n k : Nat), k + n = W.length → (∀ i, i < k → W.getD i 0 ≠ 16) → WH (d + 1) 150 167 [(0, .ref 42), (2, .int (nI 0)), (3, .int (nI k))] [] m K := by
  have l1 : (m.A 48).length = 101 := hL.a (by decide) rfl
  intro n
  induction n with
  | zero =>
    intro k h hi
    refine sg_150_167 _ _ ?_
    simp (disch := omega) only [hR.1, nIle]
    rw [if_pos (by omega), if_pos trivial]
    refine k2 (fun z => ?_)
    obtain ⟨i, h1, h2⟩ := mem_getD z
    exact hi i (by omega) h2
  | succ n ih =>
    intro k h hi
    have hg := hR.2 k (by omega)
    refine sg_150_167 _ _ ?_
    simp (disch := omega) only [hR.1, nIle, ix_nI, hg.1, l1, nIeq]
    rw [if_neg (by omega), if_pos trivial]
    refine ⟨ok_nI (by omega) (by decide), ?_⟩
    by_cases e : W.getD k 0 = 16
    · rw [if_pos e]
      refine sg_150_190 _ ?_
      rw [nI_add]
      exact c_scan1 hR hW (k1 (mem_of_getD (by omega) e)) n (k + 1) (by omega)
    · rw [if_neg e, nI_add]
      refine ih (k + 1) (by omega) (fun i h2 => ?_)
      by_cases e2 : i = k
      · rw [e2]; exact e
      · exact hi i (by omega)
/-- what waits behind the ( becomes steps, then its signs -/
theorem c_227 {W0 : List Nat} {k0 : Nat} (h8 : topW W0 ≠ 8) : ∀ (n : Nat) (P : List Nat) (m : Mm) (cs : List Op), P.length = n → Len m → RC m cs → RW m (W0 ++ List.replicate k0 8 ++ [16] ++ P) → m.F 42 12 = nI (nst (W0 ++ List.replicate k0 8 ++ [16])) → cs.length + (W0 ++ List.replicate k0 8 ++ [16] ++ P).length ≤ 90 → (∀ x ∈ P, 4 ≤ x ∧ x ≤ 7) → (∀ m', RC m' (cs ++ em P ++ List.replicate k0 (opr 30)) → RW m' W0 → m'.F 42 12 = nI (nst W0) → Fq [7, 10, 12] [46, 47] m m' → K (some (.int (nI 1))) m') → WH (d + 3) 150 227 [(0, .ref 42)] [] m K := by
  intro n
  induction n with
  | zero =>
    intro P m cs hn hL hC hR h12 hl hP k
    have e : P = [] := List.length_eq_zero_iff.mp hn
    subst e
    rw [List.append_nil] at hR hl
    refine sg_150_227 ?_
    refine c_top hL hR (by omega) ⟨_, rfl, ?_⟩
    rw [topW_snoc, if_pos rfl]
    rw [List.length_append, List.length_cons, List.length_nil] at hl
    have h10 : m.F 42 10 - nI 1 = nI (W0 ++ List.replicate k0 8).length := by
      rw [hR.1, List.length_append, List.length_cons, List.length_nil, nIsub (by omega), Nat.add_sub_cancel]
    have e12 : m.F 42 12 - nI 1 = nI (nst (W0 ++ List.replicate k0 8)) := by
      rw [h12, nst_app]
      show nI (_ + 1) - nI 1 = _
      rw [nIsub (by omega), Nat.add_sub_cancel]
    rw [h10, e12]
    have f1 : Fq [7, 10, 12] [46, 47] m ((m.uF 42 10 (nI (W0 ++ List.replicate k0 8).length)).uF 42 12 (nI (nst (W0 ++ List.replicate k0 8)))) := Fq.uF (Fq.uF (Fq.refl _ _ m) (by decide) _) (by decide) _
    refine sp_148 ?_
    refine c_signs h8 k0 _ cs (hL.fq f1) ?_ ?_ rfl (by omega) (fun m2 a1 a2 a3 f2 => ⟨rfl, k m2 ?_ a2 a3 (f1.trans f2)⟩)
    · exact hC.fq (Fq.uF (Fq.uF (Fq.refl [10, 12] [] m) (by decide) _) (by decide) _) (by decide) (by decide) (by decide)
    · exact hR.pop.fq (Fq.uF (Fq.refl [12] [] _) (by decide) _) (by decide) (by decide)
    · rw [em_nil, List.append_nil]; exact a1
  | succ n ih =>
    intro P m cs hn hL hC hR h12 hl hP k
    rcases List.eq_nil_or_concat P with e | ⟨V, x, e⟩
    · subst e; cases hn
    · rw [List.concat_eq_append] at e
      subst e
      rw [← List.append_assoc] at hR hl
      have hl2 := hl
      rw [List.length_append, List.length_cons, List.length_nil] at hn hl2
      have hx := hP x (by simp)
      refine sg_150_227 ?_
      refine c_top hL hR (by omega) ⟨_, rfl, ?_⟩
      rw [topW_snoc]
      simp (disch := omega) only [nIeq]
      rw [if_neg (by omega)]
      refine c_pop hL hC hR hl (by omega) (fun m2 hC2 hR2 f2 => ⟨rfl, ?_⟩)
      refine ih V m2 _ (by omega) (hL.fq f2) hC2 hR2 (by rw [f2.f (by decide)]; exact h12) (by rw [List.length_append, List.length_cons, List.length_nil]; omega) (fun y hy => hP y (by simp [hy])) (fun m3 a1 a2 a3 a4 => k m3 ?_ a2 a3 ((f2.mono (by decide) (by decide)).trans a4))
      rw [em_app, em_one, ← List.append_assoc]; exact a1
theorem c_150c {t : Tk} {r : List Tk} {W0 P : List Nat} {k0 : Nat} (hX : RX m N b o (t :: r) cs (W0 ++ List.replicate k0 8 ++ [16] ++ P) 0) (ht : t.1 = 41) (hP : ∀ x ∈ P, 4 ≤ x ∧ x ≤ 7) (h8 : topW W0 ≠ 8) (k : ∀ m', RX m' N b o r (cs ++ em P ++ List.replicate k0 (opr 30)) W0 0 → Fq GX SXr m m' → K (some (.int (nI 1))) m') : WP (d + 3) 150 [.ref 42] m K := by
  obtain ⟨hL, hT0, hC, hR, hn, ho, hw, h60, hb, hbN, ho8⟩ := hX
  have hN := hT0.2.2.2.1
  rw [List.length_cons] at hb
  have htd : hd (t :: r) = t.1 := rfl
  refine sp_150 ?_
  refine c_isSign (c := 43) rfl hL hT0 ⟨_, rfl, ?_⟩
  simp only [bI_0]
  rw [if_pos (show ¬ hd (t :: r) = 43 by omega)]
  refine c_isSign (c := 45) rfl hL hT0 ⟨_, rfl, ?_⟩
  simp only [bI_0]
  rw [if_pos (show ¬ hd (t :: r) = 45 by omega)]
  refine c_isSign (c := 42) rfl hL hT0 ⟨_, rfl, ?_⟩
  simp only [bI_0]
  rw [if_pos (show ¬ hd (t :: r) = 42 by omega)]
  refine c_isSign (c := 47) rfl hL hT0 ⟨_, rfl, ?_⟩
  simp only [bI_0]
  rw [if_pos (show ¬ hd (t :: r) = 47 by omega)]
  have h16 : 16 ∈ W0 ++ List.replicate k0 8 ++ [16] ++ P := by simp
  refine c_scan hL hR (by omega) (fun _ => ?_) (fun z => absurd h16 z) _ 0 (Nat.zero_add _) (fun i hi => by omega)
  refine c_isSign (c := 41) rfl hL hT0 ⟨_, rfl, ?_⟩
  simp only [bI_0]
  rw [if_neg (fun z => z ht)]
  have h5 := hT0.1
  rw [List.length_cons] at h5
  rw [h5, nI_add]
  have f1 : Fq [5] [] m (m.uF 42 5 (nI (N - (r.length + 1) + 1))) := Fq.uF (Fq.refl _ _ m) (by decide) _
  have nP : nst P = 0 := by
    unfold nst
    rw [List.length_eq_zero_iff, List.filter_eq_nil_iff]
    intro x hx
    have := hP x hx
    simp only [Bool.or_eq_true, beq_iff_eq]
    omega
  refine c_227 h8 _ P _ cs rfl (hL.fq f1) (hC.fq f1 (by decide) (by decide) (by decide)) (hR.fq f1 (by decide) (by decide)) ?_ (by omega) hP (fun m2 a1 a2 a3 f2 => k m2 ⟨(hL.fq f1).fq f2, hT0.next.fq f2 (by decide) (by decide) (by decide) (by decide), a1, a2, a3, ?_, ?_, ?_, ?_, hbN, ho8⟩ ?_)
  · rw [f1.f (by decide), hn, nst_app _ P, nP, Nat.add_zero]
  · rw [f2.f (by decide), f1.f (by decide)]; exact ho
  · rw [f2.f (by decide), f1.f (by decide)]; exact hw
  · rw [f2.f (by decide), f1.f (by decide)]; exact h60
  · simp only [List.length_append, em_len, List.length_replicate, List.length_cons, List.length_nil] at hb ⊢
    omega
  · exact (f1.mono (by decide) (by decide)).trans (f2.mono (by decide) (by decide))
theorem c_150s (hX : RX m N b o q cs W 0) (ha : isAdd (hd q) = false) (hm : isMul (hd q) = false) (h : hd q ≠ 41 ∨ 16 ∉ W) (k : K (some (.int (nI 0))) m) : WP (d + 1) 150 [.ref 42] m K := by
  obtain ⟨hL, hT0, hC, hR, hn, ho, hw, h60, hb, hbN, ho8⟩ := hX
  have hN := hT0.2.2.2.1
  have na : ¬ (hd q = 43 ∨ hd q = 45) := fun z => by rw [(isAdd_iff _).mpr z] at ha; cases ha
  have nm : ¬ (hd q = 42 ∨ hd q = 47) := fun z => by rw [(isMul_iff _).mpr z] at hm; cases hm
  refine sp_150 ?_
  refine c_isSign (c := 43) rfl hL hT0 ⟨_, rfl, ?_⟩
  simp only [bI_0]
  rw [if_pos (show ¬ hd q = 43 by omega)]
  refine c_isSign (c := 45) rfl hL hT0 ⟨_, rfl, ?_⟩
  simp only [bI_0]
  rw [if_pos (show ¬ hd q = 45 by omega)]
  refine c_isSign (c := 42) rfl hL hT0 ⟨_, rfl, ?_⟩
  simp only [bI_0]
  rw [if_pos (show ¬ hd q = 42 by omega)]
  refine c_isSign (c := 47) rfl hL hT0 ⟨_, rfl, ?_⟩
  simp only [bI_0]
  rw [if_pos (show ¬ hd q = 47 by omega)]
  refine c_scan hL hR (by omega) (fun h16 => ?_) (fun z => sg_150_215 k) _ 0 (Nat.zero_add _) (fun i hi => by omega)
  refine c_isSign (c := 41) rfl hL hT0 ⟨_, rfl, ?_⟩
  simp only [bI_0]
  rw [if_pos (by rcases h with h | h; exact h; exact absurd h16 h)]
  exact sg_150_215 k
end R46
