/-! NAMES: the reference's known(), the whole of it -/
section N71
variable {d N : Nat} {m m0 m1 : Mm} {K : Option Value → Mm → Prop} {D : Db} {e : St} {P : Nat → List (List Int64)} {nm : Nat}
theorem wc_eq {a b : Nat} (ha : 4 ≤ a) (ha2 : a ≤ 18) (hb : 4 ≤ b) (hb2 : b ≤ 18) : (nI (wc a) = nI (wc b)) = (a = b) := by
  have h1 := wc_big ha ha2
  have h2 := wc_big hb hb2
  rw [nIeq h1.2 h2.2]
  exact propext ⟨fun z => wc_inj ha ha2 hb hb2 z, fun z => by rw [z]⟩
theorem l164_30 (hX : Rs m N e nm 1) (hnm : 0 < nm) (hWF : WF e) (hV : VF e (e.2.1 4)) (hD : DR m D P) (hI : DI D) {x1 : Int32} (hx1 : (x1 = nI 1 ∧ e.2.1 4 = 4) ∨ (x1 = nI 0 ∧ e.2.1 4 ≠ 4)) (k1 : tfit D e = true → WH d 164 94 [(0, .ref 42)] [] m K) (k2 : tfit D e = false → K (some (.int (nI 0))) m) : WH d 164 30 [(0, .ref 42), (1, .int x1), (2, .int (nI 0))] [] m K := by
  have hL := hX.1
  obtain ⟨z1, z2, z3, z4, _⟩ := hX.2.2.2.2.1
  have l1 : (m.A 50).length = 2 := hL.a (by decide) rfl
  have l2 : (m.A 56).length = 3 := hL.a (by decide) rfl
  have h5 := hWF.2.2.2.2.2.2.2.2.1
  have h6 := hWF.2.2.2.2.2.2.2.2.2.1
  have hw := (hD (e.2.1 5) h5).1
  have hw4 := (hI (e.2.1 5) h5).1
  have y3 := z3 hnm
  have o0 : ok 2 (nI 0) := ok_nI (by decide) (by decide)
  have o1 : ok 2 (nI 1) := ok_nI (by decide) (by decide)
  have o5 : ok 3 (nI (e.2.1 5)) := ok_nI (by omega) (by decide)
  refine sg_164_30 _ _ ?_
  rw [if_neg (by rw [z1, nIle (by omega) (by omega)]; omega), l1, l2, ix_nI (by decide), y3, ix_nI (by omega), hw, nI_add]
  refine ⟨o0, o5, ?_⟩
  -- behind the first table
  have nxt : (e.2.1 4 = 4 → wd D (e.2.1 5) = 0) → (e.2.1 4 ≠ 4 → 0 < wd D (e.2.1 5)) → WH d 164 30 [(0, .ref 42), (1, .int x1), (2, .int (nI (0 + 1)))] [] m K := by
    intro q1 q2
    refine sg_164_30 _ _ ?_
    by_cases h2 : nm = 2
    · subst h2
      rw [if_pos rfl] at z4
      have hv9 : e.2.1 4 = 9 := by
        apply Classical.byContradiction
        intro z
        have := (hV.2.2.1 z).1
        omega
      have hne : e.2.1 4 ≠ 4 := by omega
      have q2 := q2 hne
      have ht2 : e.2.1 6 - 1 < 3 := by omega
      have hw2 := (hD (e.2.1 6 - 1) ht2).1
      have hw24 := (hI (e.2.1 6 - 1) ht2).1
      have o6 : ok 3 (nI (e.2.1 6 - 1)) := ok_nI (by omega) (by decide)
      have hx0 : x1 = nI 0 := by
        rcases hx1 with z | z
        · exact absurd z.2 hne
        · exact z.1
      rw [if_neg (by rw [z1, nIle (by omega) (by omega)]; omega), l1, l2, ix_nI (by decide), z4.1, ix_nI (by omega), hw2, nI_add]
      refine ⟨o1, o6, ?_⟩
      by_cases hw0 : wd D (e.2.1 6 - 1) = 0
      · rw [if_pos (by rw [hw0]; decide), if_pos (by rw [hx0])]
        refine k2 ?_
        unfold tfit
        rw [if_neg hne]
        refine decide_eq_false (fun z => ?_)
        rcases z.2 with y | y <;> omega
      · rw [if_neg (by rw [nIle (by omega) (by omega)]; omega), if_neg (by rw [hx0]; decide)]
        refine sg_164_30 _ _ ?_
        rw [if_pos (by rw [z1]; decide), if_pos z1, l1, ix_nI (by decide), ix_nI (by decide), y3, z4.1]
        refine ⟨o0, o1, ?_⟩
        by_cases heq : e.2.1 5 = e.2.1 6 - 1
        · rw [if_pos (by rw [heq])]
          refine k2 ?_
          unfold tfit
          rw [if_neg hne]
          refine decide_eq_false (fun z => ?_)
          rcases z.2 with y | y <;> omega
        · rw [if_neg (by rw [nIeq (by omega) (by omega)]; exact heq)]
          refine k1 ?_
          unfold tfit
          rw [if_neg hne]
          exact decide_eq_true ⟨q2, Or.inr ⟨by omega, by omega⟩⟩
    · have h1 : nm = 1 := by omega
      subst h1
      rw [if_neg (by decide)] at z4
      rw [if_pos (by rw [z1]; decide), if_neg (by rw [z1]; decide)]
      refine k1 ?_
      unfold tfit
      by_cases hv4 : e.2.1 4 = 4
      · rw [if_pos hv4]; exact decide_eq_true (q1 hv4)
      · rw [if_neg hv4]; exact decide_eq_true ⟨q2 hv4, Or.inl z4⟩
  by_cases hw0 : wd D (e.2.1 5) = 0
  · rw [if_pos (by rw [hw0]; decide)]
    rcases hx1 with ⟨y1, y2⟩ | ⟨y1, y2⟩
    · rw [if_neg (by rw [y1]; decide)]
      exact nxt (fun _ => hw0) (fun z => absurd y2 z)
    · rw [if_pos (by rw [y1])]
      refine k2 ?_
      unfold tfit
      rw [if_neg y2]
      exact decide_eq_false (fun z => by omega)
  · rw [if_neg (by rw [nIle (by omega) (by omega)]; omega)]
    rcases hx1 with ⟨y1, y2⟩ | ⟨y1, y2⟩
    · rw [if_pos (by rw [y1])]
      refine k2 ?_
      unfold tfit
      rw [if_pos y2]
      exact decide_eq_false hw0
    · rw [if_neg (by rw [y1]; decide)]
      exact nxt (fun z => absurd z y2) (fun _ => by omega)
theorem c_164 (hX : Rs m N e nm 1) (hnm : 0 < nm) (h17 : m.F 42 17 = nI (wc (e.2.1 4))) (hWF : WF e) (hV : VF e (e.2.1 4)) (hD : DR m D P) (hI : DI D) (k : ∀ m', Fq [] [47] m m' → (fault D e ≠ 2 → RE m' (e.1.2.1.map (rsv D e)) (tb e)) → K (some (.int (bI (fault D e ≠ 2)))) m') : WP (d + 4) 164 [.ref 42] m K := by
  have hL := hX.1
  have hT := hX.2.1
  have hC := hX.2.2.1
  have hS := hX.2.2.2.2.1
  have hb := hX.2.2.2.2.2.2.2.2.1
  have hN := hT.2.2.2.1
  have h5 := hWF.2.2.2.2.2.2.2.2.1
  have h6 := hWF.2.2.2.2.2.2.2.2.2.1
  have h7 := hWF.2.2.2.2.2.2.2.2.2.2.1
  have hv : 4 ≤ e.2.1 4 ∧ e.2.1 4 ≤ 9 := by have := hV.2.1; omega
  have V : ∀ j, 4 ≤ j → j ≤ 9 → (m.F 42 17 = nI (wc j)) = (e.2.1 4 = j) := by
    intro j q1 q2
    rw [h17]
    exact wc_eq hv.1 (by omega) q1 (by omega)
  have z3 := hS.2.2.1 hnm
  have z5 : m.F 42 20 = nI (e.2.1 7) := hS.2.2.2.2.1
  have l1 : (m.A 50).length = 2 := hL.a (by decide) rfl
  have l2 : (m.A 56).length = 3 := hL.a (by decide) rfl
  have l9 : (m.A 59).length = 12 := hL.a (by decide) rfl
  have hw := (hD (e.2.1 5) h5).1
  have hw4 := (hI (e.2.1 5) h5).1
  have hix := (hD (e.2.1 5) h5).2.2.2.2 (e.2.1 7) h7
  have o0 : ok 2 (nI 0) := ok_nI (by decide) (by decide)
  have o5 : ok 3 (nI (e.2.1 5)) := ok_nI (by omega) (by decide)
  have hlen : e.1.2.1.length ≤ 80 := by omega
  have no : ¬ (tfit D e = true ∧ cfit D e = true ∧ e.1.2.1.all (okSb D e) = true) → ∀ m', Fq [] [47] m m' → K (some (.int (nI 0))) m' := by
    intro h m' f
    have hf : fault D e = 2 := by unfold fault; rw [if_neg h]
    have := k m' f (fun z => absurd hf z)
    rw [bI_f (fun z => z hf)] at this
    exact this
  -- the steps
  have G207 : tfit D e = true → cfit D e = true → WH (d + 4) 164 207 [(0, .ref 42)] [] m K := by
    intro ht hc
    have go : ∀ x4, ((x4 = nI 1 ∧ e.2.1 4 = 6) ∨ (x4 = nI 0 ∧ e.2.1 4 ≠ 6)) → WH (d + 4) 164 239 [(0, .ref 42), (4, .int x4), (5, .int (nI 0))] [] m K := by
      intro x4 hx4
      refine lp_239 hWF.1 hlen h5 h6 hI hnm hx4 e.1.2.1.length 0 m (by omega) hL hS hC.1 (fun j hj => ?_) hD (fun j hj => by omega) (fun ha m' f hR => ?_) (fun ha m' f => no (fun z => by rw [ha] at z; cases z.2.2) m' f)
      · rw [if_neg (fun z => by omega)]
        exact hC.2 j hj
      · have hf : fault D e ≠ 2 := by
          unfold fault
          rw [if_pos ⟨ht, hc, ha⟩]
          split <;> decide
        have := k m' f (fun _ => ⟨by rw [List.length_map]; exact hlen, fun i hi => ?_⟩)
        · rw [bI_t hf] at this; exact this
        · rw [List.length_map] at hi
          rw [getD_map (rsv D e) e.1.2.1 i (0, 0, 0) (0, 0, 0) hi]
          obtain ⟨y1, y2⟩ := hR i hi
          unfold rsv
          by_cases h3 : (e.1.2.1.getD i (0, 0, 0)).1 = 3
          · rw [if_pos h3]
            dsimp only
            rw [if_pos rfl]
            rw [if_pos ⟨hi, h3⟩] at y2
            refine ⟨?_, y2⟩
            rw [y1, h3]
          · rw [if_neg h3, if_neg h3]
            rw [if_neg (fun z => h3 z.2)] at y2
            refine ⟨y1, ?_⟩
            rw [y2]
            unfold rar
            rw [if_neg h3]
    refine sg_164_207 ?_
    refine c_wrd_6 (by omega) ⟨_, rfl, ?_⟩
    by_cases h66 : e.2.1 4 = 6
    · rw [if_pos ((V 6 (by decide) (by decide)).mpr h66)]; exact go _ (Or.inl ⟨rfl, h66⟩)
    · rw [if_neg (fun z => h66 ((V 6 (by decide) (by decide)).mp z))]; exact go _ (Or.inr ⟨rfl, h66⟩)
  have G170 : tfit D e = true → (e.2.1 4 = 5 → cfit D e = true) → WH (d + 4) 164 170 [(0, .ref 42), (2, .int (nI (e.2.1 5)))] [] m K := by
    intro ht hc5
    refine sg_164_170 _ ?_
    refine c_wrd_7 (by omega) ⟨_, rfl, ?_⟩
    by_cases h77 : e.2.1 4 = 7
    · rw [if_pos ((V 7 (by decide) (by decide)).mpr h77), l2, ix_nI (by omega), hw, z5]
      refine ⟨o5, ?_⟩
      have ec : cfit D e = decide (e.2.1 7 < wd D (e.2.1 5)) := by unfold cfit; rw [if_neg (by omega), if_pos h77]
      by_cases hl : e.2.1 7 < wd D (e.2.1 5)
      · rw [if_pos (by rw [nIlt (by omega) (by omega)]; exact hl)]
        exact G207 ht (by rw [ec]; exact decide_eq_true hl)
      · rw [if_neg (by rw [nIlt (by omega) (by omega)]; exact hl)]
        refine no (fun z => ?_) m (Fq.refl _ _ _)
        rw [ec, decide_eq_true_iff] at z
        exact hl z.2.1
    · rw [if_neg (fun z => h77 ((V 7 (by decide) (by decide)).mp z))]
      refine G207 ht ?_
      by_cases h55 : e.2.1 4 = 5
      · exact hc5 h55
      · unfold cfit; rw [if_neg h55, if_neg h77]
  have G94 : tfit D e = true → WH (d + 4) 164 94 [(0, .ref 42)] [] m K := by
    intro ht
    refine sg_164_94 ?_
    rw [l1, ix_nI (by decide), z3]
    refine ⟨o0, c_wrd_5 (by omega) ⟨_, rfl, ?_⟩⟩
    by_cases h55 : e.2.1 4 = 5
    · rw [if_pos ((V 5 (by decide) (by decide)).mpr h55), z5]
      have ec : cfit D e = decide (0 < e.2.1 7 ∧ e.2.1 7 < wd D (e.2.1 5) ∧ ixd D (e.2.1 5) (e.2.1 7) = false) := by unfold cfit; rw [if_pos h55]
      have bad : ¬ (0 < e.2.1 7 ∧ e.2.1 7 < wd D (e.2.1 5) ∧ ixd D (e.2.1 5) (e.2.1 7) = false) → WH (d + 4) 164 168 [] [] m K := by
        intro h
        refine sg_164_168 (no (fun z => ?_) m (Fq.refl _ _ _))
        rw [ec, decide_eq_true_iff] at z
        exact h z.2.1
      by_cases h0 : e.2.1 7 = 0
      · rw [if_pos (by rw [h0])]
        exact bad (fun z => by omega)
      · rw [if_neg (by rw [nIeq (by omega) (by omega)]; exact h0), l2, ix_nI (by omega), hw, l9]
        refine ⟨o5, ?_⟩
        by_cases hl : e.2.1 7 < wd D (e.2.1 5)
        · rw [if_neg (by rw [nIle (by omega) (by omega)]; omega), pk_mul, nI_add, ix_nI (by omega), hix]
          refine ⟨ok_nI (by omega) (by decide), ?_⟩
          cases hx : ixd D (e.2.1 5) (e.2.1 7) with
          | true =>
            rw [bI_t rfl, if_neg (by decide)]
            exact bad (fun z => by rw [hx] at z; cases z.2.2)
          | false =>
            rw [bI_f (by decide), if_pos rfl]
            exact G170 ht (fun _ => by rw [ec]; exact decide_eq_true ⟨by omega, hl, hx⟩)
        · rw [if_pos (by rw [nIle (by omega) (by omega)]; omega)]
          exact bad (fun z => hl z.2.1)
    · rw [if_neg (fun z => h55 ((V 5 (by decide) (by decide)).mp z))]
      exact G170 ht (fun z => absurd z h55)
  refine sp_164 ?_
  refine c_wrd_4 (by omega) ⟨_, rfl, ?_⟩
  by_cases h44 : e.2.1 4 = 4
  · rw [if_pos ((V 4 (by decide) (by decide)).mpr h44)]
    exact l164_30 hX hnm hWF hV hD hI (Or.inl ⟨rfl, h44⟩) G94 (fun z => no (fun y => by rw [z] at y; cases y.1) m (Fq.refl _ _ _))
  · rw [if_neg (fun z => h44 ((V 4 (by decide) (by decide)).mp z))]
    exact l164_30 hX hnm hWF hV hD hI (Or.inr ⟨rfl, h44⟩) G94 (fun z => no (fun y => by rw [z] at y; cases y.1) m (Fq.refl _ _ _))
end N71
