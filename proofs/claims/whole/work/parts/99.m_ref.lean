/-! The reference's answer to a statement that was read -/
def RA (m : Mm) (a : An) : Prop := m.F 42 53 = nI a.1 ∧ m.F 42 54 = nI a.2.1 ∧ m.F 42 56 = nI a.2.2.1 ∧ m.F 42 57 = nI a.2.2.2.1 ∧ ∀ r c, r < a.1 → c < a.2.1 → (m.B 68).getD (3 * r + c) 0 = a.2.2.2.2 r c
section R99
variable {d N nm : Nat} {m m0 m1 : Mm} {K : Option Value → Mm → Prop} {D : Db} {e : St} {P : Nat → List (List Int64)} {ps : List Pt} {t r q : Nat}
theorem RA.fq {a : An} {G S : List Nat} (h : RA m a) (k : Fq G S m m1) (hg : dj G [53, 54, 56, 57] = true) (hs : 68 ∉ 42 :: S) : RA m1 a := by
  unfold RA at *
  rw [k.f (dj_no hg (by decide)), k.f (dj_no hg (by decide)), k.f (dj_no hg (by decide)), k.f (dj_no hg (by decide)), k.1.b hs]
  exact h
theorem RE_tq (ha : e.1.2.1.all (okSb D e) = true) (hWF : WF e) (h : RE m (rs_ D e) (tb e)) : RE m (rs_ D e) (tq e) := by
  refine ⟨h.1, fun i hi => ?_⟩
  obtain ⟨h1, h2⟩ := h.2 i hi
  refine ⟨h1, ?_⟩
  rw [h2]
  by_cases h3 : ((rs_ D e).getD i (0, 0, 0)).1 = 3
  · rw [if_pos h3, if_pos h3]
    have hc := rs_col ha hWF.1 _ (getD_in hi) h3
    have et : tb e ((rs_ D e).getD i (0, 0, 0)).2.2 = tq e ((rs_ D e).getD i (0, 0, 0)).2.2 := by
      unfold tb tq
      by_cases z : ((rs_ D e).getD i (0, 0, 0)).2.2 = 0
      · rw [if_pos z, if_pos (Or.inl z)]
      · have := hc.2.2.2 (by have := hc.1; omega)
        rw [if_neg z, if_neg (by omega)]
    rw [et]
  · rw [if_neg h3, if_neg h3]
theorem RQ_of (hWF : WF e) (ha : e.1.2.1.all (okSb D e) = true) (htf : tfit D e = true) (h4 : e.2.1 4 ≠ 4) (hps : e.1.2.2.length ≤ 40) (hL : Len m) (hC : RE m (rs_ D e) (tq e)) (hD : DR m D P) (hP : RP m e.1.2.2) : RQ m (rs_ D e) (tq e) D P e.1.2.2 := by
  have h5 := hWF.2.2.2.2.2.2.2.2.1
  have h6 := hWF.2.2.2.2.2.2.2.2.2.1
  have hPt : ∀ p, p ∈ e.1.2.2 → okPt (rs_ D e) p := fun p hp => okPt_map (hWF.2.2.2.2.1 p hp)
  have ht1 : tq e 1 < 3 := by unfold tq; split <;> omega
  refine ⟨hL, hC, sd2_rs ha hWF.1, fun z hz => ?_, ⟨by rw [tq0]; exact h5, ht1, fun ⟨x, hx, h3, h1⟩ => ?_⟩, hD, hP, okPs_of hPt, hps⟩
  · obtain ⟨y, hy, rfl⟩ := List.mem_map.mp hz
    rw [rsv_1]
    have := hWF.1 y hy
    unfold okx at this
    omega
  · have hz := (rs_col ha hWF.1 x hx h3).2.2.2 h1
    unfold tfit at htf
    rw [if_neg h4] at htf
    have := of_decide_eq_true htf
    rw [tq0]
    unfold tq
    rw [if_neg (by omega)]
    rcases this.2 with z | z
    · exact absurd z hz
    · exact fun q => z.1 q.symm
theorem DR_mk (hI : DI D) (h5 : e.2.1 5 < 3) (h0 : wd D (e.2.1 5) = 0) (hD : DR m D P) (l56 : (m.A 56).length = 3) : DR (m.uA 56 ((m.A 56).set (e.2.1 5) (nI (e.2.1 8)))) (mkD D e) P := by
  intro s hs
  obtain ⟨b1, b2, b3, b4, b5⟩ := hD s hs
  unfold wd rw_ ixd mkD
  by_cases hst : s = e.2.1 5
  · subst hst
    rw [if_pos rfl]
    have hR : (D (e.2.1 5)).2.1 = [] := (hI _ h5).2.2.2.1 h0
    refine ⟨by rw [mA_A, if_pos rfl, getD_set _ _ _ _ _ (by omega), if_pos rfl], b2, b3, fun i hi => ?_, b5⟩
    have hi : i < (D (e.2.1 5)).2.1.length := hi
    rw [hR] at hi
    exact absurd hi (Nat.not_lt_zero i)
  · rw [if_neg hst]
    exact ⟨by rw [mA_A, if_pos rfl, getD_set _ _ _ _ _ (by omega), if_neg hst]; exact b1, b2, b3, b4, b5⟩
theorem DR_ix (hI : DI D) (h5 : e.2.1 5 < 3) (h7 : e.2.1 7 < 4) (hD : DR m D P) (l59 : (m.A 59).length = 12) : DR (m.uA 59 ((m.A 59).set (4 * e.2.1 5 + e.2.1 7) (nI 1))) (ixD D e) P := by
  intro s hs
  obtain ⟨b1, b2, b3, b4, b5⟩ := hD s hs
  unfold wd rw_ ixd ixD
  by_cases hst : s = e.2.1 5
  · subst hst
    rw [if_pos rfl]
    refine ⟨b1, b2, b3, b4, fun c hc => ?_⟩
    rw [mA_A, if_pos rfl, getD_set _ _ _ _ _ (by omega)]
    by_cases z : c = e.2.1 7
    · rw [if_pos (by omega)]
      show _ = bI ((if c = e.2.1 7 then true else _) = true)
      rw [if_pos z, bI_t rfl]
    · rw [if_neg (by omega)]
      show _ = bI ((if c = e.2.1 7 then true else (D (e.2.1 5)).2.2 c) = true)
      rw [if_neg z]; exact b5 c hc
  · rw [if_neg hst]
    refine ⟨b1, b2, b3, b4, fun c hc => ?_⟩
    rw [mA_A, if_pos rfl, getD_set _ _ _ _ _ (by omega), if_neg (by omega)]
    exact b5 c hc
end R99
