/-! CARRYING OUT, the class -/
abbrev An : Type := Nat × Nat × Nat × Nat × (Nat → Nat → Int64)
/-- rows, width, reads, plan, values -/
def CA (m : Mm) (a : An) : Prop := m.F 0 11 = nI a.1 ∧ m.F 0 12 = nI a.2.1 ∧ m.F 0 13 = nI a.2.2.1 ∧ m.F 0 14 = nI a.2.2.2.1 ∧ ∀ r c, r < a.1 → c < a.2.1 → (m.B 40).getD (3 * r + c) 0 = a.2.2.2.2 r c
def an0 : An := (0, 0, 0, 0, fun _ _ => 0)
def mkD (D : Db) (e : St) : Db := fun s => if s = e.2.1 5 then (e.2.1 8, (D s).2.1, (D s).2.2) else D s
def ixD (D : Db) (e : St) : Db := fun s => if s = e.2.1 5 then ((D s).1, (D s).2.1, fun c => if c = e.2.1 7 then true else (D s).2.2 c) else D s
def efC (D : Db) (e : St) : Nat := if fault D e ≠ 0 then fault D e else if e.2.1 4 = 6 then insC D e else if e.2.1 4 = 7 then updC D e else if e.2.1 4 = 9 ∧ 60 < (hitE D e).length then 5 else 0
def efD (D : Db) (e : St) : Db := if efC D e ≠ 0 then D else if e.2.1 4 = 4 then mkD D e else if e.2.1 4 = 5 then ixD D e else if e.2.1 4 = 6 then insD D e else if e.2.1 4 = 7 then updR D e else if e.2.1 4 = 8 then delD D e else D
def efA (D : Db) (e : St) : An := if efC D e ≠ 0 then an0 else if e.2.1 4 = 4 ∨ e.2.1 4 = 5 then an0 else if e.2.1 4 = 6 then (1, 0, 0, 0, fun _ _ => 0) else if e.2.1 4 = 9 then (selN e (hitE D e), e.2.2.length, rdE D e, plE D e, selV D e (hitE D e)) else ((rw_ D (e.2.1 5)).countP (whR D e), 0, rdE D e, plE D e, fun _ _ => 0)
section C97
variable {d N : Nat} {m m0 m1 : Mm} {K : Option Value → Mm → Prop} {D : Db} {e : St} {t i j : Nat} {L : List Hit}
theorem tb_t {t : Nat} (ht : t < 3) : tb_of (nI t) (3 + 3 * t) := by
  rcases (by omega : t = 0 ∨ t = 1 ∨ t = 2) with rfl | rfl | rfl <;> exact ⟨ok_nI (by decide) (by decide), rfl⟩
theorem DI_mk (hI : DI D) (h5 : e.2.1 5 < 3) (h0 : wd D (e.2.1 5) = 0) (h8 : e.2.1 8 ≤ 4) : DI (mkD D e) := by
  intro s hs
  have h := hI s hs
  unfold wd rw_ ixd mkD
  by_cases hst : s = e.2.1 5
  · subst hst
    rw [if_pos rfl]
    obtain ⟨a1, a2, a3, a4, a5, a6, a7⟩ := h
    have hR := a4 h0
    have hR' : (D (e.2.1 5)).2.1 = [] := hR
    refine ⟨h8, a2, fun r hr => ?_, fun _ => hR, fun c hc => ?_, a6, a7⟩
    · have hr : r ∈ (D (e.2.1 5)).2.1 := hr
      rw [hR'] at hr; cases hr
    · have := a5 c hc
      omega
  · rw [if_neg hst]; exact h
theorem DI_ix (hI : DI D) (h5 : e.2.1 5 < 3) (h7 : 0 < e.2.1 7 ∧ e.2.1 7 < wd D (e.2.1 5)) : DI (ixD D e) := by
  intro s hs
  have h := hI s hs
  unfold wd rw_ ixd ixD
  by_cases hst : s = e.2.1 5
  · subst hst
    rw [if_pos rfl]
    obtain ⟨a1, a2, a3, a4, a5, a6, a7⟩ := h
    refine ⟨a1, a2, a3, a4, fun c hc => ?_, a6, a7⟩
    by_cases z : c = e.2.1 7
    · rw [z]; exact h7
    · have hc : (if c = e.2.1 7 then true else (D (e.2.1 5)).2.2 c) = true := hc
      rw [if_neg z] at hc
      exact a5 c hc
  · rw [if_neg hst]; exact h
theorem c_31 (hI : DI D) (h5 : e.2.1 5 < 3) (h0 : wd D (e.2.1 5) = 0) (hD : DC m D) (k : ∀ m', DC m' (mkD D e) → Fr [3 + 3 * e.2.1 5] m m' → K none m') : WP d 31 [.ref (3 + 3 * e.2.1 5), .int (nI (e.2.1 8))] m K := by
  refine sp_31 _ _ (tbl_t h5) ?_
  have f1 : Fr [3 + 3 * e.2.1 5] m (m.uF (3 + 3 * e.2.1 5) 2 (nI (e.2.1 8))) := Fr.uF (Fr.refl _ m) (by simp) _ _
  refine k _ (fun s hs => ?_) f1
  obtain ⟨b1, b2, b3, b4⟩ := hD s hs
  unfold wd rw_ ixd mkD
  by_cases hst : s = e.2.1 5
  · subst hst
    rw [if_pos rfl]
    have hR : (D (e.2.1 5)).2.1 = [] := (hI _ h5).2.2.2.1 h0
    refine ⟨?_, ?_, fun i hi => ?_, b4⟩
    · rw [mF_F, if_pos ⟨rfl, rfl⟩]
    · rw [mF_F, if_neg (by simp)]; exact b2
    · have hi : i < (D (e.2.1 5)).2.1.length := hi
      rw [hR] at hi
      exact absurd hi (Nat.not_lt_zero i)
  · rw [if_neg hst]
    have n1 : 3 + 3 * s ∉ [3 + 3 * e.2.1 5] := by simp; omega
    exact ⟨by rw [f1.f n1]; exact b1, by rw [f1.f n1]; exact b2, b3, b4⟩
theorem c_32 (hL : Len m) (hI : DI D) (h5 : e.2.1 5 < 3) (h7 : 0 < e.2.1 7 ∧ e.2.1 7 < wd D (e.2.1 5)) (hD : DC m D) (k : ∀ m', DC m' (ixD D e) → Fr [3 + 3 * e.2.1 5 + 2] m m' → K none m') : WP (d + 1) 32 [.ref (3 + 3 * e.2.1 5), .int (nI (e.2.1 7))] m K := by
  have hw4 := (hI _ h5).1
  obtain ⟨d1, d2, d3, d4⟩ := hD _ h5
  have lA2 : (m.A (3 + 3 * e.2.1 5 + 2)).length = 4 := by
    rcases (by omega : e.2.1 5 = 0 ∨ e.2.1 5 = 1 ∨ e.2.1 5 = 2) with z | z | z <;> rw [z]
    · exact hL.a (by decide) rfl
    · exact hL.a (by decide) rfl
    · exact hL.a (by decide) rfl
  refine sp_32 _ _ (tbl_t h5) ?_
  refine sp_27 _ _ (tbl_t h5) ?_
  rw [if_neg (by rw [nIlt (by omega) (by decide)]; omega), d1, if_neg (by rw [nIle (by omega) (by omega)]; omega)]
  refine ⟨_, rfl, ?_⟩
  rw [if_neg (by decide), lA2, ix_nI (by omega)]
  refine ⟨ok_nI (by omega) (by decide), ?_⟩
  have f1 : Fr [3 + 3 * e.2.1 5 + 2] m (m.uA (3 + 3 * e.2.1 5 + 2) ((m.A (3 + 3 * e.2.1 5 + 2)).set (e.2.1 7) (vp_nar .boolean (nI 1)))) := Fr.uA (Fr.refl _ m) (by simp) (by rw [List.length_set])
  refine k _ (fun s hs => ?_) f1
  obtain ⟨b1, b2, b3, b4⟩ := hD s hs
  unfold wd rw_ ixd ixD
  by_cases hst : s = e.2.1 5
  · subst hst
    rw [if_pos rfl]
    refine ⟨b1, b2, b3, fun c hc => ?_⟩
    rw [mA_A, if_pos rfl, getD_set _ _ _ _ _ (by omega)]
    by_cases z : c = e.2.1 7
    · rw [if_pos z]
      show _ = bI ((if c = e.2.1 7 then true else _) = true)
      rw [if_pos z, bI_t rfl]; rfl
    · rw [if_neg z]
      show _ = bI ((if c = e.2.1 7 then true else (D (e.2.1 5)).2.2 c) = true)
      rw [if_neg z]; exact b4 c hc
  · rw [if_neg hst]
    have n1 : 3 + 3 * s + 2 ∉ [3 + 3 * e.2.1 5 + 2] := by simp; omega
    exact ⟨b1, b2, b3, fun c hc => by rw [f1.a n1]; exact b4 c hc⟩
end C97
