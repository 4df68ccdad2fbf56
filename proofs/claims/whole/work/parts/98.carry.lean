/-! carryOut() of the class -/
def S18 : List Nat := [0, 3, 4, 5, 6, 7, 8, 9, 10, 11, 21, 22, 23, 24, 30, 31, 32, 33, 34, 35, 36, 37, 38, 39, 40, 41]
def G0 (m m' : Mm) : Prop := ∀ f, f ∉ [11, 12, 13, 14] → m'.F 0 f = m.F 0 f
theorem G0.fr {m m' : Mm} {S : List Nat} (f : Fr S m m') (h : 0 ∉ S) : G0 m m' := fun g _ => f.f h g
theorem G0.trans {m m1 m2 : Mm} (h : G0 m m1) (k : G0 m1 m2) : G0 m m2 := fun f hf => (k f hf).trans (h f hf)
section C98
variable {d N : Nat} {m m0 m1 : Mm} {K : Option Value → Mm → Prop} {D : Db} {e : St} {t i j : Nat} {L : List Hit}
theorem CA.fr {a : An} {S : List Nat} (h : CA m a) (f : Fr S m m1) (h0 : 0 ∉ S) (h4 : 40 ∉ S) : CA m1 a := by
  unfold CA at *
  rw [f.f h0, f.f h0, f.f h0, f.f h0, f.b h4]
  exact h
theorem t5 {t : Nat} (ht : t < 3) {S : List Nat} (h : ∀ c, c ∈ [3, 4, 5, 6, 7, 8, 9, 10, 11] → c ∈ S) : ∀ c, c ∈ [3 + 3 * t, 3 + 3 * t + 1, 3 + 3 * t + 2] → c ∈ S := by
  intro c hc
  refine h c ?_
  have : c = 3 + 3 * t ∨ c = 3 + 3 * t + 1 ∨ c = 3 + 3 * t + 2 := by simpa using hc
  rcases (by omega : t = 0 ∨ t = 1 ∨ t = 2) with z | z | z <;> rw [z] at this <;> rcases this with rfl | rfl | rfl <;> decide
/-- the statements that fetch no rows -/
theorem t_18a (hWF : WF e) (hV : VF e (e.2.1 4)) (hf : fault D e = 0) (hI : DI D) (hv : e.2.1 4 = 4 ∨ e.2.1 4 = 5 ∨ e.2.1 4 = 6) (hL : Len m) (hS : SR m e.2) (hC : CE m (rs_ D e)) (hD : DC m D) (hA : CA m an0) (k : ∀ m', CA m' (efA D e) → DC m' (efD D e) → G0 m m' → Fr S18 m m' → (∀ c, c = 36 ∨ c = 37 ∨ c = 38 ∨ c = 39 → ∀ f, m'.F c f = m.F c f) → K (some (.int (nI (efC D e)))) m') : WH (d + 6) 18 86 [(0, .ref 0), (2, .ref (3 + 3 * e.2.1 5))] [] m K := by
  have h5 := hWF.2.2.2.2.2.2.2.2.1
  have h4 : m.F 12 4 = nI (e.2.1 4) := hS.1 4 rfl
  obtain ⟨t1, t2, t3, t4⟩ := flt0 hf
  refine sg_18_86 _ (tbl_t h5) ?_
  refine sp_19 _ (tbl_t h5) ?_
  rw [h4]
  have fin : ∀ (w : Nat) (m1 : Mm), w < 100 → Fr S18 m m1 → m1.F 12 4 = nI (e.2.1 4) → K (some (.int (nI w))) m1 → (if nI w = nI 0 then WP (d + 5) 65 [.ref 12] m1 (fun v m9 => ∃ w10, v = some (.int w10) ∧ (if w10 = (nI 0) then WH (d + 6) 18 128 [(3, .int (nI w))] [] m9 K else WP (d + 5) 122 [.ref 30] (m9.uF 0 13 (m9.F 30 14)) (fun v m12 => ∃ w13, v = some (.int w13) ∧ WH (d + 6) 18 128 [(3, .int (nI w))] [] (m12.uF 0 14 w13) K))) else WH (d + 6) 18 128 [(3, .int (nI w))] [] m1 K) := by
    intro w m1 hw _ h4' hK
    by_cases hw0 : w = 0
    · rw [if_pos (by rw [hw0])]
      refine sp_65 ?_
      rw [h4']
      rw [if_neg (by rw [nIeq (by omega) (by decide)]; omega), if_neg (by rw [nIeq (by omega) (by decide)]; omega), if_neg (by rw [nIeq (by omega) (by decide)]; omega)]
      refine ⟨_, rfl, ?_⟩
      rw [if_pos rfl]
      exact sg_18_128 _ hK
    · rw [if_neg (by rw [nIeq (by omega) (by decide)]; exact hw0)]
      exact sg_18_128 _ hK
  rcases hv with hv | hv | hv
  · -- create
    have h0 : wd D (e.2.1 5) = 0 := by
      unfold tfit at t1
      rw [if_pos hv] at t1
      exact of_decide_eq_true t1
    have ec : efC D e = 0 := by
      unfold efC
      rw [hf, if_neg (by decide), if_neg (by omega), if_neg (by omega), if_neg (by omega)]
    have ed : efD D e = mkD D e := by unfold efD; rw [ec, if_neg (by decide), if_pos hv]
    have ea : efA D e = an0 := by unfold efA; rw [ec, if_neg (by decide), if_pos (Or.inl hv)]
    rw [ec, ed, ea] at k
    rw [if_pos (by rw [hv]), show m.F 12 8 = nI (e.2.1 8) from hS.1 8 rfl]
    refine c_31 hI h5 h0 hD (fun m1 hD1 f1 => ⟨rfl, _, rfl, ?_⟩)
    have f2 : Fr S18 m m1 := f1.mono (fun c hc => t5 h5 (by decide) c (by rw [List.mem_singleton.mp hc]; simp))
    have n0 : ∀ c, c ∉ [3, 4, 5, 6, 7, 8, 9, 10, 11] → c ∉ [3 + 3 * e.2.1 5] := fun c hc hm => hc (t5 h5 (fun _ h => h) c (by rw [List.mem_singleton.mp hm]; simp))
    exact fin 0 m1 (by decide) f2 (by rw [f1.f (n0 12 (by decide))]; exact h4) (k m1 (hA.fr f1 (n0 0 (by decide)) (n0 40 (by decide))) hD1 (G0.fr f1 (n0 0 (by decide))) f2 (fun c hc f => f1.f (n0 c (by rcases hc with z | z | z | z <;> rw [z] <;> decide)) f))
  · -- index
    have h7 : 0 < e.2.1 7 ∧ e.2.1 7 < wd D (e.2.1 5) := by
      unfold cfit at t2
      rw [if_pos hv] at t2
      have := of_decide_eq_true t2
      exact ⟨this.1, this.2.1⟩
    have ec : efC D e = 0 := by
      unfold efC
      rw [hf, if_neg (by decide), if_neg (by omega), if_neg (by omega), if_neg (by omega)]
    have ed : efD D e = ixD D e := by unfold efD; rw [ec, if_neg (by decide), if_neg (by omega), if_pos hv]
    have ea : efA D e = an0 := by unfold efA; rw [ec, if_neg (by decide), if_pos (Or.inr hv)]
    rw [ec, ed, ea] at k
    rw [if_neg (by rw [nIeq (by omega) (by decide)]; omega), if_pos (by rw [hv]), show m.F 12 7 = nI (e.2.1 7) from hS.1 7 rfl]
    refine c_32 hL hI h5 h7 hD (fun m1 hD1 f1 => ⟨rfl, _, rfl, ?_⟩)
    have f2 : Fr S18 m m1 := f1.mono (fun c hc => t5 h5 (by decide) c (by rw [List.mem_singleton.mp hc]; simp))
    have n0 : ∀ c, c ∉ [3, 4, 5, 6, 7, 8, 9, 10, 11] → c ∉ [3 + 3 * e.2.1 5 + 2] := fun c hc hm => hc (t5 h5 (fun _ h => h) c (by rw [List.mem_singleton.mp hm]; simp))
    exact fin 0 m1 (by decide) f2 (by rw [f1.f (n0 12 (by decide))]; exact h4) (k m1 (hA.fr f1 (n0 0 (by decide)) (n0 40 (by decide))) hD1 (G0.fr f1 (n0 0 (by decide))) f2 (fun c hc f => f1.f (n0 c (by rcases hc with z | z | z | z <;> rw [z] <;> decide)) f))
  · -- insert
    have ec : efC D e = insC D e := by
      unfold efC
      rw [hf, if_neg (by decide), if_pos hv]
    have hic : insC D e < 100 := by
      unfold insC
      split
      · decide
      · split <;> decide
    rw [if_neg (by rw [nIeq (by omega) (by decide)]; omega), if_neg (by rw [nIeq (by omega) (by decide)]; omega), if_pos (by rw [hv])]
    refine c_20 hWF hV hv hf hI hL hS hC hD (fun m1 f1 g1 g11 hD1 => ⟨_, rfl, _, rfl, ?_⟩)
    have f2 : Fr S18 m m1 := f1.mono (by decide)
    refine fin (insC D e) m1 hic f2 (by rw [f1.f (by decide)]; exact h4) ?_
    have hG : G0 m m1 := fun f hf => g1 f (fun z => hf (by rw [z]; decide))
    rw [ec] at k
    refine k m1 ?_ ?_ hG f2 (fun c hc f => f1.f (by rcases hc with z | z | z | z <;> rw [z] <;> decide) f)
    · obtain ⟨a1, a2, a3, a4, a5⟩ := hA
      unfold efA
      rw [ec]
      by_cases h0 : insC D e = 0
      · rw [if_neg (by rw [h0]; decide), if_neg (by omega), if_pos hv]
        rw [if_pos h0] at g11
        exact ⟨g11, by rw [g1 12 (by decide)]; exact a2, by rw [g1 13 (by decide)]; exact a3, by rw [g1 14 (by decide)]; exact a4, fun r c _ hc => absurd hc (Nat.not_lt_zero c)⟩
      · rw [if_pos h0]
        rw [if_neg h0] at g11
        exact ⟨by rw [g11]; exact a1, by rw [g1 12 (by decide)]; exact a2, by rw [g1 13 (by decide)]; exact a3, by rw [g1 14 (by decide)]; exact a4, fun r c _ hc => absurd hc (Nat.not_lt_zero c)⟩
    · unfold efD
      rw [ec]
      by_cases h0 : insC D e = 0
      · rw [if_neg (by rw [h0]; decide), if_neg (by omega), if_neg (by omega), if_pos hv]
        rw [if_pos h0] at hD1
        exact hD1
      · rw [if_pos h0]
        rw [if_neg h0] at hD1
        exact hD1
end C98
