/-! MARK, UPDATE and REMOVE, the reference -/
def wE (D : Db) (e : St) (env : Evr) : Bool := decide (e.2.1 11 = 0) || decide (val env (seg (rs_ D e) (e.2.1 10) (e.2.1 11)) = 2)
section M99
variable {d nm : Nat} {m m0 m1 : Mm} {K : Option Value → Mm → Prop} {D : Db} {e : St} {P : Nat → List (List Int64)} {ps : List Pt} {env : Evr} {f : Nat → Nat}
theorem c_169 (hWF : WF e) (hL : Len m) (hC : RE m (rs_ D e) f) (hS : RS m e.2 nm) (hV : RV m env f (rs_ D e)) (hE : EnvOk env (rs_ D e)) (k : ∀ m', Fq [] [61] m m' → K (some (.int (bI (wE D e env = true)))) m') : WP (d + 2) 169 [.ref 42] m K := by
  obtain ⟨s1, s2, s3, s4, s5, s6, s7, s8, s9, s10, s11, s12, s13, s14⟩ := hS
  refine sp_169 ?_
  unfold wE at k
  by_cases h11 : e.2.1 11 = 0
  · rw [s9, if_pos (by rw [if_pos h11])]
    rw [decide_eq_true h11, Bool.true_or, bI_t rfl] at k
    exact k m (Fq.refl _ _ _)
  · rw [s9, if_neg (by rw [if_neg h11]; decide), (s10 h11).1, (s10 h11).2]
    rw [decide_eq_false h11, Bool.false_or] at k
    obtain ⟨w1, w2, w3⟩ := hWF.2.2.1 h11
    have hlen : (rs_ D e).length = e.1.2.1.length := by unfold rs_; rw [List.length_map]
    refine c_167 (b := true) (env := env) (c := seg (rs_ D e) (e.2.1 10) (e.2.1 11)) hL hC rfl (by omega) (by omega) (fun x hx h3 => hV x (seg_mem hx) h3) (fun x hx h3 => hE x (seg_mem hx) h3) (by unfold rs_; rw [seg_map]; exact tyC_map w3) (fun m1 f1 => ⟨_, rfl, ?_⟩)
    by_cases hv : val env (seg (rs_ D e) (e.2.1 10) (e.2.1 11)) = 2
    · rw [if_pos ((lg_k _ _).mpr (tr1.mpr hv))]
      have := k m1 f1
      rw [bI_t (decide_eq_true hv)] at this
      exact this
    · rw [if_neg (fun z => hv (tr1.mp ((lg_k _ _).mp z)))]
      have := k m1 f1
      rw [bI_f (by rw [decide_eq_false hv]; decide)] at this
      exact this
theorem no1 (hWF : WF e) (ha : e.1.2.1.all (okSb D e) = true) (hz : e.2.1 6 = 0) {l : List Op} (hl : ∀ x, x ∈ l → x ∈ rs_ D e) : hasS l (1 - 0) = false := by
  cases h : hasS l (1 - 0) with
  | false => rfl
  | true =>
    unfold hasS at h
    rw [List.any_eq_true] at h
    obtain ⟨x, hx, hd⟩ := h
    have hd := of_decide_eq_true hd
    have := (col0 hWF ha hz x (hl x hx) hd.1).1
    rw [this] at hd
    exact absurd hd.2 (by decide)
/-- the row that the reference stands at, one table -/
theorem RV1t (hWF : WF e) (hI : DI D) (ha : e.1.2.1.all (okSb D e) = true) (hz : e.2.1 6 = 0) (hQ : RQ m (rs_ D e) (tq e) D P ps) {r : Nat} (hr : r < (rw_ D (e.2.1 5)).length) (h60 : (m.A 60).getD (e.2.1 5) 0 = nI r) : RV m (envS 0 ((P (e.2.1 5)).getD r [])) (tq e) (rs_ D e) ∧ EnvOk (envS 0 ((P (e.2.1 5)).getD r [])) (rs_ D e) := by
  have := RVS (o := 0) (r := r) hQ hI (by decide) (fun x hx h3 => (rs_col ha hWF.1 x hx h3).2.2.1) (by rw [tq0]; exact hr) (by rw [tq0]; exact h60) (l := rs_ D e) (fun x hx => hx) (no1 hWF ha hz (fun x hx => hx))
  rw [tq0] at this
  exact this
theorem bI_b (p : Prop) [Decidable p] : vp_nar .boolean (bI p) = bI p := by
  by_cases h : p
  · rw [bI_t h]; rfl
  · rw [bI_f h]; rfl
def MK (m : Mm) (D : Db) (e : St) (R : List (List Int64)) (n : Nat) : Prop := ∀ r, r < n → (m.A 63).getD r 0 = bI (whR D e (R.getD r []) = true) ∧ (0 < e.2.2.length → (m.B 62).getD r 0 = nwR D e (R.getD r []))
theorem lp_181 (hWF : WF e) (hI : DI D) (ha : e.1.2.1.all (okSb D e) = true) (hz : e.2.1 6 = 0) (h7 : 0 < e.2.2.length → e.2.1 7 < wd D (e.2.1 5)) (h1 : e.2.2.length ≤ 1) : ∀ (n r : Nat) (m : Mm), r + n = (rw_ D (e.2.1 5)).length → RQ m (rs_ D e) (tq e) D P ps → RS m e.2 nm → MK m D e (P (e.2.1 5)) r → (∀ m', MK m' D e (P (e.2.1 5)) (rw_ D (e.2.1 5)).length → Fq [] [60, 61, 62, 63] m m' → K none m') → WH (d + 3) 181 2 [(0, .ref 42), (1, .int (nI (e.2.1 5))), (2, .int (nI r))] [] m K := by
  have h5 := hWF.2.2.2.2.2.2.2.2.1
  have h7' := hWF.2.2.2.2.2.2.2.2.2.2.1
  have hR20 := (hI _ h5).2.1
  have hw4 := (hI _ h5).1
  intro n
  induction n with
  | zero =>
    intro r m hr hQ hS hM k
    have l7 : (m.A 57).length = 3 := hQ.1.a (by decide) rfl
    have hD := hQ.2.2.2.2.2.1
    refine sg_181_2 _ _ ?_
    rw [l7, ix_nI (by omega), (hD _ h5).2.1, if_pos (by rw [nIle (by omega) (by omega)]; omega)]
    refine ⟨ok_nI (by omega) (by decide), k m ?_ (Fq.refl _ _ _)⟩
    rw [show r = (rw_ D (e.2.1 5)).length by omega] at hM
    exact hM
  | succ n ih =>
    intro r m hr hQ hS hM k
    have l7 : (m.A 57).length = 3 := hQ.1.a (by decide) rfl
    have l60 : (m.A 60).length = 3 := hQ.1.a (by decide) rfl
    have hD := hQ.2.2.2.2.2.1
    have hS0 := hS
    obtain ⟨s1, s2, s3, s4, s5, s6, s7, s8, s9, s10, s11, s12, s13, s14⟩ := hS
    refine sg_181_2 _ _ ?_
    rw [l7, ix_nI (by omega), (hD _ h5).2.1, if_neg (by rw [nIle (by omega) (by omega)]; omega), l60]
    refine ⟨ok_nI (by omega) (by decide), ok_nI (by omega) (by decide), ?_⟩
    have f1 : Fq [] [60, 61, 62, 63] m (m.uA 60 ((m.A 60).set (e.2.1 5) (nI r))) := Fq.uA (Fq.refl _ _ _) (by decide) (by rw [List.length_set])
    have e60 : ((m.uA 60 ((m.A 60).set (e.2.1 5) (nI r))).A 60).getD (e.2.1 5) 0 = nI r := by
      rw [mA_A, if_pos rfl, getD_set _ _ _ _ _ (by omega), if_pos rfl]
    have hM1 : MK (m.uA 60 ((m.A 60).set (e.2.1 5) (nI r))) D e (P (e.2.1 5)) r := fun q hq => by
      have := hM q hq
      rw [mA_A, if_neg (by decide)]
      exact this
    generalize m.uA 60 ((m.A 60).set (e.2.1 5) (nI r)) = m1 at *
    have hQ1 := hQ.fq f1 (by decide) (by decide)
    have hS1 := hS0.fq f1 (by decide) (by decide)
    have hRV := RV1t hWF hI ha hz hQ1 (r := r) (by omega) e60
    refine c_169 (d := d) hWF hQ1.1 hQ1.2.1 hS1 hRV.1 hRV.2 (fun m2 f2 => ⟨_, rfl, ?_⟩)
    have l63 : (m2.A 63).length = 20 := (hQ1.1.fq f2).a (by decide) rfl
    have l58 : (m2.B 58).length = 240 := (hQ1.1.fq f2).b (by decide) rfl
    have l62 : (m2.B 62).length = 20 := (hQ1.1.fq f2).b (by decide) rfl
    have hQ2 := hQ1.fq f2 (by decide) (by decide)
    have hS2 := hS1.fq f2 (by decide) (by decide)
    have e20 : m2.F 42 20 = nI (e.2.1 7) := hS2.2.2.2.2.1
    have e22 : m2.F 42 22 = nI e.2.2.length := hS2.2.2.2.2.2.2.1
    have e60' : (m2.A 60).getD (e.2.1 5) 0 = nI r := by rw [f2.a (by decide)]; exact e60
    have em : nI (e.2.1 7) - nI (e.2.1 7) / nI 4 * nI 4 = nI (e.2.1 7) := by
      rcases (by omega : e.2.1 7 = 0 ∨ e.2.1 7 = 1 ∨ e.2.1 7 = 2 ∨ e.2.1 7 = 3) with z | z | z | z <;> rw [z] <;> decide
    have hM2 : MK m2 D e (P (e.2.1 5)) r := fun q hq => by
      rw [f2.a (by decide), f2.1.b (by decide)]
      exact hM1 q hq
    have ew : wE D e (envS 0 ((P (e.2.1 5)).getD r [])) = whR D e ((P (e.2.1 5)).getD r []) := rfl
    rw [ew, bI_b, e20, em, pk_mul, pk_mul, nI_add, nI_add, nI_add, List.length_set, l63, l58, l62, ix_nI (by omega), ix_nI (by omega), getD_set _ _ _ _ _ (by omega), if_pos rfl, e22]
    refine ⟨ok_nI (by omega) (by decide), ok_nI (by omega) (by decide), ok_nI (by omega) (by decide), ok_nI (by omega) (by decide), ?_⟩
    have f3 : Fq [] [60, 61, 62, 63] m ((m2.uA 63 ((m2.A 63).set r (bI (whR D e ((P (e.2.1 5)).getD r []) = true)))).uB 62 ((m2.B 62).set r ((m2.B 58).getD (80 * e.2.1 5 + 4 * r + e.2.1 7) 0))) := Fq.uB (Fq.uA (f1.trans (f2.mono (by decide) (by decide))) (by decide) (by rw [List.length_set])) (by decide) (by rw [List.length_set]; rfl)
    have hnew : (0 < e.2.2.length → whR D e ((P (e.2.1 5)).getD r []) ≠ true → (m2.B 58).getD (80 * e.2.1 5 + 4 * r + e.2.1 7) 0 = nwR D e ((P (e.2.1 5)).getD r [])) := by
      intro hl hn
      unfold nwR
      rw [if_neg hn]
      exact (hQ2.2.2.2.2.2.1 _ h5).2.2.2.1 r (by omega) _ (h7 hl)
    have g63 : ∀ q, (((m2.uA 63 ((m2.A 63).set r (bI (whR D e ((P (e.2.1 5)).getD r []) = true)))).uB 62 ((m2.B 62).set r ((m2.B 58).getD (80 * e.2.1 5 + 4 * r + e.2.1 7) 0))).A 63).getD q 0 = if q = r then bI (whR D e ((P (e.2.1 5)).getD r []) = true) else (m2.A 63).getD q 0 := fun q => by
      rw [mA_B, mA_A, if_pos rfl, getD_set _ _ _ _ _ (by omega)]
    have g62 : ∀ q, (((m2.uA 63 ((m2.A 63).set r (bI (whR D e ((P (e.2.1 5)).getD r []) = true)))).uB 62 ((m2.B 62).set r ((m2.B 58).getD (80 * e.2.1 5 + 4 * r + e.2.1 7) 0))).B 62).getD q 0 = if q = r then (m2.B 58).getD (80 * e.2.1 5 + 4 * r + e.2.1 7) 0 else (m2.B 62).getD q 0 := fun q => by
      rw [mB_B, if_pos rfl, getD_set _ _ _ _ _ (by omega)]
    have f23 : Fq [] [60, 61, 62, 63] m2 ((m2.uA 63 ((m2.A 63).set r (bI (whR D e ((P (e.2.1 5)).getD r []) = true)))).uB 62 ((m2.B 62).set r ((m2.B 58).getD (80 * e.2.1 5 + 4 * r + e.2.1 7) 0))) := Fq.uB (Fq.uA (Fq.refl _ _ _) (by decide) (by rw [List.length_set])) (by decide) (by rw [List.length_set]; rfl)
    have h60n : ((m2.uA 63 ((m2.A 63).set r (bI (whR D e ((P (e.2.1 5)).getD r []) = true)))).uB 62 ((m2.B 62).set r ((m2.B 58).getD (80 * e.2.1 5 + 4 * r + e.2.1 7) 0))).A 60 = m2.A 60 := by
      rw [mA_B, mA_A, if_neg (by decide)]
    generalize (m2.uA 63 ((m2.A 63).set r (bI (whR D e ((P (e.2.1 5)).getD r []) = true)))).uB 62 ((m2.B 62).set r ((m2.B 58).getD (80 * e.2.1 5 + 4 * r + e.2.1 7) 0)) = m3 at *
    have hQ3 := hQ.fq f3 (by decide) (by decide)
    have hS3 := hS0.fq f3 (by decide) (by decide)
    have next : (0 < e.2.2.length → (m3.B 62).getD r 0 = nwR D e ((P (e.2.1 5)).getD r [])) → WH (d + 3) 181 2 [(0, .ref 42), (1, .int (nI (e.2.1 5))), (2, .int (nI (r + 1)))] [] m3 K := by
      intro hB
      refine ih (r + 1) m3 (by omega) hQ3 hS3 (fun q hq => ?_) (fun m' a1 a2 => k m' a1 (f3.trans a2))
      by_cases hqr : q = r
      · rw [hqr]
        exact ⟨by rw [g63, if_pos rfl], hB⟩
      · rw [g63, if_neg hqr, g62, if_neg hqr]
        exact hM2 q (by omega)
    by_cases hw : whR D e ((P (e.2.1 5)).getD r []) = true
    · rw [bI_t hw, if_neg (by decide)]
      by_cases hl : e.2.2.length = 0
      · rw [if_pos (by rw [hl]; decide)]
        exact next (fun z => by omega)
      · rw [if_neg (by rw [nIle (by omega) (by decide)]; omega)]
        have l51 : (m2.A 51).length = 4 := (hQ1.1.fq f2).a (by decide) rfl
        have l52 : (m2.A 52).length = 4 := (hQ1.1.fq f2).a (by decide) rfl
        obtain ⟨u1, u2⟩ := hS2.2.2.2.2.2.2.2.1 0 (by omega) (by decide)
        rw [l51, l52, show ix (nI 0) = 0 from rfl, u1, u2]
        refine ⟨ok_nI (by decide) (by decide), ok_nI (by decide) (by decide), ?_⟩
        obtain ⟨w1, w2, w3⟩ := hWF.2.1 0 (by omega)
        have hlen : (rs_ D e).length = e.1.2.1.length := by unfold rs_; rw [List.length_map]
        have hRV3 := RV1t hWF hI ha hz hQ3 (r := r) (by omega) (by rw [h60n]; exact e60')
        refine c_167 (b := false) (env := envS 0 ((P (e.2.1 5)).getD r [])) (c := seg (rs_ D e) (tmF e.2 0) (e.2.2.getD 0 0)) hQ3.1 hQ3.2.1 rfl (by omega) (by omega) (fun x hx h3 => hRV3.1 x (seg_mem hx) h3) (fun x hx h3 => hRV3.2 x (seg_mem hx) h3) (by unfold rs_; rw [seg_map]; exact tyC_map w3) (fun m4 f4 => ⟨_, rfl, ?_⟩)
        have l62' : (m4.B 62).length = 20 := (hQ3.1.fq f4).b (by decide) rfl
        have ev : tr false (val (envS 0 ((P (e.2.1 5)).getD r [])) (seg (rs_ D e) (tmF e.2 0) (e.2.2.getD 0 0))) = nwR D e ((P (e.2.1 5)).getD r []) := by
          unfold tr nwR
          rw [if_neg (by decide), if_pos hw]
        rw [ev, l62']
        refine ⟨ok_nI (by omega) (by decide), ?_⟩
        have f5 : Fq [] [60, 61, 62, 63] m (m4.uB 62 ((m4.B 62).set r (nwR D e ((P (e.2.1 5)).getD r [])))) := Fq.uB (f3.trans (f4.mono (by decide) (by decide))) (by decide) (by rw [List.length_set])
        refine ih (r + 1) _ (by omega) (hQ.fq f5 (by decide) (by decide)) (hS0.fq f5 (by decide) (by decide)) (fun q hq => ?_) (fun m' a1 a2 => k m' a1 (f5.trans a2))
        rw [mB_B, if_pos rfl, getD_set _ _ _ _ _ (by omega), show ((m4.uB 62 ((m4.B 62).set r (nwR D e ((P (e.2.1 5)).getD r [])))).A 63) = m4.A 63 from rfl, f4.a (by decide), g63, f4.1.b (by decide), g62]
        by_cases hqr : q = r
        · rw [if_pos hqr, if_pos hqr, hqr]
          exact ⟨rfl, fun _ => rfl⟩
        · rw [if_neg hqr, if_neg hqr, if_neg hqr]
          exact hM2 q (by omega)
    · rw [bI_f hw, if_pos rfl]
      exact next (fun hl => by rw [g62, if_pos rfl]; exact hnew hl hw)
theorem c_181 (hWF : WF e) (hI : DI D) (ha : e.1.2.1.all (okSb D e) = true) (hz : e.2.1 6 = 0) (h7 : 0 < e.2.2.length → e.2.1 7 < wd D (e.2.1 5)) (h1 : e.2.2.length ≤ 1) (hQ : RQ m (rs_ D e) (tq e) D P ps) (hS : RS m e.2 nm) (k : ∀ m', MK m' D e (P (e.2.1 5)) (rw_ D (e.2.1 5)).length → Fq [] [60, 61, 62, 63] m m' → K none m') : WP (d + 3) 181 [.ref 42, .int (nI (e.2.1 5))] m K := by
  refine sp_181 _ ?_
  exact lp_181 hWF hI ha hz h7 h1 (rw_ D (e.2.1 5)).length 0 m (by omega) hQ hS (fun r hr => absurd hr (Nat.not_lt_zero r)) k
end M99
