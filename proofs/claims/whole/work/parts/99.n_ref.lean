/-! The reference carries out -/
def G166 : List Nat := [1, 48, 53, 54, 56, 57, 58]
def S166 : List Nat := [47, 56, 57, 58, 59, 60, 61, 62, 63, 64, 65, 66, 67, 68]
section X99
variable {d N nm : Nat} {m m0 m1 : Mm} {K : Option Value → Mm → Prop} {D : Db} {e : St} {P : Nat → List (List Int64)} {ps : List Pt} {t r q : Nat}
theorem flt3 (h2 : fault D e ≠ 2) : tfit D e = true ∧ cfit D e = true ∧ e.1.2.1.all (okSb D e) = true ∧ (fault D e = if nfit D e = true then 0 else 3) := by
  unfold fault at h2 ⊢
  split at h2
  · next h =>
    rw [if_pos h]
    exact ⟨h.1, h.2.1, h.2.2, rfl⟩
  · exact absurd rfl h2
theorem t_166 (hX : Rs m N e nm 1) (hnm : 0 < nm) (h17 : m.F 42 17 = nI (wc (e.2.1 4))) (hWF : WF e) (hV : VF e (e.2.1 4)) (hI : DI D) (hps : e.1.2.2.length ≤ 40) (hD : DR m D P) (hA : RA m an0) (k : ∀ m' P', RA m' (efA D e) → DR m' (efD D e) P' → m'.F 42 1 = nI 0 → Fq G166 S166 m m' → K (some (.int (nI (efC D e)))) m') : WH (d + 7) 166 19 [(0, .ref 42)] [] m K := by
  have h5 := hWF.2.2.2.2.2.2.2.2.1
  have h7' := hWF.2.2.2.2.2.2.2.2.2.2.1
  have h8' := hWF.2.2.2.2.2.2.2.2.2.2.2.1
  have hv46 : e.2.1 4 = 4 ∨ e.2.1 4 = 5 ∨ e.2.1 4 = 6 ∨ e.2.1 4 = 7 ∨ e.2.1 4 = 8 ∨ e.2.1 4 = 9 := hV.2.1
  have V : ∀ j, 4 ≤ j → j ≤ 9 → (nI (wc (e.2.1 4)) = nI (wc j)) = (e.2.1 4 = j) := fun j q1 q2 => wc_eq (by omega) (by omega) q1 (by omega)
  have h6 : m.F 42 6 = nI 0 := hX.2.2.2.2.2.1
  refine sg_166_19 ?_
  rw [if_pos h6]
  have f0 : Fq G166 S166 m (m.uF 42 1 (nI 0)) := Fq.uF (Fq.refl _ _ _) (by decide) _
  have f0r : Fr [42] m (m.uF 42 1 (nI 0)) := Fr.uF (Fr.refl _ m) (by decide) _ _
  have g0 : ∀ g, g ≠ 1 → (m.uF 42 1 (nI 0)).F 42 g = m.F 42 g := fun g hg => by rw [mF_F, if_neg (fun z => hg z.2)]
  have hX0 : Rs (m.uF 42 1 (nI 0)) N e nm 1 := by
    have f1 : Fq [1] [] m (m.uF 42 1 (nI 0)) := Fq.uF (Fq.refl _ _ _) (by decide) _
    obtain ⟨x1, x2, x3, x4, x5, x6, x7, x8, x9, x10⟩ := hX
    exact ⟨x1.fq f1, x2, x3, x4, x5.fq f1 (by decide) (by decide), x6, x7, fun z => absurd z (by decide), x9, x10⟩
  have hD0 : DR (m.uF 42 1 (nI 0)) D P := hD
  refine c_164 (d := d + 2) hX0 hnm (by rw [g0 17 (by decide)]; exact h17) hWF hV hD0 hI (fun m1 f1 hC => ⟨_, rfl, ?_⟩)
  have f01 : Fq G166 S166 m m1 := f0.trans (f1.mono (by decide) (by decide))
  have hL1 : Len m1 := hX.1.fq f01
  have hS1 : RS m1 e.2 nm := hX0.2.2.2.2.1.fq f1 (by decide) (by decide)
  have hP1 : RP m1 e.1.2.2 := by
    have := hX0.2.2.2.1
    unfold RP at this ⊢
    rw [f1.f (by decide), f1.a (by decide), f1.a (by decide), f1.a (by decide)]
    exact this
  have hD1 : DR m1 D P := by
    intro s hs
    obtain ⟨b1, b2, b3, b4, b5⟩ := hD0 s hs
    exact ⟨by rw [f1.a (by decide)]; exact b1, by rw [f1.a (by decide)]; exact b2, b3, fun i hi c hc => by rw [f1.1.b (by decide)]; exact b4 i hi c hc, fun c hc => by rw [f1.a (by decide)]; exact b5 c hc⟩
  have hA0 : RA (m.uF 42 1 (nI 0)) an0 := hA
  have hA1 : RA m1 an0 := hA0.fq f1 (by decide) (by decide)
  have e17 : m1.F 42 17 = nI (wc (e.2.1 4)) := by rw [f1.f (by decide), g0 17 (by decide)]; exact h17
  have e1 : m1.F 42 1 = nI 0 := by rw [f1.f (by decide)]; rfl
  by_cases hf2 : fault D e = 2
  · rw [bI_f (fun z => z hf2), if_pos rfl]
    have ec : efC D e = 2 := by unfold efC; rw [if_pos (by omega), hf2]
    have ea : efA D e = an0 := by unfold efA; rw [if_pos (by omega)]
    have ed : efD D e = D := by unfold efD; rw [if_pos (by omega)]
    rw [ea, ed, ec] at k
    exact k m1 P hA1 hD1 e1 f01
  rw [bI_t hf2, if_neg (by decide)]
  have hC1 := hC hf2
  obtain ⟨t1, t2, t3, t4⟩ := flt3 hf2
  have l50 : (m1.A 50).length = 2 := hL1.a (by decide) rfl
  have a50 : (m1.A 50).getD 0 0 = nI (e.2.1 5) := hS1.2.2.1 hnm
  rw [l50, show ix (nI 0) = 0 from rfl, a50, e17]
  refine ⟨ok_nI (by decide) (by decide), ?_⟩
  -- what fails afterwards
  have bad3 : fault D e = 3 → K (some (.int (nI 3))) m1 := by
    intro h
    have ec : efC D e = 3 := by unfold efC; rw [if_pos (by omega), h]
    have ea : efA D e = an0 := by unfold efA; rw [if_pos (by omega)]
    have ed : efD D e = D := by unfold efD; rw [if_pos (by omega)]
    rw [ea, ed, ec] at k
    exact k m1 P hA1 hD1 e1 f01
  refine c_wrd_4 (by omega) ⟨_, rfl, ?_⟩
  by_cases h44 : e.2.1 4 = 4
  · rw [if_pos ((V 4 (by decide) (by decide)).mpr h44), show m1.F 42 21 = nI (e.2.1 8) from hS1.2.2.2.2.2.1]
    have hn : (nfit D e = true) = (1 ≤ e.2.1 8 ∧ e.2.1 8 ≤ 4) := by unfold nfit; rw [if_pos h44, decide_eq_true_iff]
    by_cases h1 : e.2.1 8 < 1
    · rw [if_pos (by rw [nIlt (by omega) (by decide)]; exact h1)]
      exact sg_166_87 (bad3 (by rw [t4, if_neg (by rw [hn]; omega)]))
    · rw [if_neg (by rw [nIlt (by omega) (by decide)]; exact h1)]
      by_cases h4 : e.2.1 8 ≤ 4
      · rw [if_pos (by rw [nIle (by omega) (by decide)]; exact h4)]
        have l56 : (m1.A 56).length = 3 := hL1.a (by decide) rfl
        have hf : fault D e = 0 := by rw [t4, if_pos (by rw [hn]; omega)]
        have h0 : wd D (e.2.1 5) = 0 := by
          unfold tfit at t1
          rw [if_pos h44] at t1
          exact of_decide_eq_true t1
        have ec : efC D e = 0 := by unfold efC; rw [hf, if_neg (by decide), if_neg (by omega), if_neg (by omega), if_neg (by omega)]
        have ed : efD D e = mkD D e := by unfold efD; rw [ec, if_neg (by decide), if_pos h44]
        have ea : efA D e = an0 := by unfold efA; rw [ec, if_neg (by decide), if_pos (Or.inl h44)]
        rw [ec, ed, ea] at k
        rw [l56, ix_nI (by omega)]
        refine ⟨ok_nI (by omega) (by decide), ?_⟩
        exact k _ P hA1 (DR_mk hI h5 h0 hD1 l56) e1 (f01.trans (Fq.uA (Fq.refl _ _ _) (by decide) (by rw [List.length_set])))
      · rw [if_neg (by rw [nIle (by omega) (by decide)]; exact h4)]
        exact sg_166_87 (bad3 (by rw [t4, if_neg (by rw [hn]; omega)]))
  rw [if_neg (fun z => h44 ((V 4 (by decide) (by decide)).mp z)), e17]
  refine c_wrd_5 (by omega) ⟨_, rfl, ?_⟩
  by_cases h55 : e.2.1 4 = 5
  · rw [if_pos ((V 5 (by decide) (by decide)).mpr h55), show m1.F 42 20 = nI (e.2.1 7) from hS1.2.2.2.2.1]
    have l59 : (m1.A 59).length = 12 := hL1.a (by decide) rfl
    have hf : fault D e = 0 := by rw [t4, if_pos (by unfold nfit; rw [if_neg (by omega), if_neg (by omega)])]
    have ec : efC D e = 0 := by unfold efC; rw [hf, if_neg (by decide), if_neg (by omega), if_neg (by omega), if_neg (by omega)]
    have ed : efD D e = ixD D e := by unfold efD; rw [ec, if_neg (by decide), if_neg (by omega), if_pos h55]
    have ea : efA D e = an0 := by unfold efA; rw [ec, if_neg (by decide), if_pos (Or.inr h55)]
    rw [ec, ed, ea] at k
    rw [pk_mul, nI_add, l59, ix_nI (by omega)]
    refine ⟨ok_nI (by omega) (by decide), ?_⟩
    exact k _ P hA1 (DR_ix hI h5 h7' hD1 l59) e1 (f01.trans (Fq.uA (Fq.refl _ _ _) (by decide) (by rw [List.length_set])))
  rw [if_neg (fun z => h55 ((V 5 (by decide) (by decide)).mp z)), e17]
  refine c_wrd_6 (by omega) ⟨_, rfl, ?_⟩
  by_cases h66 : e.2.1 4 = 6
  · rw [if_pos ((V 6 (by decide) (by decide)).mpr h66)]
    have hn : (nfit D e = true) = (e.2.2.length = wd D (e.2.1 5)) := by unfold nfit; rw [if_neg (by omega), if_pos h66, decide_eq_true_iff]
    by_cases hnf : nfit D e = true
    · have hf : fault D e = 0 := by rw [t4, if_pos hnf]
      have ec : efC D e = insC D e := by unfold efC; rw [hf, if_neg (by decide), if_pos h66]
      refine c_180 (d := d + 4) hWF hV h66 hf hI hL1 hS1 hC1 hD1 (fun m2 P2 f2 g53 hD2 => ⟨_, rfl, ?_⟩)
      have f12 : Fq G166 S166 m m2 := f01.trans (f2.mono (by decide) (by decide))
      rw [ec] at k
      obtain ⟨r1, r2, r3, r4, r5⟩ := hA1
      refine k m2 P2 ?_ ?_ (by rw [f2.f (by decide)]; exact e1) f12
      · unfold efA
        rw [ec]
        by_cases hc : insC D e = 0
        · rw [if_neg (by rw [hc]; decide), if_neg (by omega), if_pos h66]
          rw [if_pos hc] at g53
          exact ⟨g53, by rw [f2.f (by decide)]; exact r2, by rw [f2.f (by decide)]; exact r3, by rw [f2.f (by decide)]; exact r4, fun r c _ hc => absurd hc (Nat.not_lt_zero c)⟩
        · rw [if_pos hc]
          rw [if_neg hc] at g53
          exact ⟨by rw [g53]; exact r1, by rw [f2.f (by decide)]; exact r2, by rw [f2.f (by decide)]; exact r3, by rw [f2.f (by decide)]; exact r4, fun r c _ hc => absurd hc (Nat.not_lt_zero c)⟩
      · unfold efD
        rw [ec]
        by_cases hc : insC D e = 0
        · rw [if_neg (by rw [hc]; decide), if_neg (by omega), if_neg (by omega), if_pos h66]
          rw [if_pos hc] at hD2; exact hD2
        · rw [if_pos hc]
          rw [if_neg hc] at hD2; exact hD2
    · have hf : fault D e = 3 := by rw [t4, if_neg hnf]
      have l56 : (m1.A 56).length = 3 := hL1.a (by decide) rfl
      have hw4 := (hI _ h5).1
      have hlN := hX.2.2.2.2.2.2.2.2.2
      have hN80 := hX.2.1.2.2.2.1
      refine sp_180 _ ?_
      rw [l56, ix_nI (by omega), (hD1 _ h5).1, show m1.F 42 22 = nI e.2.2.length from hS1.2.2.2.2.2.2.1, if_neg (by rw [nIeq (by omega) (by omega)]; rw [hn] at hnf; exact hnf)]
      exact ⟨ok_nI (by omega) (by decide), _, rfl, bad3 hf⟩
  rw [if_neg (fun z => h66 ((V 6 (by decide) (by decide)).mp z)), e17]
  -- the others
  have hnf : nfit D e = true := by unfold nfit; rw [if_neg h44, if_neg h66]
  have hf : fault D e = 0 := by rw [t4, if_pos hnf]
  have hC1q := RE_tq t3 hWF hC1
  have hQ1 := RQ_of hWF t3 t1 h44 hps hL1 hC1q hD1 hP1
  obtain ⟨r1, r2, r3, r4, r5⟩ := hA1
  have htf := t1
  unfold tfit at htf
  rw [if_neg h44] at htf
  have htf := of_decide_eq_true htf
  refine c_wrd_9 (by omega) ⟨_, rfl, ?_⟩
  by_cases h99 : e.2.1 4 = 9
  · rw [if_pos ((V 9 (by decide) (by decide)).mpr h99)]
    have h3 := (hV.2.2.2.2.2.2.2 h99).2
    have hab : e.2.1 6 ≠ 0 → tq e 0 ≠ tq e 1 := by
      intro hz
      rw [tq0]
      unfold tq
      rw [if_neg (by omega)]
      rcases htf.2 with z | z
      · exact absurd z hz
      · exact fun q => z.1 q.symm
    have h01 : 0 < wd D (tq e 0) ∧ 0 < wd D (tq e 1) := by
      refine ⟨by rw [tq0]; exact htf.1, ?_⟩
      unfold tq
      by_cases hz : e.2.1 6 = 0
      · rw [if_pos (Or.inr hz)]; exact htf.1
      · rw [if_neg (by omega)]
        rcases htf.2 with z | z
        · exact absurd z hz
        · exact z.2
    refine c_184 (d := d) hWF hI t3 hab h01 h3 hnm hQ1 hS1 r1 (fun h60 m2 f2 => ⟨_, rfl, ?_⟩) (fun h60 m2 g53 g54 g56 g57 gB f2 => ⟨_, rfl, ?_⟩)
    · have ec : efC D e = 5 := by unfold efC; rw [hf, if_neg (by decide), if_neg (by omega), if_neg (by omega), if_pos ⟨h99, h60⟩]
      have ea : efA D e = an0 := by unfold efA; rw [if_pos (by omega)]
      have ed : efD D e = D := by unfold efD; rw [if_pos (by omega)]
      rw [ea, ed, ec] at k
      have hA2 : RA m2 an0 := RA.fq ⟨r1, r2, r3, r4, r5⟩ f2 (by decide) (by decide)
      exact k m2 P hA2 (hQ1.fq f2 (by decide) (by decide)).2.2.2.2.2.1 (by rw [f2.f (by decide)]; exact e1) (f01.trans (f2.mono (by decide) (by decide)))
    · have ec : efC D e = 0 := by unfold efC; rw [hf, if_neg (by decide), if_neg (by omega), if_neg (by omega), if_neg (by omega)]
      have ed : efD D e = D := by unfold efD; rw [ec, if_neg (by decide), if_neg (by omega), if_neg (by omega), if_neg (by omega), if_neg (by omega), if_neg (by omega)]
      have ea : efA D e = (selN e (hitE D e), e.2.2.length, rdE D e, plE D e, selV D e (hitE D e)) := by unfold efA; rw [ec, if_neg (by decide), if_neg (by omega), if_neg (by omega), if_pos h99]
      rw [ea, ed, ec] at k
      exact k m2 P ⟨g53, g54, g56, g57, gB⟩ (hQ1.fq f2 (by decide) (by decide)).2.2.2.2.2.1 (by rw [f2.f (by decide)]; exact e1) (f01.trans (f2.mono (by decide) (by decide)))
  rw [if_neg (fun z => h99 ((V 9 (by decide) (by decide)).mp z))]
  have hno9 := hV.2.2.1 h99
  have h7c : 0 < e.2.2.length → e.2.1 7 < wd D (e.2.1 5) := by
    intro hl
    have h77 : e.2.1 4 = 7 := by
      by_cases z : e.2.1 4 = 8
      · have := hV.2.2.2.2.2.2.1 z
        rw [this] at hl
        exact absurd hl (Nat.not_lt_zero _)
      · omega
    unfold cfit at t2
    rw [if_neg h55, if_pos h77] at t2
    exact of_decide_eq_true t2
  have hl1 : e.2.2.length ≤ 1 := by
    by_cases z : e.2.1 4 = 8
    · rw [hV.2.2.2.2.2.2.1 z]; decide
    · have := hV.2.2.2.2.2.1 (by omega); omega
  refine c_181 (d := d + 3) hWF hI t3 hno9.1 h7c hl1 hQ1 hS1 (fun m2 hM2 f2 => ⟨rfl, ?_⟩)
  have f12 : Fq G166 S166 m m2 := f01.trans (f2.mono (by decide) (by decide))
  have hQ2 := hQ1.fq f2 (by decide) (by decide)
  have hS2 := hS1.fq f2 (by decide) (by decide)
  have hA2 : RA m2 an0 := RA.fq ⟨r1, r2, r3, r4, r5⟩ f2 (by decide) (by decide)
  refine c_wrd_7 (by omega) ⟨_, rfl, ?_⟩
  have e17' : m2.F 42 17 = nI (wc (e.2.1 4)) := by rw [f2.f (by decide)]; exact e17
  have e1' : m2.F 42 1 = nI 0 := by rw [f2.f (by decide)]; exact e1
  rw [e17']
  by_cases h77 : e.2.1 4 = 7
  · rw [if_pos ((V 7 (by decide) (by decide)).mpr h77)]
    have hl : 0 < e.2.2.length := by have := hV.2.2.2.2.2.1 h77; omega
    have ec : efC D e = updC D e := by unfold efC; rw [hf, if_neg (by decide), if_neg h66, if_pos h77]
    rw [ec] at k
    refine c_182 (d := d + 1) hWF hI t3 hno9.1 (h7c hl) hl hM2 hQ2 hS2 (fun m3 P3 gy gn g53 hD3 f3 => ⟨_, rfl, ?_⟩)
    obtain ⟨s1, s2, s3, s4, s5⟩ := hA2
    refine k m3 P3 ?_ ?_ (by rw [f3.f (by decide)]; exact e1') (f12.trans (f3.mono (by decide) (by decide)))
    · unfold efA
      rw [ec]
      by_cases hc : updC D e = 0
      · rw [if_neg (by rw [hc]; decide), if_neg (by omega), if_neg h66, if_neg h99]
        rw [if_pos hc] at g53
        exact ⟨g53, by rw [f3.f (by decide)]; exact s2, (gy hc).1, (gy hc).2, fun r c _ hc => absurd hc (Nat.not_lt_zero c)⟩
      · rw [if_pos hc]
        rw [if_neg hc] at g53
        exact ⟨by rw [g53]; exact s1, by rw [f3.f (by decide)]; exact s2, by rw [(gn hc).1]; exact s3, by rw [(gn hc).2]; exact s4, fun r c _ hc => absurd hc (Nat.not_lt_zero c)⟩
    · unfold efD
      rw [ec]
      by_cases hc : updC D e = 0
      · rw [if_neg (by rw [hc]; decide), if_neg h44, if_neg h55, if_neg h66, if_pos h77]
        rw [if_pos hc] at hD3; exact hD3
      · rw [if_pos hc]
        rw [if_neg hc] at hD3; exact hD3
  rw [if_neg (fun z => h77 ((V 7 (by decide) (by decide)).mp z))]
  have h88 : e.2.1 4 = 8 := by omega
  have ec : efC D e = 0 := by unfold efC; rw [hf, if_neg (by decide), if_neg h66, if_neg h77, if_neg (by omega)]
  have ed : efD D e = delD D e := by unfold efD; rw [ec, if_neg (by decide), if_neg h44, if_neg h55, if_neg h66, if_neg h77, if_pos h88]
  have ea : efA D e = ((rw_ D (e.2.1 5)).countP (whR D e), 0, rdE D e, plE D e, fun _ _ => 0) := by unfold efA; rw [ec, if_neg (by decide), if_neg (by omega), if_neg h66, if_neg h99]
  rw [ec, ed, ea] at k
  refine c_177e (d := d + 2) hWF hI t3 hno9.1 hQ2 (fun m3 g56 g57 f3 => ⟨rfl, ?_⟩)
  obtain ⟨s1, s2, s3, s4, s5⟩ := hA2
  have hQ3 := hQ2.fq f3 (by decide) (by decide)
  have hM3 : MK m3 D e (P (e.2.1 5)) (rw_ D (e.2.1 5)).length := fun r hr => by
    rw [f3.a (by decide), f3.1.b (by decide)]; exact hM2 r hr
  refine c_183 hI h5 hQ3.1 hQ3.2.2.2.2.2.1 hM3 (by rw [f3.f (by decide)]; exact s1) (fun m4 P4 hD4 g53 f4 => ⟨rfl, ?_⟩)
  exact k m4 P4 ⟨g53, by rw [f4.f (by decide), f3.f (by decide)]; exact s2, by rw [f4.f (by decide)]; exact g56, by rw [f4.f (by decide)]; exact g57, fun r c _ hc => absurd hc (Nat.not_lt_zero c)⟩ hD4 (by rw [f4.f (by decide), f3.f (by decide)]; exact e1') ((f12.trans (f3.mono (by decide) (by decide))).trans (f4.mono (by decide) (by decide)))
end X99
