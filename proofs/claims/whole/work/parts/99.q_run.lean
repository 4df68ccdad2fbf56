/-! run() of the reference -/
def SRf : List Nat := [42, 44, 45, 46, 47, 48, 49, 50, 51, 52, 53, 54, 55, 56, 57, 58, 59, 60, 61, 62, 63, 64, 65, 66, 67, 68]
section Y99
variable {d N nm : Nat} {m m0 m1 : Mm} {K : Option Value → Mm → Prop} {D : Db} {e : St} {P : Nat → List (List Int64)} {cl : List Nat}
theorem DR.fr' {S : List Nat} (h : DR m D P) (f : Fr S m m1) (hs : dj S [56, 57, 58, 59] = true) : DR m1 D P := by
  intro s hs3
  obtain ⟨b1, b2, b3, b4, b5⟩ := h s hs3
  have n : ∀ c, c ∈ [56, 57, 58, 59] → c ∉ S := fun c hc => dj_no hs hc
  exact ⟨by rw [f.a (n _ (by decide))]; exact b1, by rw [f.a (n _ (by decide))]; exact b2, b3, fun i hi c hc => by rw [f.b (n _ (by decide))]; exact b4 i hi c hc, fun c hc => by rw [f.a (n _ (by decide))]; exact b5 c hc⟩
theorem c_166 (hL : Len m) (hX3 : TX 43 m cl) (h1 : m.F 42 1 = nI cl.length) (hD : DR m D P) (hI : DI D) (k : ∀ m' P', RA m' (rnA D cl) → DR m' (rnD D cl) P' → m'.F 42 1 = nI 0 → Fr SRf m m' → K (some (.int (nI (rnC D cl)))) m') : WP (d + 12) 166 [.ref 42] m K := by
  refine sp_166 (sp_160 ⟨rfl, ?_⟩)
  generalize hm1 : ((((((((((((((((((m.uF 42 6 (nI 0)).uF 42 5 (nI 0)).uF 42 7 (nI 0)).uF 42 13 (nI 0)).uF 42 15 (nI 0)).uF 42 19 (nI 0)).uF 42 22 (nI 0)).uF 42 33 (nI 0)).uF 42 34 (nI 0)).uF 42 25 (nI 0)).uF 42 28 (nI 0)).uF 42 29 (nI 0)).uF 42 32 (nI 60)).uF 42 20 (nI 0)).uF 42 21 (nI 0)).uF 42 53 (nI 0)).uF 42 54 (nI 0)).uF 42 56 (nI 0)).uF 42 57 (nI 0) = m1
  have f1 : Fr [42] m m1 := by
    subst hm1
    iterate 19 refine Fr.uF ?_ (by decide) _ _
    exact Fr.refl _ m
  have g1 : m1.F 42 1 = nI cl.length := by subst hm1; exact h1
  have g6 : m1.F 42 6 = nI 0 := by subst hm1; rfl
  have g5 : m1.F 42 5 = nI 0 := by subst hm1; rfl
  have g7 : m1.F 42 7 = nI 0 := by subst hm1; rfl
  have g13 : m1.F 42 13 = nI 0 := by subst hm1; rfl
  have g15 : m1.F 42 15 = nI 0 := by subst hm1; rfl
  have g19 : m1.F 42 19 = nI 0 := by subst hm1; rfl
  have g22 : m1.F 42 22 = nI 0 := by subst hm1; rfl
  have g33 : m1.F 42 33 = nI 0 := by subst hm1; rfl
  have g34 : m1.F 42 34 = nI 0 := by subst hm1; rfl
  have g25 : m1.F 42 25 = nI 0 := by subst hm1; rfl
  have g28 : m1.F 42 28 = nI 0 := by subst hm1; rfl
  have g29 : m1.F 42 29 = nI 0 := by subst hm1; rfl
  have g32 : m1.F 42 32 = nI 60 := by subst hm1; rfl
  have g20 : m1.F 42 20 = nI 0 := by subst hm1; rfl
  have g21 : m1.F 42 21 = nI 0 := by subst hm1; rfl
  have hA1 : RA m1 an0 := by subst hm1; exact ⟨rfl, rfl, rfl, rfl, fun r c hr => absurd hr (Nat.not_lt_zero r)⟩
  have hX1 : TX 43 m1 cl := by subst hm1; exact hX3
  clear hm1
  have hL1 := hL.fr f1
  have hD1 : DR m1 D P := hD.fr' f1 (by decide)
  -- not read
  have bad : ∀ m2, Fr SRf m m2 → RA m2 an0 → DR m2 D P → m2.F 42 6 = nI 1 → parse cl = none → WH (d + 12) 166 19 [(0, .ref 42)] [] m2 K := by
    intro m2 f2 hA2 hD2 h6 hp
    obtain ⟨c1, c2, c3⟩ := rn_none (D := D) hp
    rw [c1, c2, c3] at k
    refine sg_166_19 ?_
    rw [h6, if_neg (by decide)]
    exact k _ P hA2 hD2 rfl (f2.trans (Fr.uF (Fr.refl _ m2) (by decide) _ _))
  refine c_138 (d := d + 10) hL1 hX1 g1 g5 g6 (fun ts hts m2 hR2 h6 f2 => ⟨rfl, ?_⟩) (fun hn m2 h6 f2 => ⟨rfl, ?_⟩)
  · rw [if_pos h6]
    have f12 : Fr SRf m m2 := (f1.mono (by decide)).trans (f2.1.mono (by decide))
    have G : ∀ g, g ≠ 2 → g ≠ 6 → m2.F 42 g = m1.F 42 g := fun g q1 q2 => f2.f (by simp; exact ⟨q1, q2⟩)
    have hA2 : RA m2 an0 := hA1.fq f2 (by decide) (by decide)
    have hD2 : DR m2 D P := hD1.fr' f2.1 (by decide)
    have hRs : Rs m2 ts.length ((ts, [], []), sc0) 0 0 := by
      refine ⟨hL1.fq f2, hR2, ⟨by rw [G 7 (by decide) (by decide)]; exact g7, fun i hi => absurd hi (Nat.not_lt_zero i)⟩, ⟨by rw [G 33 (by decide) (by decide)]; exact g33, fun i hi => absurd hi (Nat.not_lt_zero i)⟩, ?_, h6, by rw [G 15 (by decide) (by decide)]; exact g15, fun _ => ⟨by rw [G 13 (by decide) (by decide)]; exact g13, by rw [G 34 (by decide) (by decide)]; exact g34, rfl, rfl⟩, by show 0 + ts.length ≤ _; omega, by show 0 + ts.length ≤ _; omega⟩
      refine ⟨by rw [G 19 (by decide) (by decide)]; exact g19, by decide, fun z => absurd z (by decide), by rw [if_neg (by decide)]; rfl, by rw [G 20 (by decide) (by decide)]; exact g20, by rw [G 21 (by decide) (by decide)]; exact g21, by rw [G 22 (by decide) (by decide)]; exact g22, fun i hi => absurd hi (Nat.not_lt_zero i), by rw [G 25 (by decide) (by decide)]; exact g25, fun z => absurd rfl z, by rw [G 28 (by decide) (by decide)]; exact g28, fun z => absurd rfl z, by rw [G 29 (by decide) (by decide)]; exact g29, by rw [G 32 (by decide) (by decide)]; exact g32⟩
    refine c_162 (d := d) (N := ts.length) hRs rfl rfl rfl ?_
    cases hc : chk (sWhole ((ts, [], []), sc0)) with
    | none =>
      intro m3 h6' f3
      refine ⟨rfl, ?_⟩
      refine bad m3 (f12.trans (f3.1.mono (by decide))) (hA2.fq f3 (by decide) (by decide)) (hD2.fr' f3.1 (by decide)) h6' ?_
      rw [parse_ref, hts]; exact hc
    | some e =>
      intro m3 nm hnm hRs3 h17 f3
      refine ⟨rfl, ?_⟩
      have hp : parse cl = some e := by rw [parse_ref, hts]; exact hc
      obtain ⟨w1, w2, w3⟩ := parse_ok hL hX3 hp
      obtain ⟨c1, c2, c3⟩ := rn_some (D := D) hp
      have hw := (chk_some hc).1
      have hv := (whole_wf (lex_tvs hL hX3 ts hts).1 hw).2.1
      have hN80 := hRs3.2.1.2.2.2.1
      have hcs := hRs3.2.2.2.2.2.2.2.2.1
      have hps : e.1.2.2.length ≤ 40 := by
        unfold QS Q3 at w3
        omega
      rw [c1, c2, c3] at k
      refine t_166 (d := d + 5) hRs3 hnm (by rw [h17, hv]) w1 w2 hI hps (hD2.fr' f3.1 (by decide)) (hA2.fq f3 (by decide) (by decide)) (fun m4 P4 a1 a2 a3 f4 => k m4 P4 a1 a2 a3 ((f12.trans (f3.1.mono (by decide))).trans (f4.1.mono (by decide))))
  · rw [if_neg (by rw [h6]; decide)]
    exact bad m2 ((f1.mono (by decide)).trans (f2.1.mono (by decide))) (hA1.fq f2 (by decide) (by decide)) (hD1.fr' f2.1 (by decide)) h6 (by rw [parse_ref, hn])
end Y99
