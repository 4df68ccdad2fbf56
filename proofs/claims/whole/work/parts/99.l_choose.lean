/-! choose() of the reference -/
section W99
variable {d nm : Nat} {m m0 m1 : Mm} {K : Option Value → Mm → Prop} {D : Db} {e : St} {P : Nat → List (List Int64)} {ps : List Pt} {t r q : Nat}
theorem MH_srt {L L' : List Hit} (h : MH D e L) (h' : MH D e L') : srt L = srt L' := srt_uniq (srt_srt L h.1) (srt_srt L' h'.1) ((srt_perm L).trans ((MH_perm h h').trans (srt_perm L').symm))
theorem MH_sel {L L' : List Hit} (h : MH D e L) (h' : MH D e L') : selN e L = selN e L' ∧ selV D e L = selV D e L' := by
  have h1 := (MH_perm h h').length_eq
  have h2 := MH_srt h h'
  refine ⟨by unfold selN; rw [h1], ?_⟩
  unfold selV hA
  rw [h2]
theorem c_184 (hWF : WF e) (hI : DI D) (ha : e.1.2.1.all (okSb D e) = true) (hab : e.2.1 6 ≠ 0 → tq e 0 ≠ tq e 1) (h01 : 0 < wd D (tq e 0) ∧ 0 < wd D (tq e 1)) (h3 : e.2.2.length ≤ 3) (hnm : 0 < nm) (hQ : RQ m (rs_ D e) (tq e) D P e.1.2.2) (hS : RS m e.2 nm) (h53 : m.F 42 53 = nI 0) (k5 : 60 < (hitE D e).length → ∀ m', Fq [48] SCh m m' → K (some (.int (nI 5))) m') (k : (hitE D e).length ≤ 60 → ∀ m', m'.F 42 53 = nI (selN e (hitE D e)) → m'.F 42 54 = nI e.2.2.length → m'.F 42 56 = nI (rdE D e) → m'.F 42 57 = nI (plE D e) → (∀ x c, x < selN e (hitE D e) → c < e.2.2.length → (m'.B 68).getD (3 * x + c) 0 = selV D e (hitE D e) x c) → Fq GT2 ST2 m m' → K (some (.int (nI 0))) m') : WP (d + 6) 184 [.ref 42] m K := by
  have hf := hQ.2.2.2.2.1
  have hf0 := hf.1
  have hf1 := hf.2.1
  have hD := hQ.2.2.2.2.2.1
  have hp0 := (hD _ hf.1).2.2.1
  have hp1 := (hD _ hf.2.1).2.2.1
  have hM : MH D e (HR D e P) := FL_MH hI hf.1 hf.2.1 hp0 hp1
  have hME := E_MH hWF hI hf.1 hf.2.1 ha
  have hlen : (FL D e P).length = (hitE D e).length := by rw [← HR_len]; exact (MH_perm hM hME).length_eq
  obtain ⟨s1, s2⟩ := MH_sel hM hME
  rw [← hlen, ← s1, ← s2] at k
  rw [← hlen] at k5
  have l50 : (m.A 50).length = 2 := hQ.1.a (by decide) rfl
  have ha0 : (m.A 50).getD 0 0 = nI (tq e 0) := by rw [tq0]; exact hS.2.2.1 hnm
  have f0 : Fq [48] SCh m (m.uF 42 48 (nI 0)) := Fq.uF (Fq.refl _ _ _) (by decide) _
  -- the main line
  have main : (e.2.1 6 ≠ 0 → (m.A 50).getD 1 0 = nI (tq e 1)) → WH (d + 6) 184 33 [(0, .ref 42), (1, .int (nI (tq e 0))), (2, .int (uX e)), (3, .int (nI 0))] [] (m.uF 42 48 (nI 0)) K := by
    intro ha1
    have hQ1 := hQ.fq f0 (by decide) (by decide)
    have hS1 := hS.fq f0 (by decide) (by decide)
    refine lp_184a (d := d + 3) (m0 := m.uF 42 48 (nI 0)) (ps := e.1.2.2) (nm := nm) hWF hI ha hab hQ1 hS1 (fun h60 m' f1 => k5 h60 m' (f0.trans f1)) (fun m1 hR hT h60 f1 => ?_) (rw_ D (tq e 0)).length 0 (m.uF 42 48 (nI 0)) (by omega) ⟨rfl, fun k hk => absurd hk (Nat.not_lt_zero k)⟩ (fun k hk => absurd hk (Nat.not_lt_zero k)) (Nat.zero_le _) (Fq.refl _ _ _)
    have f01 := f0.trans f1
    have hS2 := hS.fq f01 (by decide) (by decide)
    have e22 : m1.F 42 22 = nI e.2.2.length := hS2.2.2.2.2.2.2.1
    rw [e22]
    have f2 : Fq GT2 ST2 m (m1.uF 42 54 (nI e.2.2.length)) := Fq.uF (f01.mono (by decide) (by decide)) (by decide) _
    refine lp_184d (d := d + 2) (m0 := m1.uF 42 54 (nI e.2.2.length)) (ps := e.1.2.2) (nm := nm) hWF hI ha hab h01 h3 h60 (hQ.fq f2 (by decide) (by decide)) (hS.fq f2 (by decide) (by decide)) (fun m3 g53 g54 gB f3 => ?_) (selN e (HR D e P)) 0 _ (by omega) (Fq.refl _ _ _) ?_ (fun kk hkk => ?_) ?_ rfl (fun y c hy => absurd hy (Nat.not_lt_zero y))
    · have f23 := f2.trans f3
      have hQ3 := hQ.fq f23 (by decide) (by decide)
      refine sg_184_326 _ _ ?_
      have fin : ∀ m4, m4.F 42 56 = nI (rdE D e) → m4.F 42 57 = nI (plE D e) → Fq [56, 57, 58] [60, 61] m3 m4 → WH (d + 6) 184 342 [] [] m4 K := by
        intro m4 b1 b2 f4
        refine sg_184_342 ?_
        refine k h60 m4 (by rw [f4.f (by decide)]; exact g53) (by rw [f4.f (by decide)]; exact g54) b1 b2 (fun x c hx hc => by rw [f4.1.b (by decide)]; exact gB x c hx hc) (f23.trans (f4.mono (by decide) (by decide)))
      by_cases hz : e.2.1 6 = 0
      · have hu : uX e = -1 := if_pos hz
        rw [hu, if_neg (by decide), tq0]
        exact c_177e (d := d + 1) hWF hI ha hz hQ3 (fun m4 b1 b2 f4 => ⟨rfl, fin m4 b1 b2 (f4.mono (by decide) (by decide))⟩)
      · have hu : uX e = nI (tq e 1) := if_neg hz
        rw [hu, if_pos (by rw [nIle (by decide) (by omega)]; omega)]
        exact c_fetch (d := d) (f := tq e) hWF hI ha hz (hab hz) hQ3 (by rw [f23.a (by decide)]; exact ha0) (by rw [f23.a (by decide)]; exact ha1 hz) (fun m4 b1 b2 f4 => ⟨rfl, fin m4 b1 b2 f4⟩)
    · exact ⟨by rw [mF_F, if_neg (by decide)]; exact hR.1, hR.2⟩
    · rw [List.take_zero, bI_f (by rw [decide_eq_false (by intro z; cases z)]; decide)]
      exact hT kk hkk
    · rw [mF_F, if_neg (by decide), f01.f (by decide)]; exact h53
  refine sp_184 ?_
  rw [l50, show ix (nI 0) = 0 from rfl, show ix (nI 1) = 1 from rfl, ha0, hS.1]
  refine ⟨ok_nI (by decide) (by decide), ?_⟩
  have hs4 := hS.2.2.2.1
  have hn2 := hS.2.1
  by_cases h2 : nm = 2
  · rw [if_pos h2] at hs4
    have hz : e.2.1 6 ≠ 0 := by omega
    have e1 : tq e 1 = e.2.1 6 - 1 := if_neg (by omega)
    have ha1 : (m.A 50).getD 1 0 = nI (tq e 1) := by rw [e1]; exact hs4.1
    rw [if_pos (by rw [h2]), ha1]
    have hu : uX e = nI (tq e 1) := if_neg hz
    rw [← hu]
    exact ⟨ok_nI (by decide) (by decide), main (fun _ => ha1)⟩
  · rw [if_neg h2] at hs4
    rw [if_neg (by rw [nIeq (by omega) (by decide)]; exact h2)]
    have hu : uX e = -1 := if_pos hs4
    rw [← hu]
    exact main (fun z => absurd hs4 z)
end W99
