/-! THE REFERENCE: an operand -/
theorem nI_any (x : Int32) : ∃ n, x = nI n := by
  refine ⟨x.toBitVec.toNat, ?_⟩
  apply Int32.toBitVec_inj.mp
  show x.toBitVec = (Int32.ofNat x.toBitVec.toNat).toBitVec
  rw [Int32.toBitVec_ofNat']
  simp
theorem W_split (W : List Nat) : ∃ W0 k, W = W0 ++ List.replicate k 8 ∧ topW W0 ≠ 8 := by
  generalize hn : W.length = n
  induction n generalizing W with
  | zero =>
    have e : W = [] := List.length_eq_zero_iff.mp hn
    exact ⟨[], 0, by rw [e]; rfl, by decide⟩
  | succ n ih =>
    rcases List.eq_nil_or_concat W with e | ⟨V, x, e⟩
    · subst e; cases hn
    · have e : W = V ++ [x] := by rw [e, List.concat_eq_append]
      subst e
      rw [List.length_append, List.length_cons, List.length_nil] at hn
      by_cases h8 : x = 8
      · obtain ⟨W0, k, e1, e2⟩ := ih V (by omega)
        refine ⟨W0, k + 1, ?_, e2⟩
        rw [h8, e1, List.append_assoc, List.replicate_succ']
      · exact ⟨V ++ [x], 0, by rw [List.replicate_zero, List.append_nil], by rw [topW_snoc]; exact h8⟩
theorem W_split_eq {W V : List Nat} {j k : Nat} (h : W ++ List.replicate j 8 = V ++ List.replicate k 8) (hW : topW W ≠ 8) (hV : topW V ≠ 8) : W = V ∧ j = k := by
  induction j generalizing k with
  | zero =>
    cases k with
    | zero => simpa using h
    | succ k =>
      rw [List.replicate_zero, List.append_nil, List.replicate_succ', ← List.append_assoc] at h
      rw [h, topW_snoc] at hW
      exact absurd rfl hW
  | succ j ih =>
    cases k with
    | zero =>
      rw [List.replicate_zero, List.append_nil, List.replicate_succ', ← List.append_assoc] at h
      rw [← h, topW_snoc] at hV
      exact absurd rfl hV
    | succ k =>
      rw [List.replicate_succ', List.replicate_succ', ← List.append_assoc, ← List.append_assoc] at h
      have := ih (List.append_inj_left' h rfl)
      exact ⟨this.1, by omega⟩
section R44
variable {d N b o : Nat} {m m0 m1 : Mm} {K : Option Value → Mm → Prop} {q : List Tk} {cs : List Op} {W : List Nat}
theorem c_leaf {x : Op} {W0 : List Nat} {k0 : Nat} {y z : Int32} (hL : Len m) (hC : RC m cs) (hR : RW m (W0 ++ List.replicate k0 8)) (hn : m.F 42 12 = nI (nst (W0 ++ List.replicate k0 8))) (h8 : topW W0 ≠ 8) (hl : cs.length + (W0 ++ List.replicate k0 8).length ≤ 82) (hy : y = nI (rop x.1)) (hz : z = nI (rar x)) (k : ∀ m', RC m' (cs ++ [x] ++ List.replicate k0 (opr 30)) → RW m' W0 → m'.F 42 12 = nI (nst W0) → Fq [7, 10, 12] [46, 47] m m' → K none m') : WP (d + 2) 145 [.ref 42, .int y, .int z] m (fun v m1 => v = none ∧ WP (d + 2) 148 [.ref 42] m1 (fun v m2 => v = none ∧ K none m2)) := by
  refine c_emit (x := x) hL hC (by omega) hy hz (fun m1 hC1 f1 => ⟨rfl, ?_⟩)
  refine sp_148 ?_
  have hL1 := hL.fq f1
  refine c_signs h8 k0 m1 (cs ++ [x]) hL1 hC1 (hR.fq f1 (by decide) (by decide)) (by rw [f1.f (by decide)]; exact hn) (by rw [List.length_append, List.length_cons, List.length_nil]; omega) (fun m2 a1 a2 a3 f2 => ⟨rfl, k m2 a1 a2 a3 ?_⟩)
  exact (f1.mono (by decide) (by decide)).trans f2
/-- a leaf that was read well -/
theorem c_leafY {x : Op} {r : List Tk} {y z : Int32} {G : List Nat} (hX : RX m N b o q cs W 1) (f1 : Fq [5, 6, 16] [] m m1) (h16 : m1.F 42 16 = nI 0) (h6 : m1.F 42 6 = nI 0) (hT : RT m1 N r) (hr : r.length < q.length) (hy : y = nI (rop x.1)) (hz : z = nI (rar x)) (k : ∀ W0 k0, W = W0 ++ List.replicate k0 8 → topW W0 ≠ 8 → ∀ m', RX m' N b o r (cs ++ [x] ++ List.replicate k0 (opr 30)) W0 0 → Fq GX SXr m m' → K none m') : WP (d + 2) 145 [.ref 42, .int y, .int z] m1 (fun v m1 => v = none ∧ WP (d + 2) 148 [.ref 42] m1 (fun v m2 => v = none ∧ K none m2)) := by
  obtain ⟨hL, hT0, hC, hR, hn, ho, hw, h60, hb, hbN, ho8⟩ := hX
  obtain ⟨W0, k0, e, h8⟩ := W_split W
  subst e
  have hN := hT0.2.2.2.1
  refine c_leaf (hL.fq f1) (hC.fq f1 (by decide) (by decide) (by decide)) (hR.fq f1 (by decide) (by decide)) (by rw [f1.f (by decide)]; exact hn) h8 (by omega) hy hz (fun m2 a1 a2 a3 f2 => ?_)
  refine k W0 k0 rfl h8 m2 ⟨(hL.fq f1).fq f2, hT.fq f2 (by decide) (by decide) (by decide) (by decide), a1, a2, a3, ?_, ?_, ?_, ?_, hbN, ho8⟩ ?_
  · rw [f2.f (by decide), f1.f (by decide)]; exact ho
  · rw [f2.f (by decide)]; exact h16
  · rw [f2.f (by decide)]; exact h6
  · simp only [List.length_append, List.length_replicate, List.length_cons, List.length_nil] at hb ⊢
    omega
  · exact (f1.mono (by decide) (by decide)).trans (f2.mono (by decide) (by decide))
/-- a leaf that was not -/
theorem c_leafN {r : List Tk} {z : Int32} (hX : RX m N b o q cs W 1) (f1 : Fq [5, 6, 16] [] m m1) (h6 : m1.F 42 6 = nI 1) (hT : RT m1 N r) (k : ∀ m', RJ m N b m' → K none m') : WP (d + 2) 145 [.ref 42, .int (nI 3), .int z] m1 (fun v m1 => v = none ∧ WP (d + 2) 148 [.ref 42] m1 (fun v m2 => v = none ∧ K none m2)) := by
  obtain ⟨hL, hT0, hC, hR, hn, ho, hw, h60, hb, hbN, ho8⟩ := hX
  obtain ⟨W0, k0, e, h8⟩ := W_split W
  obtain ⟨n, ez⟩ := nI_any z
  subst e
  have hN := hT0.2.2.2.1
  refine c_leaf (x := (3, n, 0)) (hL.fq f1) (hC.fq f1 (by decide) (by decide) (by decide)) (hR.fq f1 (by decide) (by decide)) (by rw [f1.f (by decide)]; exact hn) h8 (by omega) rfl (by rw [ez]; show nI n = nI (4 * 0 + n); congr 1; omega) (fun m2 a1 a2 a3 f2 => ?_)
  refine k m2 ⟨?_, ?_, ⟨r, hT.fq f2 (by decide) (by decide) (by decide) (by decide)⟩, _, _, ?_, a1.1, a2.1⟩
  · exact (f1.mono (by decide) (by decide)).trans (f2.mono (by decide) (by decide))
  · rw [f2.f (by decide)]; exact h6
  · simp only [List.length_append, List.length_replicate, List.length_cons, List.length_nil] at hb ⊢
    omega
theorem c_nest {w t : Nat × Nat} {x : Nat} {r : List Tk} (hX : RX m N b o (t :: r) cs W 1) (hx : x = 8 ∨ x = 16) (k1 : nst W + o ≤ 7 → ∀ m', RX m' N b o r cs (W ++ [x]) 1 → Fq GX SXr m m' → K none m') (k2 : 7 < nst W + o → ∀ m', RJ m N b m' → K none m') : WP d 146 [.ref 42, .int (nI x)] (m.uF 42 16 (nI 0)) (fun v m1 => v = none ∧ K none (m1.uF 42 16 (nI 1))) := by
  obtain ⟨hL, hT0, hC, hR, hn, ho, hw, h60, hb, hbN, ho8⟩ := hX
  have l1 : (m.A 48).length = 101 := hL.a (by decide) rfl
  have hN := hT0.2.2.2.1
  have hq := hT0.2.2.1
  have h5 := hT0.1
  have h10 := hR.1
  have hns := nst_le W
  rw [List.length_cons] at hb hq
  simp only [List.length_cons] at h5
  have hxx : x < 100 := by omega
  have hP := hR.push hL (by omega) hxx
  have hs : nst (W ++ [x]) = nst W + 1 := by rcases hx with rfl | rfl <;> rw [nst_app] <;> rfl
  have e5 : m.F 42 5 = nI (N - (r.length + 1)) := h5
  refine sp_146 _ ?_
  have a6 : (m.uF 42 16 (nI 0)).F 42 6 = nI 0 := h60
  have a12 : (m.uF 42 16 (nI 0)).F 42 12 = nI (nst W) := hn
  have a15 : (m.uF 42 16 (nI 0)).F 42 15 = nI o := ho
  have a10 : (m.uF 42 16 (nI 0)).F 42 10 = nI W.length := h10
  have a5 : (m.uF 42 16 (nI 0)).F 42 5 = nI (N - (r.length + 1)) := h5
  have a48 : (m.uF 42 16 (nI 0)).A 48 = m.A 48 := rfl
  simp (disch := omega) only [a6, a12, a15, a10, a5, a48, l1, nI_add, ix_nI, nIle]
  rw [if_pos trivial]
  have f1 : ∀ v, Fq GX SXr m (((((((m.uF 42 16 (nI 0)).uF 42 6 v).uA 48 ((m.A 48).set W.length (nI x))).uF 42 10 (nI (W.length + 1))).uF 42 12 (nI (nst W + 1))).uF 42 5 (nI (N - (r.length + 1) + 1))).uF 42 16 (nI 1)) := by
    intro v
    refine Fq.uF (Fq.uF (Fq.uF (Fq.uF (Fq.uA (Fq.uF (Fq.uF (Fq.refl _ _ m) (by decide) _) (by decide) _) (by decide) ?_) (by decide) _) (by decide) _) (by decide) _) (by decide) _
    rw [List.length_set]; rfl
  have T1 : ∀ v, RT (((((((m.uF 42 16 (nI 0)).uF 42 6 v).uA 48 ((m.A 48).set W.length (nI x))).uF 42 10 (nI (W.length + 1))).uF 42 12 (nI (nst W + 1))).uF 42 5 (nI (N - (r.length + 1) + 1))).uF 42 16 (nI 1)) N r := by
    intro v
    have g1 : Fq [16, 6, 10, 12] [48] m (((((m.uF 42 16 (nI 0)).uF 42 6 v).uA 48 ((m.A 48).set W.length (nI x))).uF 42 10 (nI (W.length + 1))).uF 42 12 (nI (nst W + 1))) := by
      refine Fq.uF (Fq.uF (Fq.uA (Fq.uF (Fq.uF (Fq.refl _ _ m) (by decide) _) (by decide) _) (by decide) ?_) (by decide) _) (by decide) _
      rw [List.length_set]; rfl
    exact (hT0.fq g1 (by decide) (by decide) (by decide) (by decide)).next.fq (Fq.uF (Fq.refl [16] [] _) (by decide) _) (by decide) (by decide) (by decide) (by decide)
  have ho1 : ok 101 (nI W.length) := ok_nI (by omega) (by decide)
  by_cases hc : nst W + o ≤ 7
  · rw [if_pos hc]
    refine ⟨ho1, trivial, k1 hc _ ⟨hL.fq (f1 _), T1 _, ?_, ?_, ?_, ?_, rfl, ?_, ?_, hbN, ho8⟩ (f1 _)⟩
    · exact hC
    · refine ⟨?_, hP.2⟩
      rw [← hP.1]; rfl
    · rw [hs]; rfl
    · rw [← ho]; rfl
    · rfl
    · rw [List.length_append, List.length_cons, List.length_nil]; omega
  · rw [if_neg hc]
    exact ⟨ho1, trivial, k2 (by omega) _ ⟨f1 _, rfl, ⟨r, T1 _⟩, cs.length, W.length + 1, by omega, hC.1, rfl⟩⟩
end R44
