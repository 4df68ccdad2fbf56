/-! THE REFERENCE: connect() -/
def pq (a x : Nat) : Prop := x = 14 ∨ (a = 0 ∧ x = 15)
section R52
variable {d N b : Nat} {m m0 m1 : Mm} {K : Option Value → Mm → Prop} {q : List Tk} {cs : List Op} {H : List Nat} {ps : List Pt} {e bg : Nat}
theorem c_66 {a : Nat} (ha : a < 2) (hL : Len m) (hR : RH m H) (hl : H.length ≤ 90) (k1 : 0 < H.length → pq a (topW H) → WH d 156 109 [(0, .ref 42), (1, .int (nI a))] [] m K) (k2 : ¬ pq a (topW H) → WH d 156 116 [(0, .ref 42), (1, .int (nI a))] [] m K) : WH d 156 66 [(0, .ref 42), (1, .int (nI a))] [] m K := by
  have l1 : (m.A 49).length = 101 := hL.a (by decide) rfl
  refine sg_156_66 _ ?_
  rcases List.eq_nil_or_concat H with e | ⟨V, x, e⟩
  · subst e
    rw [if_pos (by rw [hR.1]; decide)]
    exact k2 (fun z => by rcases z with z | z; cases z; cases z.2)
  · rw [List.concat_eq_append] at e
    subst e
    have hh := hR.n13 hl
    have hx := hR.last
    rw [topW_snoc] at k1 k2
    rw [List.length_append, List.length_cons, List.length_nil] at hl k1
    have c1 : ¬ m.F 42 13 ≤ nI 0 := by
      rw [hh.1, nIle (by omega) (by omega)]; omega
    have ho : ok 101 (nI V.length) := ok_nI (by omega) (by decide)
    rw [if_neg c1, hh.2, l1, ix_nI (by omega), hx.1]
    refine ⟨ho, ?_⟩
    simp (disch := omega) only [nIeq]
    by_cases h14 : x = 14
    · rw [if_pos h14]; exact k1 (by omega) (Or.inl h14)
    · rw [if_neg h14]
      by_cases ha0 : a = 0
      · rw [if_pos ha0]
        refine ⟨ho, ?_⟩
        by_cases h15 : x = 15
        · rw [if_pos h15]; exact k1 (by omega) (Or.inr ⟨ha0, h15⟩)
        · rw [if_neg h15]; exact k2 (fun z => by rcases z with z | z; exact h14 z; exact h15 z.2)
      · rw [if_neg ha0]; exact k2 (fun z => by rcases z with z | z; exact h14 z; exact ha0 z.1)
theorem c_unh {a : Nat} (ha : a < 2) (h0 : ¬ pq a (topW H)) : ∀ (n : Nat) (P : List Nat) (m : Mm) (cs : List Op), P.length = n → Len m → RC m cs → RH m (H ++ P) → cs.length + (H ++ P).length ≤ 90 → (∀ x ∈ P, pq a x) → (∀ m', RC m' (cs ++ eh P) → RH m' H → Fq [7, 13] [46, 47] m m' → WH (d + 2) 156 116 [(0, .ref 42), (1, .int (nI a))] [] m' K) → WH (d + 2) 156 66 [(0, .ref 42), (1, .int (nI a))] [] m K := by
  intro n
  induction n with
  | zero =>
    intro P m cs hn hL hC hR hl hP k
    have e : P = [] := List.length_eq_zero_iff.mp hn
    subst e
    rw [List.append_nil] at hR hl
    refine c_66 ha hL hR (by omega) (fun _ z => absurd z h0) (fun _ => k m ?_ hR (Fq.refl _ _ m))
    rw [eh_nil, List.append_nil]; exact hC
  | succ n ih =>
    intro P m cs hn hL hC hR hl hP k
    rcases List.eq_nil_or_concat P with e | ⟨V, x, e⟩
    · subst e; cases hn
    · rw [List.concat_eq_append] at e
      subst e
      rw [← List.append_assoc] at hR hl
      have hl2 := hl
      rw [List.length_append, List.length_cons, List.length_nil] at hn hl2
      have hx : pq a x := hP x (by simp)
      refine c_66 ha hL hR (by omega) (fun _ _ => ?_) (fun z => absurd (by rw [topW_snoc]; exact hx) z)
      refine sg_156_109 _ ?_
      refine c_152 hL hC hR hl (by rcases hx with z | z <;> omega) (fun m2 hC2 hR2 f2 => ⟨rfl, ?_⟩)
      refine ih V m2 _ (by omega) (hL.fq f2) hC2 hR2 (by rw [List.length_append, List.length_cons, List.length_nil]; omega) (fun y hy => hP y (by simp [hy])) (fun m3 a1 a2 a3 => k m3 ?_ a2 (f2.trans a3))
      rw [eh_app, eh_one, ← List.append_assoc]; exact a1
/-- an and (a = 1) or an or (a = 0) was taken -/
theorem c_156t {a : Nat} {r : List Tk} {P : List Nat} (ha : a < 2) (hX : RK m N b q cs (H ++ P) ps e bg 0) (hT : RT m1 N r) (f1 : Fq [5] [] m m1) (hr : r.length < q.length) (hP : ∀ x ∈ P, pq a x) (h0 : ¬ pq a (topW H)) (k : ∀ m', RK m' N b r (cs ++ eh P) (H ++ [15 - a]) ps (if a = 0 ∧ nsh H = 0 then 1 else e) bg 1 → m'.F 42 16 = nI 1 → Fq GW SWr m m' → K (some (.int (nI 1))) m') : WH (d + 2) 156 39 [(0, .ref 42), (1, .int (nI a))] [] m1 K := by
  obtain ⟨hL, hT0, hC, hR, hPa, h15, h34, h6, hbg, hmd, hb1, hb2, hb3, he, hn8⟩ := hX
  have hN := hT0.2.2.2.1
  have nP : nsh P = 0 := by
    unfold nsh
    rw [List.length_eq_zero_iff, List.filter_eq_nil_iff]
    intro x hx
    have := hP x hx
    simp only [Bool.or_eq_true, beq_iff_eq]
    rcases this with z | z <;> omega
  have nH : nsh (H ++ P) = nsh H := by rw [nsh_app, nP]; rfl
  have main : ∀ v : Nat, v = (if a = 0 ∧ nsh H = 0 then 1 else e) → WH (d + 2) 156 66 [(0, .ref 42), (1, .int (nI a))] [] (m1.uF 42 34 (nI v)) K := by
    intro v hv
    have f2 : Fq [5, 34] [] m (m1.uF 42 34 (nI v)) := Fq.uF (f1.mono (by decide) (by decide)) (by decide) _
    refine c_unh ha h0 _ P _ cs rfl (hL.fq f2) (hC.fq f2 (by decide) (by decide) (by decide)) (hR.fq f2 (by decide) (by decide)) (by omega) hP (fun m2 hC2 hR2 f3 => ?_)
    have f4 : Fq [5, 7, 13, 34] [46, 47] m m2 := (f2.mono (by decide) (by decide)).trans (f3.mono (by decide) (by decide))
    rw [List.length_append] at hb1 hb2
    have fin : WP (d + 1) 153 [.ref 42, .int (nI (15 - a))] m2 (fun v m2 => v = none ∧ K (some (.int (nI 1))) (m2.uF 42 16 (nI 1))) := by
      refine c_153 (hL.fq f4) hR2 (by omega) (by omega) (fun m3 hR3 f5 => ⟨rfl, ?_⟩)
      have f6 : Fq [16] [] m3 (m3.uF 42 16 (nI 1)) := Fq.uF (Fq.refl _ _ _) (by decide) _
      have f7 : Fq [5, 7, 13, 16, 34] [46, 47, 49] m (m3.uF 42 16 (nI 1)) := ((f4.mono (by decide) (by decide)).trans (f5.mono (by decide) (by decide))).trans (f6.mono (by decide) (by decide))
      have ns1 : nsh (H ++ [15 - a]) = nsh H := by
        rw [nsh_app]
        rcases (by omega : a = 0 ∨ a = 1) with rfl | rfl <;> rfl
      refine k _ ⟨hL.fq f7, ?_, ?_, ?_, ?_, ?_, ?_, ?_, ?_, fun z => by omega, ?_, ?_, hb3, ?_, by rw [ns1]; omega⟩ rfl (f7.mono (by decide) (by decide))
      · have t1 : RT (m1.uF 42 34 (nI v)) N r := hT.fq (Fq.uF (Fq.refl [34] [] _) (by decide) _) (by decide) (by decide) (by decide) (by decide)
        exact ((t1.fq f3 (by decide) (by decide) (by decide) (by decide)).fq f5 (by decide) (by decide) (by decide) (by decide)).fq f6 (by decide) (by decide) (by decide) (by decide)
      · exact (hC2.fq f5 (by decide) (by decide) (by decide)).fq f6 (by decide) (by decide) (by decide)
      · exact hR3.fq f6 (by decide) (by decide)
      · exact hPa.fq f7 (by decide) (by decide) (by decide) (by decide)
      · rw [ns1, f7.f (by decide), ← nH]; exact h15
      · rw [f6.f (by decide), f5.f (by decide), f3.f (by decide), ← hv]; rfl
      · rw [f7.f (by decide)]; exact h6
      · intro hh
        rw [f7.f (by decide)]
        exact hbg (by rw [nH]; rw [ns1] at hh; exact hh)
      · simp only [List.length_append, eh_len, List.length_cons, List.length_nil]; omega
      · simp only [List.length_append, List.length_cons, List.length_nil]; omega
      · split <;> omega
    refine sg_156_116 _ ?_
    rcases (by omega : a = 0 ∨ a = 1) with rfl | rfl
    · rw [if_pos rfl]; exact fin
    · rw [if_neg (by decide)]; exact fin
  have g34 : m1.F 42 34 = nI e := by rw [f1.f (by decide)]; exact h34
  have g15 : m1.F 42 15 = nI (nsh H) := by rw [f1.f (by decide), ← nH]; exact h15
  refine sg_156_39 _ ?_
  simp (disch := omega) only [g34, g15, nIeq]
  by_cases he0 : e = 0
  · rw [if_pos he0]
    by_cases ha0 : a = 0
    · rw [if_pos ha0]
      by_cases hs0 : nsh H = 0
      · rw [if_pos hs0]; exact main 1 (by rw [if_pos ⟨ha0, hs0⟩])
      · rw [if_neg hs0]; exact main 0 (by rw [if_neg (fun z => hs0 z.2)]; exact he0.symm)
    · rw [if_neg ha0]; exact main 0 (by rw [if_neg (fun z => ha0 z.1)]; exact he0.symm)
  · rw [if_neg he0]
    refine main 1 ?_
    split <;> omega
theorem c_156a {t : Tk} {r : List Tk} {P : List Nat} (hX : RK m N b (t :: r) cs (H ++ P) ps e bg 0) (ht : t.1 = 17) (hP : ∀ x ∈ P, x = 14) (h0 : topW H ≠ 14) (k : ∀ m', RK m' N b r (cs ++ eh P) (H ++ [14]) ps e bg 1 → m'.F 42 16 = nI 1 → Fq GW SWr m m' → K (some (.int (nI 1))) m') : WP (d + 4) 156 [.ref 42] m K := by
  have hL := hX.1
  have hT0 := hX.2.1
  refine sp_156 ?_
  refine c_wrd_17 (by omega) ⟨_, rfl, ?_⟩
  refine c_takeWord (n := 17) (by decide) (by decide) hL hT0 (fun t' r' eq et m' a1 a2 => ⟨_, rfl, ?_⟩) (fun z => absurd ht z)
  cases eq
  rw [if_neg (by decide)]
  refine c_156t (a := 1) (by decide) hX a1 a2 (by rw [List.length_cons]; omega) (fun x hx => Or.inl (hP x hx)) (fun z => by rcases z with z | z; exact h0 z; omega) (fun m2 x => ?_)
  rw [if_neg (fun z => by omega)] at x
  exact k m2 x
theorem c_156o {t : Tk} {r : List Tk} {P : List Nat} (hX : RK m N b (t :: r) cs (H ++ P) ps e bg 0) (ht : t.1 = 16) (hP : ∀ x ∈ P, x = 14 ∨ x = 15) (h0 : topW H ≠ 14) (h1 : topW H ≠ 15) (k : ∀ m', RK m' N b r (cs ++ eh P) (H ++ [15]) ps (if nsh H = 0 then 1 else e) bg 1 → m'.F 42 16 = nI 1 → Fq GW SWr m m' → K (some (.int (nI 1))) m') : WP (d + 4) 156 [.ref 42] m K := by
  have hL := hX.1
  have hT0 := hX.2.1
  refine sp_156 ?_
  refine c_wrd_17 (by omega) ⟨_, rfl, ?_⟩
  refine c_takeWord (n := 17) (by decide) (by decide) hL hT0 (fun t' r' eq et m' a1 a2 => absurd et (by cases eq; omega)) (fun z => ⟨_, rfl, ?_⟩)
  rw [if_pos rfl]
  refine c_wrd_16 (by omega) ⟨_, rfl, ?_⟩
  refine c_takeWord (n := 16) (by decide) (by decide) hL hT0 (fun t' r' eq et m' a1 a2 => ⟨_, rfl, ?_⟩) (fun z => absurd ht z)
  cases eq
  rw [if_neg (by decide)]
  refine c_156t (a := 0) (by decide) hX a1 a2 (by rw [List.length_cons]; omega) (fun x hx => by rcases hP x hx with z | z; exact Or.inl z; exact Or.inr ⟨rfl, z⟩) (fun z => by rcases z with z | z; exact h0 z; exact h1 z.2) (fun m2 x => ?_)
  have e1 : (if (0 : Nat) = 0 ∧ nsh H = 0 then 1 else e) = (if nsh H = 0 then 1 else e) := by
    by_cases z : nsh H = 0
    · rw [if_pos z, if_pos ⟨rfl, z⟩]
    · rw [if_neg z, if_neg (fun y => z y.2)]
  rw [e1] at x
  exact k m2 x
theorem c_hscan1 (hR : RH m H) (hW : H.length ≤ 90) (k1 : WP d 141 [.ref 42, .int (nI 93)] m (fun v m3 => ∃ w4, v = some (.int w4) ∧ (if w4 = (nI 0) then WH (d + 1) 156 190 [] [] m3 K else WH (d + 1) 156 192 [(0, .ref 42)] [] m3 K))) : ∀ (n k : Nat), k + n = H.length → WH (d + 1) 156 142 [(0, .ref 42), (2, .int (nI 1)), (3, .int (nI k))] [] m K := by
  intro n
  induction n with
  | zero =>
    intro k h
    refine sg_156_142 _ _ ?_
    simp (disch := omega) only [hR.1, nIle]
    rw [if_pos (by omega), if_neg (by decide)]
    exact k1
  | succ n ih =>
    intro k h
    refine sg_156_142 _ _ ?_
    simp (disch := omega) only [hR.1, nIle]
    rw [if_neg (by omega), if_neg (by decide)]
    refine sg_156_165 _ ?_
    rw [nI_add]
    exact ih (k + 1) (by omega)
theorem c_hscan (hL : Len m) (hR : RH m H) (hW : H.length ≤ 90) (k1 : 16 ∈ H → WP d 141 [.ref 42, .int (nI 93)] m (fun v m3 => ∃ w4, v = some (.int w4) ∧ (if w4 = (nI 0) then WH (d + 1) 156 190 [] [] m3 K else WH (d + 1) 156 192 [(0, .ref 42)] [] m3 K))) (k2 : 16 ∉ H → WH (d + 1) 156 190 [] [] m K) : ∀ (n k : Nat), k + n = H.length → (∀ i, i < k → H.getD i 0 ≠ 16) → WH (d + 1) 156 142 [(0, .ref 42), (2, .int (nI 0)), (3, .int (nI k))] [] m K := by
  have l1 : (m.A 49).length = 101 := hL.a (by decide) rfl
  intro n
  induction n with
  | zero =>
    intro k h hi
    refine sg_156_142 _ _ ?_
    simp (disch := omega) only [hR.1, nIle]
    rw [if_pos (by omega), if_pos trivial]
    refine k2 (fun z => ?_)
    obtain ⟨i, h1, h2⟩ := mem_getD z
    exact hi i (by omega) h2
  | succ n ih =>
    intro k h hi
    have hg := hR.2 k (by omega)
    refine sg_156_142 _ _ ?_
    simp (disch := omega) only [hR.1, nIle, ix_nI, hg.1, l1, nIeq]
    rw [if_neg (by omega), if_pos trivial]
    refine ⟨ok_nI (by omega) (by decide), ?_⟩
    by_cases e : H.getD k 0 = 16
    · rw [if_pos e]
      refine sg_156_165 _ ?_
      rw [nI_add]
      exact c_hscan1 hR hW (k1 (mem_of_getD (by omega) e)) n (k + 1) (by omega)
    · rw [if_neg e, nI_add]
      refine ih (k + 1) (by omega) (fun i h2 => ?_)
      by_cases e2 : i = k
      · rw [e2]; exact e
      · exact hi i (by omega)
theorem c_192 {k0 bg : Nat} (hH : topW H ≠ 13) : ∀ (n : Nat) (P : List Nat) (m : Mm) (cs : List Op), P.length = n → Len m → RC m cs → RH m (H ++ List.replicate k0 13 ++ [16] ++ P) → RP m ps → m.F 42 15 = nI (nsh (H ++ List.replicate k0 13 ++ [16])) → cs.length + (H ++ List.replicate k0 13 ++ [16] ++ P).length ≤ 90 → (∀ x ∈ P, x = 14 ∨ x = 15) → m.F 42 38 = nI bg → m.F 42 39 = -1 → ps.length < 40 → (∀ m', RC m' (cs ++ eh P ++ List.replicate k0 (opr 18)) → RH m' H → m'.F 42 15 = nI (nsh H) → RP m' (psA H ps bg 0 (cs ++ eh P ++ List.replicate k0 (opr 18)).length) → Fq [7, 13, 15, 33] [46, 47, 53, 54, 55] m m' → K (some (.int (nI 1))) m') → WH (d + 3) 156 192 [(0, .ref 42)] [] m K := by
  intro n
  induction n with
  | zero =>
    intro P m cs hn hL hC hR hPa h15 hl hP h38 h39 hps k
    have e : P = [] := List.length_eq_zero_iff.mp hn
    subst e
    rw [List.append_nil] at hR hl
    have l1 : (m.A 49).length = 101 := hL.a (by decide) rfl
    have hh := hR.n13 (by omega)
    rw [List.length_append, List.length_cons, List.length_nil] at hl
    have e15 : m.F 42 15 - nI 1 = nI (nsh (H ++ List.replicate k0 13)) := by
      rw [h15, nsh_app _ [16]]
      show nI (_ + 1) - nI 1 = _
      rw [nIsub (by omega), Nat.add_sub_cancel]
    refine sg_156_192 ?_
    rw [hh.2, l1, ix_nI (by omega), hR.last.1, if_pos rfl, e15]
    refine ⟨ok_nI (by omega) (by decide), ?_⟩
    have f1 : Fq [7, 13, 15, 33] [46, 47, 53, 54, 55] m ((m.uF 42 13 (nI (H ++ List.replicate k0 13).length)).uF 42 15 (nI (nsh (H ++ List.replicate k0 13)))) := Fq.uF (Fq.uF (Fq.refl _ _ m) (by decide) _) (by decide) _
    have f2 : Fq [13, 15] [] m ((m.uF 42 13 (nI (H ++ List.replicate k0 13).length)).uF 42 15 (nI (nsh (H ++ List.replicate k0 13)))) := Fq.uF (Fq.uF (Fq.refl _ _ m) (by decide) _) (by decide) _
    refine sp_154 ?_
    refine c_154 (bg := bg) (md := 0) hH k0 _ cs (hL.fq f1) (hC.fq f2 (by decide) (by decide) (by decide)) (hR.pop.fq (Fq.uF (Fq.refl [15] [] _) (by decide) _) (by decide) (by decide)) (hPa.fq f2 (by decide) (by decide) (by decide) (by decide)) rfl (by omega) (fun _ => ⟨h38, h39, hps⟩) (fun m2 a1 a2 a3 a4 f3 => ⟨rfl, k m2 ?_ a2 a3 ?_ (f1.trans f3)⟩)
    · rw [eh_nil, List.append_nil]; exact a1
    · rw [eh_nil, List.append_nil]; exact a4
  | succ n ih =>
    intro P m cs hn hL hC hR hPa h15 hl hP h38 h39 hps k
    rcases List.eq_nil_or_concat P with e | ⟨V, x, e⟩
    · subst e; cases hn
    · rw [List.concat_eq_append] at e
      subst e
      rw [← List.append_assoc] at hR hl
      have l1 : (m.A 49).length = 101 := hL.a (by decide) rfl
      have hh := hR.n13 (by omega)
      have hl2 := hl
      rw [List.length_append, List.length_cons, List.length_nil] at hn hl2
      have hx := hP x (by simp)
      have c2 : ¬ nI x = nI 16 := by rw [nIeq (by omega) (by omega)]; omega
      refine sg_156_192 ?_
      rw [hh.2, l1, ix_nI (by omega), hR.last.1, if_neg c2]
      refine ⟨ok_nI (by omega) (by decide), ?_⟩
      refine c_152 hL hC hR hl (by omega) (fun m2 hC2 hR2 f2 => ⟨rfl, ?_⟩)
      refine ih V m2 _ (by omega) (hL.fq f2) hC2 hR2 (hPa.fq f2 (by decide) (by decide) (by decide) (by decide)) (by rw [f2.f (by decide)]; exact h15) (by rw [List.length_append, List.length_cons, List.length_nil]; omega) (fun y hy => hP y (by simp [hy])) (by rw [f2.f (by decide)]; exact h38) (by rw [f2.f (by decide)]; exact h39) hps (fun m3 a1 a2 a3 a4 a5 => k m3 ?_ a2 a3 ?_ ((f2.mono (by decide) (by decide)).trans a5))
      · rw [eh_app, eh_one, ← List.append_assoc]; exact a1
      · rw [eh_app, eh_one, ← List.append_assoc]; exact a4
theorem c_156c {t : Tk} {r : List Tk} {P : List Nat} {k0 : Nat} (hX : RK m N b (t :: r) cs (H ++ List.replicate k0 13 ++ [16] ++ P) ps e bg 0) (ht : t.1 = 93) (hP : ∀ x ∈ P, x = 14 ∨ x = 15) (hH : topW H ≠ 13) (k : ∀ m', RK m' N b r (cs ++ eh P ++ List.replicate k0 (opr 18)) H (psA H ps bg 0 (cs ++ eh P ++ List.replicate k0 (opr 18)).length) e bg 0 → m'.F 42 16 = m.F 42 16 → Fq GW SWr m m' → K (some (.int (nI 1))) m') : WP (d + 4) 156 [.ref 42] m K := by
  obtain ⟨hL, hT0, hC, hR, hPa, h15, h34, h6, hbg, hmd, hb1, hb2, hb3, he, hn8⟩ := hX
  have hN := hT0.2.2.2.1
  rw [List.length_cons] at hb1 hb2
  have nP : nsh P = 0 := by
    unfold nsh
    rw [List.length_eq_zero_iff, List.filter_eq_nil_iff]
    intro x hx
    have := hP x hx
    simp only [Bool.or_eq_true, beq_iff_eq]
    rcases this with z | z <;> omega
  have nH : nsh (H ++ List.replicate k0 13 ++ [16] ++ P) = nsh (H ++ List.replicate k0 13 ++ [16]) := by rw [nsh_app _ P, nP]; rfl
  have pos : 0 < nsh (H ++ List.replicate k0 13 ++ [16] ++ P) := by
    rw [nH, nsh_app _ [16]]
    show 0 < _ + 1
    omega
  have htd : hd (t :: r) = t.1 := rfl
  refine sp_156 ?_
  refine c_wrd_17 (by omega) ⟨_, rfl, ?_⟩
  refine c_takeWord (n := 17) (by decide) (by decide) hL hT0 (fun t' r' eq et m' a1 a2 => absurd et (by cases eq; omega)) (fun z => ⟨_, rfl, ?_⟩)
  rw [if_pos rfl]
  refine c_wrd_16 (by omega) ⟨_, rfl, ?_⟩
  refine c_takeWord (n := 16) (by decide) (by decide) hL hT0 (fun t' r' eq et m' a1 a2 => absurd et (by cases eq; omega)) (fun z => ⟨_, rfl, ?_⟩)
  rw [if_pos rfl]
  have h16 : 16 ∈ H ++ List.replicate k0 13 ++ [16] ++ P := by simp
  refine c_hscan hL hR (by omega) (fun _ => ?_) (fun z => absurd h16 z) _ 0 (Nat.zero_add _) (fun i hi => by omega)
  refine c_takeSign (c := 93) rfl hL hT0 (fun t' r' eq et m1 a1 f1 => ⟨_, rfl, ?_⟩) (fun z => absurd ht z)
  cases eq
  rw [if_neg (by decide)]
  have hb4 : 2 * ps.length + 2 ≤ N := by simp only [List.length_append, List.length_cons, List.length_nil] at hb2; omega
  refine c_192 (bg := bg) hH _ P m1 cs rfl (hL.fq f1) (hC.fq f1 (by decide) (by decide) (by decide)) (hR.fq f1 (by decide) (by decide)) (hPa.fq f1 (by decide) (by decide) (by decide) (by decide)) (by rw [f1.f (by decide), ← nH]; exact h15) (by omega) hP (by rw [f1.f (by decide)]; exact hbg pos) (by rw [f1.f (by decide)]; exact hmd rfl pos) (by omega) (fun m2 b1 b2 b3 b4 f2 => k m2 ⟨?_, ?_, b1, b2, b4, b3, ?_, ?_, ?_, ?_, ?_, ?_, hb3, he, ?_⟩ ?_ ?_)
  · exact (hL.fq f1).fq f2
  · exact a1.fq f2 (by decide) (by decide) (by decide) (by decide)
  · rw [f2.f (by decide), f1.f (by decide)]; exact h34
  · rw [f2.f (by decide), f1.f (by decide)]; exact h6
  · intro _; rw [f2.f (by decide), f1.f (by decide)]; exact hbg pos
  · intro _ _; rw [f2.f (by decide), f1.f (by decide)]; exact hmd rfl pos
  · simp only [List.length_append, eh_len, List.length_replicate, List.length_cons, List.length_nil] at hb1 ⊢
    omega
  · have e6 : (psA H ps bg 0 (cs ++ eh P ++ List.replicate k0 (opr 18)).length).length ≤ ps.length + 1 := by
      unfold psA
      split
      · rw [List.length_append]; exact Nat.le_refl _
      · omega
    simp only [List.length_append, List.length_replicate, List.length_cons, List.length_nil] at hb2
    omega
  · rw [nH, nsh_app, nsh_app] at hn8; omega
  · rw [f2.f (by decide), f1.f (by decide)]
  · exact (f1.mono (by decide) (by decide)).trans (f2.mono (by decide) (by decide))
theorem c_156s (hX : RK m N b q cs H ps e bg 0) (h17 : hd q ≠ 17) (h16 : hd q ≠ 16) (h : hd q ≠ 93 ∨ 16 ∉ H) (k : K (some (.int (nI 0))) m) : WP (d + 4) 156 [.ref 42] m K := by
  obtain ⟨hL, hT0, hC, hR, hPa, h15, h34, h6, hbg, hmd, hb1, hb2, hb3, he, hn8⟩ := hX
  have hN := hT0.2.2.2.1
  refine sp_156 ?_
  refine c_wrd_17 (by omega) ⟨_, rfl, ?_⟩
  refine c_takeWord (n := 17) (by decide) (by decide) hL hT0 (fun t' r' eq et m' a1 a2 => absurd et (by rw [eq] at h17; exact h17)) (fun z => ⟨_, rfl, ?_⟩)
  rw [if_pos rfl]
  refine c_wrd_16 (by omega) ⟨_, rfl, ?_⟩
  refine c_takeWord (n := 16) (by decide) (by decide) hL hT0 (fun t' r' eq et m' a1 a2 => absurd et (by rw [eq] at h16; exact h16)) (fun z => ⟨_, rfl, ?_⟩)
  rw [if_pos rfl]
  refine c_hscan hL hR (by omega) (fun z16 => ?_) (fun z => sg_156_190 k) _ 0 (Nat.zero_add _) (fun i hi => by omega)
  refine c_takeSign (c := 93) rfl hL hT0 (fun t' r' eq et m1 a1 f1 => ?_) (fun z => ⟨_, rfl, ?_⟩)
  · rcases h with h | h
    · rw [eq] at h; exact absurd et h
    · exact absurd z16 h
  · rw [if_pos rfl]
    exact sg_156_190 k
end R52
