/-! THE REFERENCE: condition() -/
def GC : List Nat := [5, 6, 7, 10, 12, 13, 15, 16, 25, 26, 27, 33, 34, 38, 39]
section R53
variable {d N b : Nat} {m m0 m1 : Mm} {K : Option Value → Mm → Prop} {q : List Tk} {cs : List Op} {H : List Nat} {ps : List Pt} {e bg : Nat}
/-- the end: nothing is held any more -/
theorem c_79e (hL : Len m) (h13 : m.F 42 13 = nI 0) (k0 : m.F 42 34 = nI 0 → ∀ m', m'.F 42 15 = nI 0 → m'.F 42 27 = m.F 42 7 → Fq [15, 27] [] m m' → K none m') (k1 : ¬ m.F 42 34 = nI 0 → ∀ m', m'.F 42 15 = nI 0 → m'.F 42 27 = m.F 42 7 → (∀ x y, m.F 42 26 = nI x → m.F 42 7 = nI y → RP m' [(x, 0, y)]) → Fq [15, 27, 33] [53, 54, 55] m m' → K none m') : WH (d + 1) 157 79 [(0, .ref 42)] [] m K := by
  have l1 : (m.A 53).length = 40 := hL.a (by decide) rfl
  have l2 : (m.A 54).length = 40 := hL.a (by decide) rfl
  have l3 : (m.A 55).length = 40 := hL.a (by decide) rfl
  refine sg_157_79 ?_
  rw [if_pos (by rw [h13]; decide)]
  by_cases h34 : m.F 42 34 = nI 0
  · rw [if_pos h34]
    exact k0 h34 _ rfl rfl (Fq.uF (Fq.uF (Fq.refl _ _ m) (by decide) _) (by decide) _)
  · rw [if_neg h34, l1, l2, l3, ix_nI (by decide)]
    have ho : ok 40 (nI 0) := ok_nI (by decide) (by decide)
    refine ⟨ho, ho, ho, k1 h34 _ rfl rfl (fun x y hx hy => ⟨rfl, fun i hi => ?_⟩) ?_⟩
    · have e0 : i = 0 := by simp at hi; exact hi
      subst e0
      show ((m.A 53).set 0 (m.F 42 26)).getD 0 0 = nI x ∧ ((m.A 55).set 0 (-1)).getD 0 0 = ow 0 ∧ ((m.A 54).set 0 (m.F 42 7)).getD 0 0 = nI y
      rw [getD_set _ _ _ _ _ (by omega), getD_set _ _ _ _ _ (by omega), getD_set _ _ _ _ _ (by omega)]
      exact ⟨hx, rfl, hy⟩
    · refine Fq.uA (Fq.uA (Fq.uA (Fq.uF (Fq.uF (Fq.uF (Fq.refl _ _ m) (by decide) _) (by decide) _) (by decide) _) (by decide) ?_) (by decide) ?_) (by decide) ?_
      · rw [List.length_set]; rfl
      · rw [List.length_set]; rfl
      · rw [List.length_set]; rfl
theorem c_79b : ∀ (h c : Nat) (m : Mm), Len m → m.F 42 6 = nI 1 → m.F 42 7 = nI c → m.F 42 13 = nI h → c + h ≤ 90 → (∀ m', m'.F 42 6 = nI 1 → Fq [6, 7, 13, 15, 27, 33] SWr m m' → K none m') → WH (d + 2) 157 79 [(0, .ref 42)] [] m K := by
  intro h
  induction h with
  | zero =>
    intro c m hL h6 h7 h13 hl k
    refine c_79e hL h13 (fun _ m' a1 a2 f => k m' ?_ (f.mono (by decide) (by decide))) (fun _ m' a1 a2 a3 f => k m' ?_ (f.mono (by decide) (by decide)))
    · rw [f.f (by decide)]; exact h6
    · rw [f.f (by decide)]; exact h6
  | succ h ih =>
    intro c m hL h6 h7 h13 hl k
    refine sg_157_79 ?_
    have c1 : ¬ m.F 42 13 ≤ nI 0 := by rw [h13, nIle (by omega) (by omega)]; omega
    rw [if_neg c1, if_neg (by rw [h6]; decide)]
    have f1 : Fq [6] [] m (m.uF 42 6 (nI 1)) := Fq.uF (Fq.refl _ _ _) (by decide) _
    refine c_152j (c := c) (h := h) (hL.fq f1) h7 h13 (by omega) (fun m2 a1 a2 f2 => ⟨rfl, ?_⟩)
    refine ih (c + 1) m2 ((hL.fq f1).fq f2) (by rw [f2.f (by decide)]; rfl) a1 a2 (by omega) (fun m3 b1 b2 => k m3 b1 ?_)
    exact ((f1.mono (by decide) (by decide)).trans (f2.mono (by decide) (by decide))).trans b2
theorem c_79j : ∀ (n c : Nat) (H : List Nat) (m : Mm), H.length = n → 16 ∈ H → Len m → m.F 42 6 = nI 0 → m.F 42 7 = nI c → RH m H → c + H.length ≤ 90 → (∀ m', m'.F 42 6 = nI 1 → Fq [6, 7, 13, 15, 27, 33] SWr m m' → K none m') → WH (d + 2) 157 79 [(0, .ref 42)] [] m K := by
  intro n
  induction n with
  | zero =>
    intro c H m hn h16
    have e : H = [] := List.length_eq_zero_iff.mp hn
    rw [e] at h16; cases h16
  | succ n ih =>
    intro c H m hn h16 hL h6 h7 hR hl k
    rcases List.eq_nil_or_concat H with e | ⟨V, x, e⟩
    · subst e; cases hn
    · rw [List.concat_eq_append] at e
      subst e
      have l1 : (m.A 49).length = 101 := hL.a (by decide) rfl
      have hh := hR.n13 (by omega)
      have hx := hR.last
      rw [List.length_append, List.length_cons, List.length_nil] at hn hl
      have c1 : ¬ m.F 42 13 ≤ nI 0 := by rw [hh.1, nIle (by omega) (by omega)]; omega
      refine sg_157_79 ?_
      rw [if_neg c1, if_pos h6, hh.2, l1, ix_nI (by omega), hx.1]
      refine ⟨ok_nI (by omega) (by decide), ?_⟩
      simp (disch := omega) only [nIeq]
      by_cases hx16 : x = 16
      · rw [if_pos hx16]
        have f1 : Fq [6] [] m (m.uF 42 6 (nI 1)) := Fq.uF (Fq.refl _ _ _) (by decide) _
        refine c_152j (c := c) (h := V.length) (hL.fq f1) h7 hh.1 (by omega) (fun m2 a1 a2 f2 => ⟨rfl, ?_⟩)
        refine c_79b V.length (c + 1) m2 ((hL.fq f1).fq f2) (by rw [f2.f (by decide)]; rfl) a1 a2 (by omega) (fun m3 b1 b2 => k m3 b1 ?_)
        exact ((f1.mono (by decide) (by decide)).trans (f2.mono (by decide) (by decide))).trans b2
      · rw [if_neg hx16]
        have f1 : Fq [6] [] m (m.uF 42 6 (nI 0)) := Fq.uF (Fq.refl _ _ _) (by decide) _
        refine c_152j (c := c) (h := V.length) (hL.fq f1) h7 hh.1 (by omega) (fun m2 a1 a2 f2 => ⟨rfl, ?_⟩)
        have hV : RH m2 V := by
          refine ⟨a2, fun i hi => ?_⟩
          have := hR.2 i (by rw [List.length_append]; omega)
          rw [getD_snoc2, if_neg (by omega)] at this
          rw [f2.a (by decide)]
          exact this
        refine ih (c + 1) V m2 (by omega) (by rcases List.mem_append.mp h16 with z | z; exact z; exact absurd (List.mem_singleton.mp z).symm hx16) ((hL.fq f1).fq f2) (by rw [f2.f (by decide)]; rfl) a1 hV (by omega) (fun m3 b1 b2 => k m3 b1 ?_)
        exact ((f1.mono (by decide) (by decide)).trans (f2.mono (by decide) (by decide))).trans b2
theorem c_79y : ∀ (n : Nat) (H : List Nat) (m : Mm) (cs : List Op), H.length = n → (∀ x ∈ H, x = 14 ∨ x = 15) → Len m → m.F 42 6 = nI 0 → RC m cs → RH m H → cs.length + H.length ≤ 90 → (∀ m', Len m' → m'.F 42 6 = nI 0 → RC m' (cs ++ eh H) → m'.F 42 13 = nI 0 → Fq [6, 7, 13] [46, 47] m m' → WH (d + 2) 157 79 [(0, .ref 42)] [] m' K) → WH (d + 2) 157 79 [(0, .ref 42)] [] m K := by
  intro n
  induction n with
  | zero =>
    intro H m cs hn hH hL h6 hC hR hl k
    have e : H = [] := List.length_eq_zero_iff.mp hn
    subst e
    refine k m hL h6 ?_ hR.1 (Fq.refl _ _ m)
    rw [eh_nil, List.append_nil]; exact hC
  | succ n ih =>
    intro H m cs hn hH hL h6 hC hR hl k
    rcases List.eq_nil_or_concat H with e | ⟨V, x, e⟩
    · subst e; cases hn
    · rw [List.concat_eq_append] at e
      subst e
      have l1 : (m.A 49).length = 101 := hL.a (by decide) rfl
      have hh := hR.n13 (by omega)
      have hx := hR.last
      have hl0 := hl
      rw [List.length_append, List.length_cons, List.length_nil] at hn hl
      have hxx := hH x (by simp)
      have c1 : ¬ m.F 42 13 ≤ nI 0 := by rw [hh.1, nIle (by omega) (by omega)]; omega
      refine sg_157_79 ?_
      rw [if_neg c1, if_pos h6, hh.2, l1, ix_nI (by omega), hx.1]
      refine ⟨ok_nI (by omega) (by decide), ?_⟩
      simp (disch := omega) only [nIeq]
      rw [if_neg (by omega)]
      have f1 : Fq [6] [] m (m.uF 42 6 (nI 0)) := Fq.uF (Fq.refl _ _ _) (by decide) _
      refine c_152 (hL.fq f1) (hC.fq f1 (by decide) (by decide) (by decide)) (hR.fq f1 (by decide) (by decide)) hl0 (by omega) (fun m2 hC2 hR2 f2 => ⟨rfl, ?_⟩)
      refine ih V m2 _ (by omega) (fun y hy => hH y (by simp [hy])) ((hL.fq f1).fq f2) (by rw [f2.f (by decide)]; rfl) hC2 hR2 (by rw [List.length_append, List.length_cons, List.length_nil]; omega) (fun m3 b0 b1 b2 b3 b4 => k m3 b0 b1 ?_ b3 (((f1.mono (by decide) (by decide)).trans (f2.mono (by decide) (by decide))).trans b4))
      rw [eh_app, eh_one, ← List.append_assoc]; exact b2
theorem c_157 (hL : Len m) (hT : RT m N q) (hC : RC m cs) (h6 : m.F 42 6 = nI 0) (h13 : m.F 42 13 = nI 0) (h15 : m.F 42 15 = nI 0) (h33 : m.F 42 33 = nI 0) (h34 : m.F 42 34 = nI 0) (hb : cs.length + q.length ≤ N)
    (k1 : ∀ s, tCnd (q, cs, []) = some s → ∀ m', RT m' N s.1 → RC m' s.2.1 → RP m' s.2.2 → m'.F 42 6 = nI 0 → m'.F 42 25 = nI 1 → m'.F 42 26 = nI cs.length → m'.F 42 27 = nI s.2.1.length → m'.F 42 15 = nI 0 → s.2.1.length + s.1.length ≤ N → Fq GC SWr m m' → K none m')
    (k2 : tCnd (q, cs, []) = none → ∀ m' q', RT m' N q' → m'.F 42 6 = nI 1 → Fq GC SWr m m' → K none m') : WP (d + 7) 157 [.ref 42] m K := by
  have hN := hT.2.2.2.1
  have hq := hT.2.2.1
  refine sp_157 ?_
  rw [hC.1]
  have f0 : Fq [25, 26] [] m ((m.uF 42 25 (nI 1)).uF 42 26 (nI cs.length)) := Fq.uF (Fq.uF (Fq.refl _ _ _) (by decide) _) (by decide) _
  have g25 : ((m.uF 42 25 (nI 1)).uF 42 26 (nI cs.length)).F 42 25 = nI 1 := rfl
  have g26 : ((m.uF 42 25 (nI 1)).uF 42 26 (nI cs.length)).F 42 26 = nI cs.length := rfl
  generalize ((m.uF 42 25 (nI 1)).uF 42 26 (nI cs.length)) = m1 at *
  have hL1 := hL.fq f0
  have toB : (∀ m' q', RT m' N q' → m'.F 42 6 = nI 1 → Fq GC SWr m m' → K none m') → ∀ m' (w : Int32), RJk m1 N N m' → WH (d + 7) 157 17 [(0, .ref 42), (1, .int (nI 1)), (2, .int w)] [] m' K := by
    intro hB m' w ⟨f1, j6, ⟨q', jT⟩, c, h, hch, j7, j13⟩
    refine sg_157_17 _ _ ?_
    rw [if_neg (by decide), if_neg (by rw [j6]; decide)]
    refine c_79b h c m' (hL1.fq f1) j6 j7 j13 (by omega) (fun m2 a1 f2 => hB m2 q' (jT.fq f2 (by decide) (by decide) (by decide) (by decide)) a1 ?_)
    exact ((f0.mono (by decide) (by decide)).trans (f1.mono (by decide) (by decide))).trans (f2.mono (by decide) (by decide))
  have hX : CC (fun q cs H ps e bg w => ∀ m', RK m' N N q cs H ps e bg w → Fq GW SWr m1 m' → WH (d + 7) 157 17 [(0, .ref 42), (1, .int (nI 1)), (2, .int (nI w))] [] m' K) (∀ m' q', RT m' N q' → m'.F 42 6 = nI 1 → Fq GC SWr m m' → K none m') := by
    have w1 : ∀ {q cs H ps e bg m'}, RK m' N N q cs H ps e bg 1 → (∀ m2, RK m2 N N q cs H ps e (ob H bg cs) 1 → m2.F 42 38 = nI (ob H bg cs) → Fq GW SWr m' m2 → WP (d + 6) 155 [.ref 42] m2 (fun v m23 => v = none ∧ WH (d + 7) 157 17 [(0, .ref 42), (1, .int (nI 1)), (2, .int (m23.F 42 16))] [] m23 K)) → WH (d + 7) 157 17 [(0, .ref 42), (1, .int (nI 1)), (2, .int (nI 1))] [] m' K := by
      intro q cs H ps e bg m' x k
      obtain ⟨xL, xT, xC, xR, xP, x15, x34, x6, xbg, xmd, xb1, xb2, xb3, xe, xn⟩ := x
      have mk : ∀ v, v = nI (ob H bg cs) → WP (d + 6) 155 [.ref 42] (m'.uF 42 38 v) (fun v m23 => v = none ∧ WH (d + 7) 157 17 [(0, .ref 42), (1, .int (nI 1)), (2, .int (m23.F 42 16))] [] m23 K) := by
        intro v hv
        have f1 : Fq [38] [] m' (m'.uF 42 38 v) := Fq.uF (Fq.refl _ _ _) (by decide) _
        refine k _ ⟨xL.fq f1, xT.fq f1 (by decide) (by decide) (by decide) (by decide), xC.fq f1 (by decide) (by decide) (by decide), xR.fq f1 (by decide) (by decide), xP.fq f1 (by decide) (by decide) (by decide) (by decide), x15, x34, x6, fun _ => hv, fun z => by omega, xb1, xb2, xb3, xe, xn⟩ hv (f1.mono (by decide) (by decide))
      refine sg_157_17 _ _ ?_
      rw [if_neg (by decide), if_pos x6, if_neg (by decide)]
      by_cases h0 : nsh H = 0
      · rw [if_pos (by rw [x15, h0])]
        refine mk _ ?_
        rw [xC.1]; unfold ob; rw [if_pos h0]
      · have c0 : ¬ m'.F 42 15 = nI 0 := by rw [x15, nIeq (by omega) (by omega)]; exact h0
        rw [if_neg c0]
        refine mk _ ?_
        rw [xbg (by omega)]; unfold ob; rw [if_neg h0]
    have w0 : ∀ {q cs H ps e bg m'}, RK m' N N q cs H ps e bg 0 → (∀ m2, RK m2 N N q cs H ps e bg 0 → m2.F 42 16 = nI 0 → Fq GW SWr m' m2 → WP (d + 6) 156 [.ref 42] m2 (fun v m4 => ∃ w5, v = some (.int w5) ∧ WH (d + 7) 157 17 [(0, .ref 42), (1, .int w5), (2, .int (m4.F 42 16))] [] m4 K)) → WH (d + 7) 157 17 [(0, .ref 42), (1, .int (nI 1)), (2, .int (nI 0))] [] m' K := by
      intro q cs H ps e bg m' x k
      obtain ⟨xL, xT, xC, xR, xP, x15, x34, x6, xbg, xmd, xb1, xb2, xb3, xe, xn⟩ := x
      have f1 : Fq [16] [] m' (m'.uF 42 16 (nI 0)) := Fq.uF (Fq.refl _ _ _) (by decide) _
      refine sg_157_17 _ _ ?_
      rw [if_neg (by decide), if_pos x6, if_pos rfl]
      exact k _ ⟨xL.fq f1, xT.fq f1 (by decide) (by decide) (by decide) (by decide), xC.fq f1 (by decide) (by decide) (by decide), xR.fq f1 (by decide) (by decide), xP.fq f1 (by decide) (by decide) (by decide) (by decide), x15, x34, x6, xbg, xmd, xb1, xb2, xb3, xe, xn⟩ rfl (f1.mono (by decide) (by decide))
    refine ⟨?_, ?_, ?_, ?_, ?_, ?_, ?_, ?_⟩
    · intro t r cs H ps e bg ht hs g m' x f
      refine w1 x (fun m2 x2 h38 f2 => ?_)
      obtain ⟨W0, k0, e1, e2⟩ := H_split H
      subst e1
      refine c_155 x2 h38 e2 (fun t' r' eq h1 h2 m3 x3 h16 f3 => ⟨rfl, ?_⟩) (fun h1 h2 => by omega) (fun h1 h2 => ?_) (fun h1 h2 => ?_)
      · cases eq
        rw [h16]
        exact g m3 x3 ((f.trans f2).trans f3)
      · exact absurd ht (fun z => by rcases z with z | z; exact h1 z; exact h2 z)
      · exact absurd ht (fun z => by rcases z with z | z; exact h1 z; exact h2 z)
    · intro t r cs H ps e bg ht hs hB m' x f
      refine w1 x (fun m2 x2 h38 f2 => ?_)
      obtain ⟨W0, k0, e1, e2⟩ := H_split H
      subst e1
      refine c_155 x2 h38 e2 (fun t' r' eq h1 h2 => by omega) (fun h1 h2 m3 j => ⟨rfl, toB hB m3 _ ⟨(f.trans f2).trans j.1, j.2⟩⟩) (fun h1 h2 => ?_) (fun h1 h2 => ?_)
      · exact absurd ht (fun z => by rcases z with z | z; exact h1 z; exact h2 z)
      · exact absurd ht (fun z => by rcases z with z | z; exact h1 z; exact h2 z)
    · intro q c mq r cs H k ps e bg h18 h91 hc hH hs g m' x f
      refine w1 x (fun m2 x2 h38 f2 => ?_)
      refine c_155 x2 h38 hH (fun t' r' eq h1 h2 => ?_) (fun h1 h2 => ?_) (fun h1 h2 c' mq' r' e2 m3 x3 h16 f3 => ⟨rfl, ?_⟩) (fun h1 h2 e2 => ?_)
      · subst eq; exact absurd h1 (fun z => by rcases z with z | z; exact h18 z; exact h91 z)
      · exact absurd h1 (fun z => by rcases z with z | z; exact h18 z; exact h91 z)
      · rw [hc] at e2
        cases e2
        rw [h16]
        exact g m3 x3 ((f.trans f2).trans f3)
      · rw [hc] at e2; cases e2
    · intro q cs H ps e bg h18 h91 hs hc hB m' x f
      refine w1 x (fun m2 x2 h38 f2 => ?_)
      obtain ⟨W0, k0, e1, e2⟩ := H_split H
      subst e1
      refine c_155 x2 h38 e2 (fun t' r' eq h1 h2 => ?_) (fun h1 h2 => ?_) (fun h1 h2 c' mq' r' e3 => ?_) (fun h1 h2 e3 m3 j => ⟨rfl, toB hB m3 _ ⟨(f.trans f2).trans j.1, j.2⟩⟩)
      · subst eq; exact absurd h1 (fun z => by rcases z with z | z; exact h18 z; exact h91 z)
      · exact absurd h1 (fun z => by rcases z with z | z; exact h18 z; exact h91 z)
      · rw [hc] at e3; cases e3
    · intro t r cs H P ps e bg ht hP h0 g m' x f
      refine w0 x (fun m2 x2 h16 f2 => ?_)
      refine c_156a x2 ht hP h0 (fun m3 x3 h16' f3 => ⟨_, rfl, ?_⟩)
      rw [h16']
      exact g m3 x3 ((f.trans f2).trans f3)
    · intro t r cs H P ps e bg ht hP h0 h1 g m' x f
      refine w0 x (fun m2 x2 h16 f2 => ?_)
      refine c_156o x2 ht hP h0 h1 (fun m3 x3 h16' f3 => ⟨_, rfl, ?_⟩)
      rw [h16']
      exact g m3 x3 ((f.trans f2).trans f3)
    · intro t r cs H k P ps e bg ht hP h0 g m' x f
      refine w0 x (fun m2 x2 h16 f2 => ?_)
      refine c_156c x2 ht hP h0 (fun m3 x3 h16' f3 => ⟨_, rfl, ?_⟩)
      rw [h16', h16]
      exact g m3 x3 ((f.trans f2).trans f3)
    · intro q cs H ps e bg h17 h16 h93 hin hB m' x f
      refine w0 x (fun m2 x2 h16' f2 => ?_)
      refine c_156s x2 h17 h16 (Or.inl h93) ⟨_, rfl, ?_⟩
      obtain ⟨xL, xT, xC, xR, xP, x15, x34, x6, xbg, xmd, xb1, xb2, xb3, xe, xn⟩ := x2
      refine sg_157_17 _ _ ?_
      rw [if_pos rfl]
      refine c_79j _ cs.length H m2 rfl hin xL x6 xC.1 xR (by omega) (fun m3 a1 f3 => hB m3 q (xT.fq f3 (by decide) (by decide) (by decide) (by decide)) a1 ?_)
      exact (((f0.mono (by decide) (by decide)).trans (f.mono (by decide) (by decide))).trans (f2.mono (by decide) (by decide))).trans (f3.mono (by decide) (by decide))
  refine t_cnd hX (e := 0) (bg := 0) (q := q) (cs := cs) (ps := []) (by omega) ?_ k2 m1 ?_ (Fq.refl _ _ _)
  · intro s1 s' e1 e2 h17 h16 cs2 O A bg' hO hA he m' x f
    have hOA : ∀ y ∈ O ++ A, y = 14 ∨ y = 15 := by
      intro x hx
      rcases hO with rfl | rfl <;> rcases hA with rfl | rfl <;> simp at hx <;> omega
    have hno : 16 ∉ O ++ A := fun z => by have := hOA _ z; omega
    have ecn : tCnd (q, cs, []) = if hd s1.1 = 16 then some (s'.1, s'.2.1, [(cs.length, 0, s'.2.1.length)]) else some s' := by
      unfold tCnd
      rw [e1]
      dsimp only
      rw [e2]
    have f1 : Fq [16] [] m' (m'.uF 42 16 (nI 0)) := Fq.uF (Fq.refl _ _ _) (by decide) _
    have x6 := x.2.2.2.2.2.2.2.1
    refine sg_157_17 _ _ ?_
    rw [if_neg (by decide), if_pos x6, if_pos rfl]
    obtain ⟨xL, xT, xC, xR, xP, x15, x34, x6, xbg, xmd, xb1, xb2, xb3, xe, xn⟩ := x
    have x2 : RK (m'.uF 42 16 (nI 0)) N N s'.1 cs2 (O ++ A) s'.2.2 (if hd s1.1 = 16 then 1 else 0) bg' 0 := ⟨xL.fq f1, xT.fq f1 (by decide) (by decide) (by decide) (by decide), xC.fq f1 (by decide) (by decide) (by decide), xR.fq f1 (by decide) (by decide), xP.fq f1 (by decide) (by decide) (by decide) (by decide), x15, x34, x6, xbg, xmd, xb1, xb2, xb3, xe, xn⟩
    refine c_156s x2 h17 h16 (Or.inr hno) ⟨_, rfl, ?_⟩
    obtain ⟨yL, yT, yC, yR, yP, y15, y34, y6, ybg, ymd, yb1, yb2, yb3, ye, yn⟩ := x2
    have ecs : cs2 ++ eh (O ++ A) = s'.2.1 := by rw [eh_app, ← List.append_assoc, he]
    have ebd : s'.2.1.length + s'.1.length ≤ N := by rw [← ecs, List.length_append, eh_len]; omega
    refine sg_157_17 _ _ ?_
    rw [if_pos rfl]
    refine c_79y _ (O ++ A) _ cs2 rfl hOA yL y6 yC yR (by omega) (fun m3 b0 b1 b2 b3 f3 => ?_)
    rw [ecs] at b2
    have f4 : Fq GW SWr m1 m3 := (f.trans (f1.mono (by decide) (by decide))).trans (f3.mono (by decide) (by decide))
    have b34 : m3.F 42 34 = nI (if hd s1.1 = 16 then 1 else 0) := by rw [f3.f (by decide)]; exact y34
    have b26 : m3.F 42 26 = nI cs.length := by rw [f4.f (by decide)]; exact g26
    have b25 : m3.F 42 25 = nI 1 := by rw [f4.f (by decide)]; exact g25
    refine c_79e b0 b3 (fun h0 m4 a1 a2 f5 => ?_) (fun h0 m4 a1 a2 a3 f5 => ?_)
    · have hs : ¬ hd s1.1 = 16 := by
        intro z
        rw [b34, if_pos z] at h0
        exact absurd h0 (by decide)
      rw [if_neg hs] at ecn
      refine k1 s' ecn m4 ?_ ?_ ?_ ?_ ?_ ?_ ?_ a1 ebd ?_
      · exact (yT.fq f3 (by decide) (by decide) (by decide) (by decide)).fq f5 (by decide) (by decide) (by decide) (by decide)
      · exact b2.fq f5 (by decide) (by decide) (by decide)
      · exact (yP.fq f3 (by decide) (by decide) (by decide) (by decide)).fq f5 (by decide) (by decide) (by decide) (by decide)
      · rw [f5.f (by decide)]; exact b1
      · rw [f5.f (by decide)]; exact b25
      · rw [f5.f (by decide)]; exact b26
      · rw [a2]; exact b2.1
      · exact ((f0.mono (by decide) (by decide)).trans (f4.mono (by decide) (by decide))).trans (f5.mono (by decide) (by decide))
    · have hs : hd s1.1 = 16 := by
        apply Classical.byContradiction
        intro z
        rw [b34, if_neg z] at h0
        exact absurd h0 (by decide)
      rw [if_pos hs] at ecn
      refine k1 _ ecn m4 ?_ ?_ ?_ ?_ ?_ ?_ ?_ a1 ebd ?_
      · exact (yT.fq f3 (by decide) (by decide) (by decide) (by decide)).fq f5 (by decide) (by decide) (by decide) (by decide)
      · exact b2.fq f5 (by decide) (by decide) (by decide)
      · exact a3 _ _ b26 b2.1
      · rw [f5.f (by decide)]; exact b1
      · rw [f5.f (by decide)]; exact b25
      · rw [f5.f (by decide)]; exact b26
      · rw [a2]; exact b2.1
      · exact ((f0.mono (by decide) (by decide)).trans (f4.mono (by decide) (by decide))).trans (f5.mono (by decide) (by decide))
  · refine ⟨hL1, hT.fq f0 (by decide) (by decide) (by decide) (by decide), hC.fq f0 (by decide) (by decide) (by decide), ⟨?_, fun i hi => by cases hi⟩, ⟨?_, fun i hi => by cases hi⟩, ?_, ?_, ?_, fun z => ?_, fun z => by omega, by simpa using hb, by simpa using hq, Nat.le_refl _, by decide, by decide⟩
    · rw [f0.f (by decide)]; exact h13
    · rw [f0.f (by decide)]; exact h33
    · rw [f0.f (by decide)]; exact h15
    · rw [f0.f (by decide)]; exact h34
    · rw [f0.f (by decide)]; exact h6
    · exact absurd z (by decide)
end R53
