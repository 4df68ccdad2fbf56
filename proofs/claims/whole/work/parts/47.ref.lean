/-! THE REFERENCE: expression() -/
section R47
variable {d N b o : Nat} {m m0 m1 : Mm} {K : Option Value → Mm → Prop} {q : List Tk} {cs : List Op} {W : List Nat}
theorem RJ.trans (f : Fq GX SXr m m0) (h : RJ m0 N b m1) : RJ m N b m1 := ⟨f.trans h.1, h.2⟩
theorem c_50b : ∀ (w c : Nat) (m : Mm), Len m → m.F 42 6 = nI 1 → m.F 42 7 = nI c → m.F 42 10 = nI w → c + w ≤ 90 → (∀ m', m'.F 42 6 = nI 1 → m'.F 42 7 = nI (c + w) → Fq [6, 7, 10] [46, 47] m m' → K none m') → WH (d + 1) 151 50 [(0, .ref 42)] [] m K := by
  intro w
  induction w with
  | zero =>
    intro c m hL h6 h7 h10 hl k
    refine sg_151_50 ?_
    rw [h10, if_pos (by decide)]
    exact k m h6 h7 (Fq.refl _ _ m)
  | succ w ih =>
    intro c m hL h6 h7 h10 hl k
    have l1 : (m.A 48).length = 101 := hL.a (by decide) rfl
    have e : m.F 42 10 - nI 1 = nI w := by rw [h10, nIsub (by omega), Nat.add_sub_cancel]
    refine sg_151_50 ?_
    have c1 : ¬ m.F 42 10 ≤ nI 0 := by rw [h10, nIle (by omega) (by omega)]; omega
    have c2 : ¬ m.F 42 6 = nI 0 := by rw [h6]; decide
    rw [if_neg c1, if_neg c2, e, l1]
    refine ⟨ok_nI (by omega) (by decide), ?_⟩
    have f1 : Fq [6, 7, 10] [46, 47] m ((m.uF 42 10 (nI w)).uF 42 6 (nI 1)) := Fq.uF (Fq.uF (Fq.refl _ _ m) (by decide) _) (by decide) _
    refine c_emitJ (c := c) (hL.fq f1) h7 (by omega) (fun m2 a1 a2 a3 f2 => ⟨rfl, ?_⟩)
    refine ih (c + 1) m2 ((hL.fq f1).fq f2) (by rw [f2.f (by decide)]; rfl) a1 (by rw [f2.f (by decide)]; rfl) (by omega) (fun m3 b1 b2 b3 => k m3 b1 ?_ ?_)
    · rw [b2]; congr 1; omega
    · exact (f1.trans (f2.mono (by decide) (by decide))).trans b3
theorem c_50j : ∀ (n c : Nat) (W : List Nat) (m : Mm), W.length = n → 16 ∈ W → Len m → m.F 42 6 = nI 0 → m.F 42 7 = nI c → RW m W → c + W.length ≤ 90 → (∀ m', m'.F 42 6 = nI 1 → m'.F 42 7 = nI (c + W.length) → Fq [6, 7, 10] [46, 47] m m' → K none m') → WH (d + 1) 151 50 [(0, .ref 42)] [] m K := by
  intro n
  induction n with
  | zero =>
    intro c W m hn h16
    have e : W = [] := List.length_eq_zero_iff.mp hn
    rw [e] at h16; cases h16
  | succ n ih =>
    intro c W m hn h16 hL h6 h7 hR hl k
    rcases List.eq_nil_or_concat W with e | ⟨V, x, e⟩
    · subst e; cases hn
    · rw [List.concat_eq_append] at e
      subst e
      rw [List.length_append, List.length_cons, List.length_nil] at hn hl
      have l1 : (m.A 48).length = 101 := hL.a (by decide) rfl
      have h10 : m.F 42 10 = nI (V.length + 1) := by rw [hR.1, List.length_append]; rfl
      have e : m.F 42 10 - nI 1 = nI V.length := by rw [h10, nIsub (by omega), Nat.add_sub_cancel]
      have hx := (hR.2 V.length (by simp)).2
      rw [getD_snoc2, if_pos rfl] at hx
      refine sg_151_50 ?_
      have c1 : ¬ m.F 42 10 ≤ nI 0 := by rw [h10, nIle (by omega) (by omega)]; omega
      rw [if_neg c1, if_pos h6, e, l1, ix_nI (by omega), hR.last]
      have ho1 : ok 101 (nI V.length) := ok_nI (by omega) (by decide)
      refine ⟨ho1, ?_⟩
      simp (disch := omega) only [nIeq]
      by_cases hx16 : x = 16
      · rw [if_pos hx16]
        refine ⟨ho1, ?_⟩
        have f1 : Fq [6, 7, 10] [46, 47] m ((m.uF 42 10 (nI V.length)).uF 42 6 (nI 1)) := Fq.uF (Fq.uF (Fq.refl _ _ m) (by decide) _) (by decide) _
        refine c_emitJ (c := c) (hL.fq f1) h7 (by omega) (fun m2 a1 a2 a3 f2 => ⟨rfl, ?_⟩)
        refine c_50b V.length (c + 1) m2 ((hL.fq f1).fq f2) (by rw [f2.f (by decide)]; rfl) a1 (by rw [f2.f (by decide)]; rfl) (by omega) (fun m3 b1 b2 b3 => k m3 b1 ?_ ?_)
        · rw [b2, List.length_append, List.length_cons, List.length_nil]; congr 1; omega
        · exact (f1.trans (f2.mono (by decide) (by decide))).trans b3
      · rw [if_neg hx16]
        refine ⟨ho1, ?_⟩
        have f1 : Fq [6, 7, 10] [46, 47] m ((m.uF 42 10 (nI V.length)).uF 42 6 (nI 0)) := Fq.uF (Fq.uF (Fq.refl _ _ m) (by decide) _) (by decide) _
        refine c_emitJ (c := c) (hL.fq f1) h7 (by omega) (fun m2 a1 a2 a3 f2 => ⟨rfl, ?_⟩)
        refine ih (c + 1) V m2 (by omega) (by rcases List.mem_append.mp h16 with z | z; exact z; exact absurd (List.mem_singleton.mp z).symm hx16) ((hL.fq f1).fq f2) (by rw [f2.f (by decide)]; rfl) a1 ?_ (by omega) (fun m3 b1 b2 b3 => k m3 b1 ?_ ?_)
        · exact (hR.pop.fq (Fq.uF (Fq.refl [6] [] _) (by decide) (nI 0)) (by decide) (by decide)).fq f2 (by decide) (by decide)
        · rw [b2, List.length_append, List.length_cons, List.length_nil]; congr 1; omega
        · exact (f1.trans (f2.mono (by decide) (by decide))).trans b3
theorem c_50y : ∀ (n : Nat) (W : List Nat) (m : Mm) (cs : List Op), W.length = n → (∀ x ∈ W, 4 ≤ x ∧ x ≤ 7) → Len m → m.F 42 6 = nI 0 → RC m cs → RW m W → cs.length + W.length ≤ 90 → (∀ m', m'.F 42 6 = nI 0 → RC m' (cs ++ em W) → Fq [6, 7, 10] [46, 47] m m' → K none m') → WH (d + 1) 151 50 [(0, .ref 42)] [] m K := by
  intro n
  induction n with
  | zero =>
    intro W m cs hn hW hL h6 hC hR hl k
    have e : W = [] := List.length_eq_zero_iff.mp hn
    subst e
    refine sg_151_50 ?_
    have h10 : m.F 42 10 = nI 0 := hR.1
    rw [h10, if_pos (by decide)]
    refine k m h6 ?_ (Fq.refl _ _ m)
    rw [em_nil, List.append_nil]; exact hC
  | succ n ih =>
    intro W m cs hn hW hL h6 hC hR hl k
    rcases List.eq_nil_or_concat W with e | ⟨V, x, e⟩
    · subst e; cases hn
    · rw [List.concat_eq_append] at e
      subst e
      rw [List.length_append, List.length_cons, List.length_nil] at hn hl
      have l1 : (m.A 48).length = 101 := hL.a (by decide) rfl
      have h10 : m.F 42 10 = nI (V.length + 1) := by rw [hR.1, List.length_append]; rfl
      have e : m.F 42 10 - nI 1 = nI V.length := by rw [h10, nIsub (by omega), Nat.add_sub_cancel]
      have hx := hW x (by simp)
      refine sg_151_50 ?_
      have c1 : ¬ m.F 42 10 ≤ nI 0 := by rw [h10, nIle (by omega) (by omega)]; omega
      rw [if_neg c1, if_pos h6, e, l1, ix_nI (by omega), hR.last]
      have ho1 : ok 101 (nI V.length) := ok_nI (by omega) (by decide)
      refine ⟨ho1, ?_⟩
      simp (disch := omega) only [nIeq]
      rw [if_neg (by omega)]
      refine ⟨ho1, ?_⟩
      have f1 : Fq [6, 7, 10] [46, 47] m ((m.uF 42 10 (nI V.length)).uF 42 6 (nI 0)) := Fq.uF (Fq.uF (Fq.refl _ _ m) (by decide) _) (by decide) _
      have hu := rop_unr (show 4 ≤ x ∧ x ≤ 8 by omega)
      refine c_emit (x := opr (unr x)) (hL.fq f1) (hC.fq (Fq.uF (Fq.uF (Fq.refl [6, 10] [] m) (by decide) (nI V.length)) (by decide) (nI 0)) (by decide) (by decide) (by decide)) (by omega) (by rw [hu.1]) (by rw [hu.2]) (fun m2 hC2 f2 => ⟨rfl, ?_⟩)
      refine ih V m2 _ (by omega) (fun y hy => hW y (by simp [hy])) ((hL.fq f1).fq f2) (by rw [f2.f (by decide)]; rfl) hC2 ?_ (by rw [List.length_append, List.length_cons, List.length_nil]; omega) (fun m3 b1 b2 b3 => k m3 b1 ?_ ?_)
      · exact (hR.pop.fq (Fq.uF (Fq.refl [6] [] _) (by decide) (nI 0)) (by decide) (by decide)).fq f2 (by decide) (by decide)
      · rw [em_app, em_one, ← List.append_assoc]; exact b2
      · exact (f1.trans (f2.mono (by decide) (by decide))).trans b3
theorem leaf_one {q : List Tk} {c : List Op} {r : List Tk} (h : leaf q = some (c, r)) : ∃ x, c = [x] := by
  unfold leaf at h
  split at h
  · cases h
  · split at h
    · cases h; exact ⟨_, rfl⟩
    · split at h
      · cases h; exact ⟨_, rfl⟩
      · unfold pCol at h
        split at h
        · cases h
        · split at h
          · split at h
            · split at h
              · cases h; exact ⟨_, rfl⟩
              · cases h
            · cases h
          · split at h
            · cases h; exact ⟨_, rfl⟩
            · cases h
theorem pp_mul {t : Nat} (h : isMul t = true) (x : Nat) : pp (rop t) x ↔ (x = 6 ∨ x = 7) := by
  rcases (isMul_iff _).mp h with rfl | rfl
  · show (x = 6 ∨ x = 7 ∨ (6 ≤ 5 ∧ _)) ↔ _
    omega
  · show (x = 6 ∨ x = 7 ∨ (7 ≤ 5 ∧ _)) ↔ _
    omega
theorem pp_add {t : Nat} (h : isAdd t = true) (x : Nat) : pp (rop t) x ↔ (4 ≤ x ∧ x ≤ 7) := by
  rcases (isAdd_iff _).mp h with rfl | rfl
  · show (x = 6 ∨ x = 7 ∨ (4 ≤ 5 ∧ _)) ↔ _
    omega
  · show (x = 6 ∨ x = 7 ∨ (5 ≤ 5 ∧ _)) ↔ _
    omega
theorem c_151 (hL : Len m) (hT : RT m N q) (hC : RC m cs) (ho : m.F 42 15 = nI o) (ho8 : o ≤ 8) (h6 : m.F 42 6 = nI 0) (hb : cs.length + q.length ≤ b) (hbN : b ≤ N)
    (k1 : ∀ c r, pEx (8 - o) q = some (c, r) → ∀ m', RT m' N r → RC m' (cs ++ c) → m'.F 42 6 = nI 0 → Fq GX SXr m m' → K none m')
    (k2 : pEx (8 - o) q = none → ∀ m' c q', RT m' N q' → m'.F 42 6 = nI 1 → m'.F 42 7 = nI c → c ≤ b + 1 → Fq GX SXr m m' → K none m') : WP (d + 5) 151 [.ref 42] m K := by
  have hN := hT.2.2.2.1
  have hq := hT.2.2.1
  have toB : (∀ m' c q', RT m' N q' → m'.F 42 6 = nI 1 → m'.F 42 7 = nI c → c ≤ b + 1 → Fq GX SXr m m' → K none m') → ∀ m', RJ m N b m' → WH (d + 5) 151 17 [(0, .ref 42), (1, .int (nI 1))] [] m' K := by
    intro hB m' ⟨f1, j6, ⟨q', jT⟩, c, w, hcw, j7, j10⟩
    refine sg_151_17 _ ?_
    have c2 : ¬ m'.F 42 6 = nI 0 := by rw [j6]; decide
    rw [if_neg (by decide), if_neg c2]
    refine c_50b w c m' (hL.fq f1) j6 j7 j10 (by omega) (fun m2 a1 a2 f2 => hB m2 (c + w) q' (jT.fq f2 (by decide) (by decide) (by decide) (by decide)) a1 a2 hcw (f1.trans (f2.mono (by decide) (by decide))))
  have hX : XC o (fun q cs W wt => ∀ m', RX m' N b o q cs W wt → Fq GX SXr m m' → WH (d + 5) 151 17 [(0, .ref 42), (1, .int (nI 1))] [] m' K) (∀ m' c q', RT m' N q' → m'.F 42 6 = nI 1 → m'.F 42 7 = nI c → c ≤ b + 1 → Fq GX SXr m m' → K none m') := by
    have w1 : ∀ {q cs W m'}, RX m' N b o q cs W 1 → WP (d + 4) 149 [.ref 42] m' (fun v m10 => v = none ∧ WH (d + 5) 151 17 [(0, .ref 42), (1, .int (nI 1))] [] m10 K) → WH (d + 5) 151 17 [(0, .ref 42), (1, .int (nI 1))] [] m' K := by
      intro q cs W m' x k
      refine sg_151_17 _ ?_
      have c1 : m'.F 42 6 = nI 0 := x.2.2.2.2.2.2.2.1
      have c2 : ¬ m'.F 42 16 = nI 0 := by rw [x.2.2.2.2.2.2.1]; decide
      rw [if_neg (by decide), if_pos c1, if_neg c2]
      exact k
    have w0 : ∀ {q cs W m'}, RX m' N b o q cs W 0 → WP (d + 4) 150 [.ref 42] m' (fun v m4 => ∃ w5, v = some (.int w5) ∧ WH (d + 5) 151 17 [(0, .ref 42), (1, .int w5)] [] m4 K) → WH (d + 5) 151 17 [(0, .ref 42), (1, .int (nI 1))] [] m' K := by
      intro q cs W m' x k
      refine sg_151_17 _ ?_
      have c1 : m'.F 42 6 = nI 0 := x.2.2.2.2.2.2.2.1
      have c2 : m'.F 42 16 = nI 0 := x.2.2.2.2.2.2.1
      rw [if_neg (by decide), if_pos c1, if_pos c2]
      exact k
    refine ⟨?_, ?_, ?_, ?_, ?_, ?_, ?_, ?_⟩
    · intro t r cs W ht hs g m' x f
      refine w1 x (c_149 x (fun t' r' e h1 h2 m2 x2 f2 => ⟨rfl, ?_⟩) (fun h1 h2 => by omega) (fun h1 h2 => ?_) (fun h1 h2 => ?_))
      · cases e; exact g m2 x2 (f.trans f2)
      · exact absurd ht (fun z => by rcases z with z | z; exact h1 z; exact h2 z)
      · exact absurd ht (fun z => by rcases z with z | z; exact h1 z; exact h2 z)
    · intro t r cs W ht hs hB m' x f
      refine w1 x (c_149 x (fun t' r' e h1 h2 => by omega) (fun h1 h2 m2 j => ⟨rfl, toB hB m2 (RJ.trans f j)⟩) (fun h1 h2 => ?_) (fun h1 h2 => ?_))
      · exact absurd ht (fun z => by rcases z with z | z; exact h1 z; exact h2 z)
      · exact absurd ht (fun z => by rcases z with z | z; exact h1 z; exact h2 z)
    · intro q x0 r cs W0 k h40 h45 hl h8 g m' x f
      obtain ⟨x1, e1⟩ := leaf_one hl
      subst e1
      refine w1 x (c_149 x (fun t' r' e h1 h2 => ?_) (fun h1 h2 => ?_) (fun h1 h2 x2 r2 e2 W2 k2 e3 h82 m2 x2 f2 => ⟨rfl, ?_⟩) (fun h1 h2 e2 => ?_))
      · subst e; exact absurd h1 (fun z => by rcases z with z | z; exact h40 z; exact h45 z)
      · exact absurd h1 (fun z => by rcases z with z | z; exact h40 z; exact h45 z)
      · rw [hl] at e2
        cases e2
        have e4 : W0 = W2 ∧ k = k2 := W_split_eq e3 h8 h82
        obtain ⟨rfl, rfl⟩ := e4
        exact g m2 x2 (f.trans f2)
      · rw [hl] at e2; cases e2
    · intro q cs W h40 h45 hl hB m' x f
      refine w1 x (c_149 x (fun t' r' e h1 h2 => ?_) (fun h1 h2 => ?_) (fun h1 h2 x2 r2 e2 => ?_) (fun h1 h2 e2 m2 j => ⟨rfl, toB hB m2 (RJ.trans f j)⟩))
      · subst e; exact absurd h1 (fun z => by rcases z with z | z; exact h40 z; exact h45 z)
      · exact absurd h1 (fun z => by rcases z with z | z; exact h40 z; exact h45 z)
      · rw [hl] at e2; cases e2
    · intro t r cs W0 P ht hP h6' h7' g m' x f
      refine w0 x (c_150o x (Or.inl ht) (fun y hy => (pp_mul ht y).mpr (hP y hy)) (fun z => by rcases (pp_mul ht _).mp z with z | z; exact h6' z; exact h7' z) (fun m2 x2 f2 => ⟨_, rfl, g m2 x2 (f.trans f2)⟩))
    · intro t r cs W0 P ht hP h0 g m' x f
      refine w0 x (c_150o x (Or.inr ht) (fun y hy => (pp_add ht y).mpr (hP y hy)) (fun z => by have := (pp_add ht _).mp z; omega) (fun m2 x2 f2 => ⟨_, rfl, g m2 x2 (f.trans f2)⟩))
    · intro t r cs W0 k P ht hP h8 g m' x f
      exact w0 x (c_150c x ht hP h8 (fun m2 x2 f2 => ⟨_, rfl, g m2 x2 (f.trans f2)⟩))
    · intro q cs W ha hm h41 h16 hB m' x f
      refine w0 x (c_150s x ha hm (Or.inl h41) ⟨_, rfl, ?_⟩)
      obtain ⟨hL', hT', hC', hR', hn', ho', hw', h60', hb', hbN', _⟩ := x
      refine sg_151_17 _ ?_
      rw [if_pos rfl]
      refine c_50j _ cs.length W m' rfl h16 hL' h60' hC'.1 hR' (by omega) (fun m2 a1 a2 f2 => hB m2 (cs.length + W.length) q (hT'.fq f2 (by decide) (by decide) (by decide) (by decide)) a1 a2 (by omega) (f.trans (f2.mono (by decide) (by decide))))
  have f1 : Fq GX SXr m (((m.uF 42 10 (nI 0)).uF 42 12 (nI 0)).uF 42 16 (nI 1)) := Fq.uF (Fq.uF (Fq.uF (Fq.refl _ _ m) (by decide) _) (by decide) _) (by decide) _
  have f2 : Fq [10, 12, 16] [] m (((m.uF 42 10 (nI 0)).uF 42 12 (nI 0)).uF 42 16 (nI 1)) := Fq.uF (Fq.uF (Fq.uF (Fq.refl _ _ m) (by decide) _) (by decide) _) (by decide) _
  refine sp_151 ?_
  refine x_exp hX (x_fac hX (8 - o)) (cs := cs) (W1 := []) (by omega) (Or.inl (by decide)) (by show 0 + o + (8 - o) = 8; omega) ?_ k2 _ ?_ f1
  · intro c r e ha hm cs2 A U hA hU he m' x f
    rw [List.nil_append] at x
    have hAU : ∀ y ∈ A ++ U, 4 ≤ y ∧ y ≤ 7 := by
      intro x hx
      rcases hA with rfl | rfl | rfl <;> rcases hU with rfl | rfl | rfl <;> simp at hx <;> omega
    have c1 : m'.F 42 6 = nI 0 := x.2.2.2.2.2.2.2.1
    have c2 : m'.F 42 16 = nI 0 := x.2.2.2.2.2.2.1
    refine sg_151_17 _ ?_
    rw [if_neg (by decide), if_pos c1, if_pos c2]
    refine c_150s x ha hm (Or.inr (fun z => by have := hAU _ z; omega)) ⟨_, rfl, ?_⟩
    obtain ⟨hL', hT', hC', hR', hn', ho', hw', h60', hb', hbN', _⟩ := x
    refine sg_151_17 _ ?_
    rw [if_pos rfl]
    refine c_50y _ (A ++ U) m' cs2 rfl hAU hL' h60' hC' hR' (by omega) (fun m2 a1 a2 f3 => k1 c r e m2 (hT'.fq f3 (by decide) (by decide) (by decide) (by decide)) ?_ a1 (f.trans (f3.mono (by decide) (by decide))))
    rw [em_app, ← List.append_assoc, he] at a2
    exact a2
  · refine ⟨hL.fq f2, hT.fq f2 (by decide) (by decide) (by decide) (by decide), hC.fq f2 (by decide) (by decide) (by decide), ⟨rfl, fun i hi => by cases hi⟩, rfl, ?_, rfl, ?_, by simpa using hb, hbN, ho8⟩
    · rw [f2.f (by decide)]; exact ho
    · rw [f2.f (by decide)]; exact h6
/-- an expression behind a bad place: nothing -/
theorem c_151b (h6 : m.F 42 6 = nI 1) (k : ∀ m', Fq [10, 12, 16] [] m m' → K none m') : WP (d + 1) 151 [.ref 42] m K := by
  refine sp_151 ?_
  have f2 : Fq [10, 12, 16] [] m (((m.uF 42 10 (nI 0)).uF 42 12 (nI 0)).uF 42 16 (nI 1)) := Fq.uF (Fq.uF (Fq.uF (Fq.refl _ _ m) (by decide) _) (by decide) _) (by decide) _
  have c2 : ¬ (((m.uF 42 10 (nI 0)).uF 42 12 (nI 0)).uF 42 16 (nI 1)).F 42 6 = nI 0 := by
    rw [f2.f (by decide), h6]; decide
  refine sg_151_17 _ ?_
  rw [if_neg (by decide), if_neg c2]
  refine sg_151_50 ?_
  rw [if_pos (show (((m.uF 42 10 (nI 0)).uF 42 12 (nI 0)).uF 42 16 (nI 1)).F 42 10 ≤ nI 0 from by show nI 0 ≤ nI 0; decide)]
  exact k _ f2
end R47
