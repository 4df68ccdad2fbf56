/-! insert: the reference -/
def GI : List Nat := [53]
def SI : List Nat := [57, 58, 61, 62]
def updP (P : Nat → List (List Int64)) (t : Nat) (R : List (List Int64)) : Nat → List (List Int64) := fun s => if s = t then R else P s
section I75
variable {d N : Nat} {m m0 m1 : Mm} {K : Option Value → Mm → Prop} {D : Db} {e : St} {P : Nat → List (List Int64)} {nm : Nat}
theorem cnt_perm {R S : List (List Int64)} (h : R.Perm S) (c : Nat) (v : Int64) : cntR R c v = cntR S c v := h.countP_eq _
/-- has a row this key? -/
theorem lp_82 {t n : Nat} {v : Int64} {R : List (List Int64)} (ht : t < 3) (hn : n = R.length) (hn20 : n ≤ 20) (hL : Len m) (h58 : ∀ i, i < n → (m.B 58).getD (80 * t + 4 * i) 0 = (R.getD i []).getD 0 0) (h62 : (m.B 62).getD 0 0 = v) (k1 : (v = NUL ∨ 0 < cntR R 0 v) → K (some (.int (nI 4))) m) (k2 : ¬ (v = NUL ∨ 0 < cntR R 0 v) → n = 20 → K (some (.int (nI 5))) m) (k3 : ¬ (v = NUL ∨ 0 < cntR R 0 v) → n ≠ 20 → WH d 180 145 [(0, .ref 42), (1, .int (nI t)), (2, .int (nI n)), (4, .int (nI 0))] [] m K) : ∀ (j i x : Nat), i + j = n → (x = 0 ∧ ¬ (v = NUL ∨ 0 < cntR (R.take i) 0 v)) ∨ (x = 1 ∧ (v = NUL ∨ 0 < cntR (R.take i) 0 v)) → WH d 180 82 [(0, .ref 42), (1, .int (nI t)), (2, .int (nI n)), (3, .int (nI x)), (4, .int (nI i))] [] m K := by
  have l1 : (m.B 58).length = 240 := hL.b (by decide) rfl
  have l2 : (m.B 62).length = 20 := hL.b (by decide) rfl
  intro j
  induction j with
  | zero =>
    intro i x hi hx
    have ei : i = R.length := by omega
    rw [ei, List.take_length] at hx
    refine sg_180_82 _ _ _ _ ?_
    rw [if_pos (by rw [nIle (by omega) (by omega)]; omega)]
    rcases hx with ⟨z1, z2⟩ | ⟨z1, z2⟩
    · rw [if_pos (by rw [z1])]
      by_cases h20 : n = 20
      · rw [if_pos (by rw [h20])]; exact k2 z2 h20
      · rw [if_neg (by rw [nIeq (by omega) (by omega)]; exact h20)]; exact k3 z2 h20
    · rw [if_neg (by rw [z1]; decide)]; exact k1 z2
  | succ j ih =>
    intro i x hi hx
    have ec := cnt_snoc (R.take i) (R.getD i []) 0 v
    rw [← take_succ_getD (by omega)] at ec
    refine sg_180_82 _ _ _ _ ?_
    rw [if_neg (by rw [nIle (by omega) (by omega)]; omega)]
    rcases hx with ⟨z1, z2⟩ | ⟨z1, z2⟩
    · rw [if_pos (by rw [z1]), pk_mul, pk_mul, nI_add, l1, l2, ix_nI (by omega), ix_nI (by decide), h58 i (by omega), h62, nI_add]
      refine ⟨ok_nI (by omega) (by decide), ok_nI (by decide) (by decide), ?_⟩
      by_cases hv : (R.getD i []).getD 0 0 = v
      · rw [if_pos ((lg_k _ _).mpr hv)]
        rw [if_pos hv] at ec
        exact ih (i + 1) 1 (by omega) (Or.inr ⟨rfl, Or.inr (by omega)⟩)
      · rw [if_neg (fun z => hv ((lg_k _ _).mp z))]
        rw [if_neg hv] at ec
        exact ih (i + 1) 0 (by omega) (Or.inl ⟨rfl, by rw [ec]; exact z2⟩)
    · rw [if_neg (by rw [z1]; decide), nI_add]
      refine ih (i + 1) 1 (by omega) (Or.inr ⟨rfl, ?_⟩)
      rcases z2 with y | y
      · exact Or.inl y
      · refine Or.inr ?_
        rw [ec]
        split <;> omega
/-- the new row's cells -/
theorem lp_145 {t n w : Nat} (ht : t < 3) (hn : n < 20) (hw : w ≤ 4) : ∀ (j c : Nat) (m : Mm), c + j = w → Len m → m.F 42 22 = nI w → (m.A 57).getD t 0 = nI n → (∀ m', Len m' → (∀ i, (m'.B 58).getD i 0 = if 80 * t + 4 * n + c ≤ i ∧ i < 80 * t + 4 * n + w then (m.B 62).getD (i - (80 * t + 4 * n)) 0 else (m.B 58).getD i 0) → Fq [] [58] m m' → K (some (.int (nI 0))) ((m'.uA 57 ((m'.A 57).set t (nI (n + 1)))).uF 42 53 (nI 1))) → WH d 180 145 [(0, .ref 42), (1, .int (nI t)), (2, .int (nI n)), (4, .int (nI c))] [] m K := by
  intro j
  induction j with
  | zero =>
    intro c m hc hL h22 h57 k
    have l1 : (m.A 57).length = 3 := hL.a (by decide) rfl
    refine sg_180_145 _ _ _ ?_
    rw [if_pos (by rw [h22, nIle (by omega) (by omega)]; omega), l1, ix_nI (by omega), h57, nI_add]
    have o1 : ok 3 (nI t) := ok_nI (by omega) (by decide)
    refine ⟨o1, o1, k m hL (fun i => ?_) (Fq.refl _ _ _)⟩
    rw [if_neg (by omega)]
  | succ j ih =>
    intro c m hc hL h22 h57 k
    have l1 : (m.B 58).length = 240 := hL.b (by decide) rfl
    have l2 : (m.B 62).length = 20 := hL.b (by decide) rfl
    refine sg_180_145 _ _ _ ?_
    rw [if_neg (by rw [h22, nIle (by omega) (by omega)]; omega), pk_mul, pk_mul, nI_add, nI_add, l1, l2, ix_nI (by omega), ix_nI (by omega), nI_add]
    refine ⟨ok_nI (by omega) (by decide), ok_nI (by omega) (by decide), ?_⟩
    have f1 : Fq [] [58] m (m.uB 58 ((m.B 58).set (80 * t + 4 * n + c) ((m.B 62).getD c 0))) := Fq.uB (Fq.refl _ _ _) (by decide) (by rw [List.length_set])
    refine ih (c + 1) _ (by omega) (hL.fq f1) h22 h57 (fun m' hL' h' f2 => k m' hL' (fun i => ?_) (f1.trans f2))
    rw [h' i]
    have e62 : (m.uB 58 ((m.B 58).set (80 * t + 4 * n + c) ((m.B 62).getD c 0))).B 62 = m.B 62 := by rw [mB_B, if_neg (by decide)]
    have e58 : (m.uB 58 ((m.B 58).set (80 * t + 4 * n + c) ((m.B 62).getD c 0))).B 58 = (m.B 58).set (80 * t + 4 * n + c) ((m.B 62).getD c 0) := by rw [mB_B, if_pos rfl]
    rw [e62, e58, getD_set _ _ _ _ _ (by omega)]
    by_cases c1 : 80 * t + 4 * n + (c + 1) ≤ i ∧ i < 80 * t + 4 * n + w
    · rw [if_pos c1, if_pos (by omega)]
    · rw [if_neg c1]
      by_cases c2 : i = 80 * t + 4 * n + c
      · rw [if_pos c2, if_pos (by omega), c2]
        congr 1
        omega
      · rw [if_neg c2, if_neg (by omega)]
theorem DR_ins {t : Nat} {v : List Int64} (ht : t < 3) (hD : DR m D P) (hI : DI D) (hv : v.length = wd D t) (h20 : (rw_ D t).length < 20) (f : Fq [53] [57, 58, 61, 62] m m1) (h57 : m1.A 57 = (m.A 57).set t (nI ((rw_ D t).length + 1))) (l57 : (m.A 57).length = 3) (h58 : ∀ i, (m1.B 58).getD i 0 = if 80 * t + 4 * (rw_ D t).length ≤ i ∧ i < 80 * t + 4 * (rw_ D t).length + wd D t then v.getD (i - (80 * t + 4 * (rw_ D t).length)) 0 else (m.B 58).getD i 0) : DR m1 (updD D t (insK v (rw_ D t))) (updP P t (P t ++ [v])) := by
  intro s hs
  have h0 := hD s hs
  have ix2 := (hI s hs).2.1
  have iw := (hI s hs).1
  have iwt := (hI t ht).1
  rw [updD_w, updD_r]
  have ex : ∀ c, ixd (updD D t (insK v (rw_ D t))) s c = ixd D s c := fun c => updD_x _ _ _ _ _
  obtain ⟨b1, b2, b3, b4, b5⟩ := h0
  by_cases hst : s = t
  · subst hst
    rw [if_pos rfl]
    have eP : updP P s (P s ++ [v]) s = P s ++ [v] := if_pos rfl
    have hPl : (P s).length = (rw_ D s).length := b3.length_eq
    refine ⟨?_, ?_, ?_, fun i hi c hc => ?_, fun c hc => ?_⟩
    · rw [f.a (by decide)]; exact b1
    · rw [h57, getD_set _ _ _ _ _ (by omega), if_pos rfl, insK_len]
    · rw [eP]
      refine (List.perm_append_comm.trans ?_).trans (insK_perm v (rw_ D s)).symm
      exact List.Perm.cons v b3
    · rw [eP, insK_len] at *
      unfold cl_
      rw [h58, getD_snoc2]
      by_cases hin : i = (rw_ D s).length
      · rw [if_pos (by omega), if_pos (by omega)]
        congr 1
        omega
      · rw [if_neg (by omega), if_neg (by omega)]
        exact b4 i (by omega) c hc
    · rw [ex, f.a (by decide)]; exact b5 c hc
  · rw [if_neg hst]
    have eP : updP P t (P t ++ [v]) s = P s := if_neg hst
    rw [eP]
    refine ⟨?_, ?_, b3, fun i hi c hc => ?_, fun c hc => ?_⟩
    · rw [f.a (by decide)]; exact b1
    · rw [h57, getD_set _ _ _ _ _ (by omega), if_neg hst]; exact b2
    · rw [h58, if_neg (by omega)]; exact b4 i hi c hc
    · rw [ex, f.a (by decide)]; exact b5 c hc
theorem lp_24 (hWF : WF e) (hv6 : e.2.1 4 = 6) (hf : fault D e = 0) (hw4 : wd D (e.2.1 5) ≤ 4) (hln : e.2.2.length = wd D (e.2.1 5)) (hl : 0 < e.2.2.length) {x1 x2 : Int32} (k : ∀ m', Len m' → (∀ c, c < wd D (e.2.1 5) → (m'.B 62).getD c 0 = vI D e c) → Fq [] [61, 62] m m' → ∀ x, ((x = 1 ∧ vI D e 0 = NUL) ∨ (x = 0 ∧ vI D e 0 ≠ NUL)) → WH (d + 2) 180 82 [(0, .ref 42), (1, .int x1), (2, .int x2), (3, .int (nI x)), (4, .int (nI 0))] [] m' K) : ∀ (n i : Nat) (m1 : Mm), i + n = wd D (e.2.1 5) → Len m1 → RS m1 e.2 nm → RE m1 (rs_ D e) (tb e) → (∀ c, c < i → (m1.B 62).getD c 0 = vI D e c) → Fq [] [61, 62] m m1 → WH (d + 2) 180 24 [(0, .ref 42), (1, .int x1), (2, .int x2), (3, .int (nI i))] [] m1 K := by
  obtain ⟨g1, g2, g3, g4⟩ := flt0 hf
  have nc := noCol hv6 g3
  intro n
  induction n with
  | zero =>
    intro i m1 hi hL hS hC hB f
    have l1 : (m1.B 62).length = 20 := hL.b (by decide) rfl
    have h22 : m1.F 42 22 = nI e.2.2.length := hS.2.2.2.2.2.2.1
    refine sg_180_24 _ _ _ ?_
    rw [if_pos (by rw [h22, nIle (by omega) (by omega)]; omega), l1, ix_nI (by decide), hB 0 (by omega)]
    refine ⟨ok_nI (by decide) (by decide), ?_⟩
    have hk := k m1 hL (fun c hc => hB c (by omega)) f
    by_cases hn : vI D e 0 = NUL
    · rw [if_pos ((lg_nul _).mpr hn)]; exact hk 1 (Or.inl ⟨rfl, hn⟩)
    · rw [if_neg (fun z => hn ((lg_nul _).mp z))]; exact hk 0 (Or.inr ⟨rfl, hn⟩)
  | succ n ih =>
    intro i m1 hi hL hS hC hB f
    have l1 : (m1.A 51).length = 4 := hL.a (by decide) rfl
    have l2 : (m1.A 52).length = 4 := hL.a (by decide) rfl
    have h22 : m1.F 42 22 = nI e.2.2.length := hS.2.2.2.2.2.2.1
    have ht := hS.2.2.2.2.2.2.2.1 i (by omega) (by omega)
    have hit := itemT (D := D) hWF (show i < e.2.2.length by omega)
    have o4 : ok 4 (nI i) := ok_nI (by omega) (by decide)
    refine sg_180_24 _ _ _ ?_
    rw [if_neg (by rw [h22, nIle (by omega) (by omega)]; omega), l1, l2, ix_nI (by omega), ht.1, ht.2]
    refine ⟨o4, o4, ?_⟩
    refine c_167 (env := env0) (b := false) hL hC rfl hit.1 hit.2.1 (fun x hx h3 => absurd h3 (nc x (seg_mem hx))) (fun x hx h3 => absurd h3 (nc x (seg_mem hx))) hit.2.2 (fun m2 f2 => ⟨_, rfl, ?_⟩)
    have l3 : (m2.B 62).length = 20 := (hL.fq f2).b (by decide) rfl
    rw [l3, nI_add]
    refine ⟨ok_nI (by omega) (by decide), ?_⟩
    have f3 : Fq [] [61, 62] m1 (m2.uB 62 ((m2.B 62).set i (tr false (val env0 (seg (rs_ D e) (tmF e.2 i) (e.2.2.getD i 0)))))) := Fq.uB (f2.mono (by decide) (by decide)) (by decide) (by rw [List.length_set])
    refine ih (i + 1) _ (by omega) (hL.fq f3) (hS.fq f3 (by decide) (by decide)) (hC.fq f3 (by decide) (by decide)) (fun c hc => ?_) (f.trans f3)
    show ((m2.uB 62 ((m2.B 62).set i (tr false (val env0 (seg (rs_ D e) (tmF e.2 i) (e.2.2.getD i 0)))))).B 62).getD c 0 = _
    rw [mB_B, if_pos rfl, getD_set _ _ _ _ _ (by omega)]
    by_cases hci : c = i
    · rw [if_pos hci, hci]; rfl
    · rw [if_neg hci, f2.1.b (by decide)]; exact hB c (by omega)
theorem c_180 (hWF : WF e) (hV : VF e (e.2.1 4)) (hv6 : e.2.1 4 = 6) (hf : fault D e = 0) (hI : DI D) (hL : Len m) (hS : RS m e.2 nm) (hC : RE m (rs_ D e) (tb e)) (hD : DR m D P) (k : ∀ m' P', Fq [53] [57, 58, 61, 62] m m' → m'.F 42 53 = (if insC D e = 0 then nI 1 else m.F 42 53) → DR m' (if insC D e = 0 then insD D e else D) P' → K (some (.int (nI (insC D e)))) m') : WP (d + 2) 180 [.ref 42, .int (nI (e.2.1 5))] m K := by
  have h5 := hWF.2.2.2.2.2.2.2.2.1
  have hl := (hV.2.2.2.2.1 hv6).1
  have hw4 := (hI _ h5).1
  have h20 := (hI _ h5).2.1
  have hln : e.2.2.length = wd D (e.2.1 5) := by
    have f4 := (flt0 hf).2.2.2
    unfold nfit at f4
    rw [if_neg (by omega), if_pos hv6, decide_eq_true_iff] at f4
    exact f4
  have l1 : (m.A 56).length = 3 := hL.a (by decide) rfl
  have l2 : (m.A 57).length = 3 := hL.a (by decide) rfl
  have h22 : m.F 42 22 = nI e.2.2.length := hS.2.2.2.2.2.2.1
  obtain ⟨b1, b2, b3, b4, b5⟩ := hD _ h5
  have o3 : ok 3 (nI (e.2.1 5)) := ok_nI (by omega) (by decide)
  have hPl : (P (e.2.1 5)).length = (rw_ D (e.2.1 5)).length := b3.length_eq
  refine sp_180 _ ?_
  rw [l1, l2, ix_nI (by omega), b1, b2, h22, hln, if_pos rfl]
  refine ⟨o3, o3, ?_⟩
  refine lp_24 (m := m) hWF hv6 hf hw4 hln hl (fun m1 hL1 hB f1 x hx => ?_) (wd D (e.2.1 5)) 0 m (by omega) hL hS hC (fun c hc => by omega) (Fq.refl _ _ _)
  have f2 : Fq [53] [57, 58, 61, 62] m m1 := f1.mono (by decide) (by decide)
  have ecp := cnt_perm b3 0 (vI D e 0)
  have ek : (vI D e 0 = NUL ∨ 0 < cntR (P (e.2.1 5)) 0 (vI D e 0)) ↔ (vI D e 0 = NUL ∨ 0 < cntR (rw_ D (e.2.1 5)) 0 (vI D e 0)) := by rw [ecp]
  refine lp_82 (R := P (e.2.1 5)) (v := vI D e 0) h5 hPl.symm h20 hL1 (fun i hi => ?_) (hB 0 (by omega)) (fun h => ?_) (fun h hn => ?_) (fun h hn => ?_) (rw_ D (e.2.1 5)).length 0 x (by omega) ?_
  · rw [f1.1.b (by decide)]
    have := b4 i hi 0 (by omega)
    rw [Nat.add_zero] at this
    exact this
  · have hc : insC D e = 4 := by unfold insC; rw [if_pos (ek.mp h)]
    have := k m1 P f2
    rw [hc, if_neg (by decide), if_neg (by decide)] at this
    exact this (f1.f (by decide)) (hD.fq f1 (by decide))
  · have hc : insC D e = 5 := by unfold insC; rw [if_neg (fun z => h (ek.mpr z)), if_pos (by omega)]
    have := k m1 P f2
    rw [hc, if_neg (by decide), if_neg (by decide)] at this
    exact this (f1.f (by decide)) (hD.fq f1 (by decide))
  · have hc : insC D e = 0 := by unfold insC; rw [if_neg (fun z => h (ek.mpr z)), if_neg (by omega)]
    refine lp_145 (w := wd D (e.2.1 5)) h5 (by omega) hw4 (wd D (e.2.1 5)) 0 m1 (by omega) hL1 (by rw [f1.f (by decide), h22, hln]) (by rw [f1.a (by decide)]; exact b2) (fun m2 hL2 h2 f3 => ?_)
    have f4 : Fq [53] [57, 58, 61, 62] m ((m2.uA 57 ((m2.A 57).set (e.2.1 5) (nI ((rw_ D (e.2.1 5)).length + 1)))).uF 42 53 (nI 1)) := by
      refine Fq.uF (Fq.uA (f2.trans (f3.mono (by decide) (by decide))) (by decide) ?_) (by decide) _
      rw [List.length_set]
    have := k _ (updP P (e.2.1 5) (P (e.2.1 5) ++ [vR D e])) f4
    rw [hc, if_pos rfl, if_pos rfl] at this
    refine this rfl ?_
    refine DR_ins h5 hD hI (vR_len D e) (by omega) f4 ?_ l2 (fun i => ?_)
    · show (m2.A 57).set _ _ = _
      rw [f3.a (by decide), f1.a (by decide)]
    · show (m2.B 58).getD i 0 = _
      rw [h2 i, Nat.add_zero]
      by_cases c1 : 80 * e.2.1 5 + 4 * (rw_ D (e.2.1 5)).length ≤ i ∧ i < 80 * e.2.1 5 + 4 * (rw_ D (e.2.1 5)).length + wd D (e.2.1 5)
      · rw [if_pos c1, if_pos c1, hB _ (by omega), vR_get (by omega)]
      · rw [if_neg c1, if_neg c1, f1.1.b (by decide)]
  · rcases hx with ⟨z1, z2⟩ | ⟨z1, z2⟩
    · exact Or.inr ⟨z1, Or.inl z2⟩
    · refine Or.inl ⟨z1, fun z => ?_⟩
      rcases z with y | y
      · exact z2 y
      · rw [List.take_zero] at y; exact absurd (show 0 < 0 from y) (by decide)
end I75
