/-! UPDATE, the reference -/
theorem kOK_snoc (l : List Int64) (x : Int64) : kOK (l ++ [x]) = (kOK l && (decide (x ≠ NUL) && decide (x ∉ l))) := by
  unfold kOK
  rw [← Bool.decide_and, ← Bool.decide_and, decide_eq_decide, List.mem_append, List.nodup_append, List.mem_singleton]
  constructor
  · rintro ⟨h1, h2, h3, h4⟩
    exact ⟨⟨fun z => h1 (Or.inl z), h2⟩, fun z => h1 (Or.inr z.symm), fun z => h4 x z x (List.mem_singleton.mpr rfl) rfl⟩
  · rintro ⟨⟨h1, h2⟩, h3, h4⟩
    refine ⟨fun z => z.elim h1 (fun z => h3 z.symm), h2, List.nodup_cons.mpr ⟨(by intro z; cases z), List.nodup_nil⟩, fun a ha b hb hab => ?_⟩
    rw [List.mem_singleton.mp hb] at hab
    rw [hab] at ha
    exact h4 ha
section V99
variable {d nm : Nat} {m m0 m1 : Mm} {K : Option Value → Mm → Prop} {D : Db} {e : St} {P : Nat → List (List Int64)} {ps : List Pt} {env : Evr} {f : Nat → Nat} {t : Nat}
theorem DR_upd {S : List Nat} (ht : t < 3) (hD : DR m D P) (f : Fr S m m1) (h56 : 56 ∉ S) (h59 : 59 ∉ S) {R' P' : List (List Int64)} (hp : P'.Perm R') (h57 : ∀ s, s < 3 → (m1.A 57).getD s 0 = if s = t then nI R'.length else (m.A 57).getD s 0) (hB : ∀ i, i < R'.length → ∀ c, c < wd D t → (m1.B 58).getD (80 * t + 4 * i + c) 0 = cl_ P' i c) (hB' : ∀ s, s < 3 → s ≠ t → ∀ i, i < 20 → ∀ c, c < 4 → (m1.B 58).getD (80 * s + 4 * i + c) 0 = (m.B 58).getD (80 * s + 4 * i + c) 0) (hI : DI D) : DR m1 (updD D t R') (updP P t P') := by
  intro s hs
  obtain ⟨b1, b2, b3, b4, b5⟩ := hD s hs
  rw [updD_w, updD_r]
  have ex : ∀ c, ixd (updD D t R') s c = ixd D s c := fun c => updD_x _ _ _ _ _
  unfold updP
  by_cases hst : s = t
  · subst hst
    rw [if_pos rfl, if_pos rfl]
    refine ⟨by rw [f.a h56]; exact b1, by rw [h57 s hs, if_pos rfl], hp, hB, fun c hc => ?_⟩
    rw [ex, f.a h59]; exact b5 c hc
  · rw [if_neg hst, if_neg hst]
    have h20 := (hI s hs).2.1
    have hw4 := (hI s hs).1
    refine ⟨by rw [f.a h56]; exact b1, by rw [h57 s hs, if_neg hst]; exact b2, b3, fun i hi c hc => ?_, fun c hc => ?_⟩
    · rw [hB' s hs hst i (by omega) c (by omega)]; exact b4 i hi c hc
    · rw [ex, f.a h59]; exact b5 c hc
theorem lp_182b {l : List Int64} (hl : l.length ≤ 20) {i : Nat} (hi : i < l.length) {x1 x2 : Int32} (l62 : (m.B 62).length = 20) (hB : ∀ q, q < l.length → (m.B 62).getD q 0 = l.getD q 0) (b : Bool) (k : WH d 182 7 [(0, .ref 42), (1, .int x1), (2, .int x2), (3, .int (bI ((b || decide (l.getD i 0 ∈ l.take i)) = true))), (4, .int (nI i + nI 1))] [] m K) : ∀ (n j : Nat), j + n = i → WH d 182 63 [(0, .ref 42), (1, .int x1), (2, .int x2), (3, .int (bI ((b || decide (l.getD i 0 ∈ l.take j)) = true))), (4, .int (nI i)), (5, .int (nI j))] [] m K := by
  intro n
  induction n with
  | zero =>
    intro j hj
    refine sg_182_63 _ _ _ _ _ ?_
    rw [if_pos (by rw [nIle (by omega) (by omega)]; omega)]
    rw [show j = i by omega]
    exact k
  | succ n ih =>
    intro j hj
    have hts := take_snoc_i (l := l) (i := j) (by omega)
    have hmem : (l.getD i 0 ∈ l.take (j + 1)) ↔ (l.getD i 0 ∈ l.take j ∨ l.getD i 0 = l.getD j 0) := by
      rw [hts, List.mem_append, List.mem_singleton]
    have ih := ih (j + 1) (by omega)
    refine sg_182_63 _ _ _ _ _ ?_
    rw [if_neg (by rw [nIle (by omega) (by omega)]; omega), nI_add]
    by_cases hb : (b || decide (l.getD i 0 ∈ l.take j)) = true
    · rw [bI_t hb, if_neg (by decide)]
      have hb' : (b || decide (l.getD i 0 ∈ l.take (j + 1))) = true := by
        rw [Bool.or_eq_true, decide_eq_true_iff] at hb ⊢
        exact hb.imp id (fun z => hmem.mpr (Or.inl z))
      rw [bI_t hb'] at ih
      exact ih
    · rw [bI_f hb, if_pos rfl, l62, ix_nI (by omega), ix_nI (by omega), hB i hi, hB j (by omega)]
      refine ⟨ok_nI (by omega) (by decide), ok_nI (by omega) (by decide), ?_⟩
      have hb2 : ¬ b = true ∧ ¬ l.getD i 0 ∈ l.take j := by
        rw [Bool.or_eq_true, decide_eq_true_iff] at hb
        exact ⟨fun z => hb (Or.inl z), fun z => hb (Or.inr z)⟩
      by_cases h : l.getD j 0 = l.getD i 0
      · rw [if_pos ((lg_k _ _).mpr h)]
        rw [bI_t (by rw [Bool.or_eq_true, decide_eq_true_iff]; exact Or.inr (hmem.mpr (Or.inr h.symm)))] at ih
        exact ih
      · rw [if_neg (fun z => h ((lg_k _ _).mp z))]
        rw [bI_f (by
          rw [Bool.or_eq_true, decide_eq_true_iff]
          rintro (z | z)
          · exact hb2.1 z
          · exact (hmem.mp z).elim hb2.2 (fun z => h z.symm))] at ih
        exact ih
/-- the new column goes in -/
theorem lp_182c (hI : DI D) (ht : t < 3) {N c : Nat} (hN : N ≤ 20) (hc : c < 4) {x2 : Int32} : ∀ (n i : Nat) (m : Mm), i + n = N → Len m → (m.A 57).getD t 0 = nI N → m.F 42 20 = nI c → (∀ m', (∀ q, (m'.B 58).getD q 0 = if q % 4 = c ∧ 20 * t + i ≤ q / 4 ∧ q / 4 < 20 * t + N then (m.B 62).getD (q / 4 - 20 * t) 0 else (m.B 58).getD q 0) → Fq [] [58] m m' → K (some (.int (nI 0))) (m'.uF 42 53 x2)) → WH d 182 131 [(0, .ref 42), (1, .int (nI t)), (2, .int x2), (4, .int (nI i))] [] m K := by
  intro n
  induction n with
  | zero =>
    intro i m hi hL h57 h20 k
    have l7 : (m.A 57).length = 3 := hL.a (by decide) rfl
    refine sg_182_131 _ _ _ ?_
    rw [l7, ix_nI (by omega), h57, if_pos (by rw [nIle (by omega) (by omega)]; omega)]
    refine ⟨ok_nI (by omega) (by decide), k m (fun q => ?_) (Fq.refl _ _ _)⟩
    rw [if_neg (by omega)]
  | succ n ih =>
    intro i m hi hL h57 h20 k
    have l7 : (m.A 57).length = 3 := hL.a (by decide) rfl
    have l58 : (m.B 58).length = 240 := hL.b (by decide) rfl
    have l62 : (m.B 62).length = 20 := hL.b (by decide) rfl
    refine sg_182_131 _ _ _ ?_
    rw [l7, ix_nI (by omega), h57, if_neg (by rw [nIle (by omega) (by omega)]; omega), h20, pk_mul, pk_mul, nI_add, nI_add, nI_add, l58, l62, ix_nI (by omega), ix_nI (by omega)]
    refine ⟨ok_nI (by omega) (by decide), ok_nI (by omega) (by decide), ok_nI (by omega) (by decide), ?_⟩
    have f1 : Fq [] [58] m (m.uB 58 ((m.B 58).set (80 * t + 4 * i + c) ((m.B 62).getD i 0))) := Fq.uB (Fq.refl _ _ _) (by decide) (by rw [List.length_set])
    refine ih (i + 1) _ (by omega) (hL.fq f1) h57 h20 (fun m' a1 a2 => k m' (fun q => ?_) (f1.trans a2))
    rw [a1 q, f1.1.b (by decide), mB_B, if_pos rfl, getD_set _ _ _ _ _ (by omega)]
    by_cases h1 : q % 4 = c ∧ 20 * t + (i + 1) ≤ q / 4 ∧ q / 4 < 20 * t + N
    · rw [if_pos h1, if_pos (by omega)]
    · rw [if_neg h1]
      by_cases h2 : q = 80 * t + 4 * i + c
      · rw [if_pos h2, if_pos (by omega), show q / 4 - 20 * t = i by omega]
      · rw [if_neg h2, if_neg (by omega)]
/-- one table's fetchOne -/
theorem c_177e (hWF : WF e) (hI : DI D) (ha : e.1.2.1.all (okSb D e) = true) (hz : e.2.1 6 = 0) (hQ : RQ m (rs_ D e) (tq e) D P e.1.2.2) (k : ∀ m', m'.F 42 56 = nI (rdE D e) → m'.F 42 57 = nI (plE D e) → Fq [56, 57, 58] [61] m m' → K none m') : WP (d + 4) 177 [.ref 42, .int (nI (e.2.1 5))] m K := by
  have h5 := hWF.2.2.2.2.2.2.2.2.1
  have hPt : ∀ p, p ∈ e.1.2.2 → okPt (rs_ D e) p := fun p hp => okPt_map (hWF.2.2.2.2.1 p hp)
  have := c_177 (d := d) (K := K) hQ hI hPt (by rw [tq0]; exact h5) (fun x hx h3 hs => by have := (rs_col ha hWF.1 x hx h3).2.2.1; rw [hs] at this; exact this) (fun m' a1 a2 a3 => k m' ?_ ?_ a3)
  · rw [tq0] at this; exact this
  · rw [a1]
    unfold rdE
    rw [if_pos hz, fo1_cnt]
    rfl
  · rw [a2]
    unfold plE
    rw [if_pos hz]
    rfl
theorem nwl {l : List Int64} : kOK l = !(!kOK l) := by cases kOK l <;> rfl
theorem lp_182a (hWF : WF e) (hI : DI D) (ha : e.1.2.1.all (okSb D e) = true) (hz : e.2.1 6 = 0) (h7 : e.2.1 7 < wd D (e.2.1 5)) (h1 : 0 < e.2.2.length) (hM : MK m D e (P (e.2.1 5)) (rw_ D (e.2.1 5)).length) (hQ : RQ m (rs_ D e) (tq e) D P e.1.2.2) (hS : RS m e.2 nm) (k : ∀ m' P', (updC D e = 0 → m'.F 42 56 = nI (rdE D e) ∧ m'.F 42 57 = nI (plE D e)) → (updC D e ≠ 0 → m'.F 42 56 = m.F 42 56 ∧ m'.F 42 57 = m.F 42 57) → m'.F 42 53 = (if updC D e = 0 then nI ((rw_ D (e.2.1 5)).countP (whR D e)) else m.F 42 53) → DR m' (if updC D e = 0 then updR D e else D) P' → Fq [53, 56, 57, 58] [58, 61] m m' → K (some (.int (nI (updC D e)))) m') : ∀ (n r : Nat), r + n = (rw_ D (e.2.1 5)).length → WH (d + 5) 182 7 [(0, .ref 42), (1, .int (nI (e.2.1 5))), (2, .int (nI (((P (e.2.1 5)).take r).countP (whR D e)))), (3, .int (bI ((!kOK (((P (e.2.1 5)).map (nwR D e)).take r)) = true))), (4, .int (nI r))] [] m K := by
  have h5 := hWF.2.2.2.2.2.2.2.2.1
  have h7' := hWF.2.2.2.2.2.2.2.2.2.2.1
  have hR20 := (hI _ h5).2.1
  have hw4 := (hI _ h5).1
  have hD := hQ.2.2.2.2.2.1
  have hperm := (hD _ h5).2.2.1
  have hpl := hperm.length_eq
  have l7 : (m.A 57).length = 3 := hQ.1.a (by decide) rfl
  have l63 : (m.A 63).length = 20 := hQ.1.a (by decide) rfl
  have l62 : (m.B 62).length = 20 := hQ.1.b (by decide) rfl
  have e20 : m.F 42 20 = nI (e.2.1 7) := hS.2.2.2.2.1
  have ell : ((P (e.2.1 5)).map (nwR D e)).length = (rw_ D (e.2.1 5)).length := by rw [List.length_map, hpl]
  have hB : ∀ q, q < ((P (e.2.1 5)).map (nwR D e)).length → (m.B 62).getD q 0 = ((P (e.2.1 5)).map (nwR D e)).getD q 0 := fun q hq => by
    rw [ell] at hq
    rw [getD_map _ _ q [] 0 (by omega)]
    exact (hM q hq).2 h1
  intro n
  induction n with
  | zero =>
    intro r hr
    have hend : updC D e = 0 → WP (d + 4) 177 [.ref 42, .int (nI (e.2.1 5))] m (fun v m13 => v = none ∧ WH (d + 5) 182 131 [(0, .ref 42), (1, .int (nI (e.2.1 5))), (2, .int (nI (((P (e.2.1 5)).take r).countP (whR D e)))), (4, .int (nI 0))] [] m13 K) := by
      intro hc
      refine c_177e hWF hI ha hz hQ (fun m1 g56 g57 f1 => ⟨rfl, ?_⟩)
      have hD1 := (hQ.fq f1 (by decide) (by decide)).2.2.2.2.2.1
      refine lp_182c (D := D) hI h5 hR20 (show e.2.1 7 < 4 by omega) (rw_ D (e.2.1 5)).length 0 m1 (by omega) (hQ.1.fq f1) (hD1 _ h5).2.1 (by rw [f1.f (by decide)]; exact e20) (fun m2 hB2 f2 => ?_)
      have f3 : Fq [53, 56, 57, 58] [58, 61] m (m2.uF 42 53 (nI (((P (e.2.1 5)).take r).countP (whR D e)))) := Fq.uF ((f1.mono (by decide) (by decide)).trans (f2.mono (by decide) (by decide))) (by decide) _
      have := k (m2.uF 42 53 (nI (((P (e.2.1 5)).take r).countP (whR D e)))) (updP P (e.2.1 5) ((P (e.2.1 5)).map (upR D e))) (fun _ => ⟨?_, ?_⟩) (fun z => absurd hc z)
      · rw [hc, if_pos rfl, if_pos rfl] at this
        refine this ?_ ?_ f3
        · rw [mF_F, if_pos ⟨rfl, rfl⟩, show r = (P (e.2.1 5)).length by omega, List.take_length, hperm.countP_eq]
        · unfold updR
          have f12 : Fr [42, 58, 61] m (m2.uF 42 53 (nI (((P (e.2.1 5)).take r).countP (whR D e)))) := f3.1
          have hA57 : (m2.uF 42 53 (nI (((P (e.2.1 5)).take r).countP (whR D e)))).A 57 = m.A 57 := f3.a (by decide)
          have elu : (isK (upL D e)).length = (rw_ D (e.2.1 5)).length := by rw [isK_len]; unfold upL; rw [List.length_map]
          refine DR_upd h5 hD f12 (by decide) (by decide) ?_ (fun s hs => ?_) (fun i hi c hc => ?_) (fun s hs hst i hi c hc => ?_) hI
          · exact (hperm.map _).trans (isK_perm _).symm
          · rw [hA57]
            by_cases hst : s = e.2.1 5
            · rw [if_pos hst, hst, (hD _ h5).2.1, elu]
            · rw [if_neg hst]
          · rw [elu] at hi
            show (m2.B 58).getD _ 0 = _
            rw [hB2, show (80 * e.2.1 5 + 4 * i + c) % 4 = c by omega, show (80 * e.2.1 5 + 4 * i + c) / 4 = 20 * e.2.1 5 + i by omega]
            unfold cl_
            rw [getD_map _ _ i [] [] (by omega)]
            have hrow : (P (e.2.1 5)).getD i [] ∈ rw_ D (e.2.1 5) := hperm.mem_iff.mp (getD_in (by omega))
            have hrl := ((hI _ h5).2.2.1 _ hrow).1
            rw [upR_get (by rw [hrl]; exact h7)]
            by_cases hcc : c = e.2.1 7
            · rw [if_pos ⟨hcc, by omega, by omega⟩, if_pos hcc, show 20 * e.2.1 5 + i - 20 * e.2.1 5 = i by omega, f1.1.b (by decide)]
              exact (hM i hi).2 h1
            · rw [if_neg (fun z => hcc z.1), if_neg hcc, f1.1.b (by decide)]
              exact (hD _ h5).2.2.2.1 i hi c hc
          · show (m2.B 58).getD _ 0 = _
            rw [hB2, if_neg (by omega), f1.1.b (by decide)]
      · rw [mF_F, if_neg (by decide), f2.f (by decide)]; exact g56
      · rw [mF_F, if_neg (by decide), f2.f (by decide)]; exact g57
    have hkk : kOK ((P (e.2.1 5)).map (nwR D e)) = kOK ((rw_ D (e.2.1 5)).map (nwR D e)) := kOK_perm (hperm.map _)
    refine sg_182_7 _ _ _ _ ?_
    rw [l7, ix_nI (by omega), (hD _ h5).2.1, if_pos (by rw [nIle (by omega) (by omega)]; omega)]
    refine ⟨ok_nI (by omega) (by decide), ?_⟩
    rw [List.take_of_length_le (l := (P (e.2.1 5)).map (nwR D e)) (by omega), hkk, e20]
    by_cases h0 : e.2.1 7 = 0
    · rw [if_pos (by rw [h0])]
      cases hkv : kOK ((rw_ D (e.2.1 5)).map (nwR D e)) with
      | true =>
        rw [bI_f (by decide), if_pos rfl]
        exact hend (by unfold updC; rw [if_neg (fun z => by rw [hkv] at z; cases z.2)])
      | false =>
        have hc : updC D e = 4 := by unfold updC; rw [if_pos ⟨h0, hkv⟩]
        rw [bI_t (by decide), if_neg (by decide)]
        have := k m P (fun z => by rw [hc] at z; cases z) (fun _ => ⟨rfl, rfl⟩)
        rw [hc, if_neg (by decide), if_neg (by decide)] at this
        exact this rfl hD (Fq.refl _ _ _)
    · rw [if_neg (by rw [nIeq (by omega) (by decide)]; exact h0)]
      exact hend (by unfold updC; rw [if_neg (fun z => h0 z.1)])
  | succ n ih =>
    intro r hr
    have ih := ih (r + 1) (by omega)
    have ec := cntP_snoc (R := P (e.2.1 5)) (q := whR D e) (i := r) (by omega)
    have hts := take_snoc_i (l := (P (e.2.1 5)).map (nwR D e)) (i := r) (by omega)
    have hks := kOK_snoc (((P (e.2.1 5)).map (nwR D e)).take r) (((P (e.2.1 5)).map (nwR D e)).getD r 0)
    rw [← hts] at hks
    have hb := lp_182b (d := d + 5) (K := K) (m := m) (l := (P (e.2.1 5)).map (nwR D e)) (by omega) (i := r) (by omega) (x1 := nI (e.2.1 5)) (x2 := nI (((P (e.2.1 5)).take (r + 1)).countP (whR D e))) l62 hB (!(kOK (((P (e.2.1 5)).map (nwR D e)).take r) && decide (((P (e.2.1 5)).map (nwR D e)).getD r 0 ≠ NUL))) (by
      have e1 : (!(kOK (((P (e.2.1 5)).map (nwR D e)).take r) && decide (((P (e.2.1 5)).map (nwR D e)).getD r 0 ≠ NUL)) || decide (((P (e.2.1 5)).map (nwR D e)).getD r 0 ∈ ((P (e.2.1 5)).map (nwR D e)).take r)) = !kOK (((P (e.2.1 5)).map (nwR D e)).take (r + 1)) := by
        rw [hks, decide_not, decide_not]
        cases kOK (((P (e.2.1 5)).map (nwR D e)).take r) <;> cases decide (((P (e.2.1 5)).map (nwR D e)).getD r 0 = NUL) <;> cases decide (((P (e.2.1 5)).map (nwR D e)).getD r 0 ∈ ((P (e.2.1 5)).map (nwR D e)).take r) <;> rfl
      rw [e1, nI_add]
      exact ih) r 0 (by omega)
    rw [List.take_zero, show decide (((P (e.2.1 5)).map (nwR D e)).getD r 0 ∈ ([] : List Int64)) = false from decide_eq_false (by intro z; cases z), Bool.or_false] at hb
    refine sg_182_7 _ _ _ _ ?_
    rw [l7, ix_nI (by omega), (hD _ h5).2.1, if_neg (by rw [nIle (by omega) (by omega)]; omega), l63, l62, ix_nI (by omega), (hM r (by omega)).1, hB r (by omega)]
    refine ⟨ok_nI (by omega) (by decide), ok_nI (by omega) (by decide), ?_⟩
    have tail : ∀ x : Int32, x = nI (((P (e.2.1 5)).take (r + 1)).countP (whR D e)) → (if bI ((!kOK (((P (e.2.1 5)).map (nwR D e)).take r)) = true) = (nI 0) then ok 20 (nI r) ∧ (if (lg_cmp (((P (e.2.1 5)).map (nwR D e)).getD r 0) 1099511627776) = (nI 0) then WH (d + 4 + 1) 182 63 [(0, .ref 42), (1, .int (nI (e.2.1 5))), (2, .int x), (3, .int (nI 1)), (4, .int (nI r)), (5, .int (nI 0))] [] m K else WH (d + 4 + 1) 182 63 [(0, .ref 42), (1, .int (nI (e.2.1 5))), (2, .int x), (3, .int (nI 0)), (4, .int (nI r)), (5, .int (nI 0))] [] m K) else WH (d + 4 + 1) 182 63 [(0, .ref 42), (1, .int (nI (e.2.1 5))), (2, .int x), (3, .int (nI 1)), (4, .int (nI r)), (5, .int (nI 0))] [] m K) := by
      intro x hx
      subst hx
      cases hk : kOK (((P (e.2.1 5)).map (nwR D e)).take r) with
      | true =>
        rw [hk, Bool.true_and] at hb
        rw [bI_f (by decide), if_pos rfl]
        refine ⟨ok_nI (by omega) (by decide), ?_⟩
        by_cases hN : ((P (e.2.1 5)).map (nwR D e)).getD r 0 = NUL
        · rw [if_pos ((lg_nul _).mpr hN)]
          rw [decide_eq_false (fun z => z hN), bI_t (by decide)] at hb
          exact hb
        · rw [if_neg (fun z => hN ((lg_nul _).mp z))]
          rw [decide_eq_true hN, bI_f (by decide)] at hb
          exact hb
      | false =>
        rw [hk, Bool.false_and, bI_t (by decide)] at hb
        rw [bI_t (by decide), if_neg (by decide)]
        exact hb
    by_cases hw : whR D e ((P (e.2.1 5)).getD r []) = true
    · rw [bI_t hw, if_neg (by decide)]
      rw [if_pos hw] at ec
      exact tail _ (by rw [nI_add, ec])
    · rw [bI_f hw, if_pos rfl]
      rw [if_neg hw] at ec
      exact tail _ (by rw [ec])
theorem c_182 (hWF : WF e) (hI : DI D) (ha : e.1.2.1.all (okSb D e) = true) (hz : e.2.1 6 = 0) (h7 : e.2.1 7 < wd D (e.2.1 5)) (h1 : 0 < e.2.2.length) (hM : MK m D e (P (e.2.1 5)) (rw_ D (e.2.1 5)).length) (hQ : RQ m (rs_ D e) (tq e) D P e.1.2.2) (hS : RS m e.2 nm) (k : ∀ m' P', (updC D e = 0 → m'.F 42 56 = nI (rdE D e) ∧ m'.F 42 57 = nI (plE D e)) → (updC D e ≠ 0 → m'.F 42 56 = m.F 42 56 ∧ m'.F 42 57 = m.F 42 57) → m'.F 42 53 = (if updC D e = 0 then nI ((rw_ D (e.2.1 5)).countP (whR D e)) else m.F 42 53) → DR m' (if updC D e = 0 then updR D e else D) P' → Fq [53, 56, 57, 58] [58, 61] m m' → K (some (.int (nI (updC D e)))) m') : WP (d + 5) 182 [.ref 42, .int (nI (e.2.1 5))] m K := by
  refine sp_182 _ ?_
  exact lp_182a hWF hI ha hz h7 h1 hM hQ hS k (rw_ D (e.2.1 5)).length 0 (by omega)
end V99
