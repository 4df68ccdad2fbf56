/-! WHAT IS FOUND in one table, the class -/
def fo1 (D : Db) (e : St) : List Nat := ftL (rw_ D (tq e 0)) (ftR (rs_ D e) env0 (aF D e 0 0))
def hits (D : Db) (e : St) (l : List Nat) : List Hit := (l.filter (fun i => whB D e i 0)).map (fun i => hitD D e i 0)
theorem hits_snoc (D : Db) (e : St) (l : List Nat) (i : Nat) : hits D e (l ++ [i]) = if whB D e i 0 = true then hits D e l ++ [hitD D e i 0] else hits D e l := by
  unfold hits
  by_cases h : whB D e i 0 = true
  · rw [if_pos h, List.filter_append, List.filter_cons_of_pos (p := fun i => whB D e i 0) h, List.filter_nil, List.map_append]; rfl
  · rw [if_neg h, List.filter_append, List.filter_cons_of_neg (p := fun i => whB D e i 0) h, List.filter_nil, List.append_nil]
theorem hits_len (D : Db) (e : St) (l : List Nat) : (hits D e l).length ≤ l.length := by
  unfold hits
  rw [List.length_map]
  exact List.length_filter_le _ _
theorem hits_mem {D : Db} {e : St} {l : List Nat} {x : Hit} (h : x ∈ hits D e l) : x.2.1 ∈ l ∧ x.2.2 = 0 := by
  unfold hits at h
  obtain ⟨i, hi, rfl⟩ := List.mem_map.mp h
  exact ⟨(List.mem_filter.mp hi).1, rfl⟩
theorem ftL_mem {R : List (List Int64)} {q : List Int64 → Bool} {i : Nat} : i ∈ ftL R q ↔ i < R.length ∧ q (R.getD i []) = true := by
  unfold ftL
  rw [List.mem_filter, List.mem_range]
theorem ftL_nodup (R : List (List Int64)) (q : List Int64 → Bool) : (ftL R q).Nodup := List.nodup_range.filter _
theorem ftL_len (R : List (List Int64)) (q : List Int64 → Bool) : (ftL R q).length ≤ R.length := by
  unfold ftL
  have := List.length_filter_le (fun i => q (R.getD i [])) (List.range R.length)
  rw [List.length_range] at this
  exact this
theorem take_succ_nat {l : List Nat} {i : Nat} (h : i < l.length) : l.take (i + 1) = l.take i ++ [l.getD i 0] := by
  rw [List.take_add_one, List.getElem?_eq_getElem h, List.getD_eq_getElem?_getD, List.getElem?_eq_getElem h]; rfl
theorem nodup_take {l : List Nat} (h : l.Nodup) {i : Nat} (hi : i < l.length) : l.getD i 0 ∉ l.take i := by
  have h2 : (l.take (i + 1)).Nodup := (List.take_sublist _ _).nodup h
  rw [take_succ_nat hi] at h2
  have := (List.nodup_append.mp h2).2.2
  intro hm
  exact this _ hm _ (List.mem_singleton.mpr rfl) rfl
section F85
variable {d : Nat} {m m0 m1 : Mm} {K : Option Value → Mm → Prop} {D : Db} {e : St} {ps : List Pt} {i j : Nat}
theorem c_43 {s r : Nat} (hL : Len m) (hPR : PR m i j) (hs : s < 2) (k : ∀ m', PR m' (if s = 0 then r else i) (if s = 0 then j else r) → Fr [24] m m' → K none m') : WP d 43 [.ref 23, .int (nI s), .int (nI r)] m K := by
  have l1 : (m.A 24).length = 2 := hL.a (by decide) rfl
  refine sp_43 _ _ ?_
  have f1 : ∀ x v, Fr [24] m (m.uA 24 ((m.A 24).set x v)) := fun x v => Fr.uA (Fr.refl _ m) (by decide) (by rw [List.length_set])
  rcases (by omega : s = 0 ∨ s = 1) with rfl | rfl
  · rw [if_pos rfl, l1, ix_nI (by decide)]
    rw [if_pos rfl, if_pos rfl] at k
    refine ⟨ok_nI (by decide) (by decide), k _ ⟨?_, ?_⟩ (f1 _ _)⟩
    · show ((m.A 24).set 0 (nI r)).getD 0 0 = _
      rw [getD_set _ _ _ _ _ (by omega), if_pos rfl]
    · show ((m.A 24).set 0 (nI r)).getD 1 0 = _
      rw [getD_set _ _ _ _ _ (by omega), if_neg (by decide)]; exact hPR.2
  · rw [if_neg (by decide), l1, ix_nI (by decide)]
    rw [if_neg (by decide), if_neg (by decide)] at k
    refine ⟨ok_nI (by decide) (by decide), k _ ⟨?_, ?_⟩ (f1 _ _)⟩
    · show ((m.A 24).set 1 (nI r)).getD 0 0 = _
      rw [getD_set _ _ _ _ _ (by omega), if_neg (by decide)]; exact hPR.1
    · show ((m.A 24).set 1 (nI r)).getD 1 0 = _
      rw [getD_set _ _ _ _ _ (by omega), if_pos rfl]
def S23 : List Nat := [22, 24, 30, 31, 32, 33, 34, 35]
theorem HF.fr {L : List Hit} {S : List Nat} (h : HF m L) (k : Fr S m m1) (h30 : m1.F 30 15 = m.F 30 15) (h1 : 33 ∉ S) (h2 : 34 ∉ S) (h3 : 35 ∉ S) : HF m1 L := by
  obtain ⟨a, b, c⟩ := h
  refine ⟨by rw [h30]; exact a, fun hle q hq => ?_, c⟩
  have := b hle q hq
  rw [k.b h1, k.a h2, k.a h3]
  exact this
/-- one table's rows, one behind the other -/
theorem lp_123a (hWF : WF e) (hI : DI D) (h6 : e.2.1 6 = 0) (ha : e.1.2.1.all (okSb D e) = true) : ∀ (n x : Nat) (m : Mm) (i0 : Nat), x + n = (fo1 D e).length → CQ m (rs_ D e) (tq e) D ps → SR m e.2 → PR m i0 0 → m.R 30 12 = 36 → m.F 36 2 = nI 0 → (∀ j, j < (fo1 D e).length → (m.A 31).getD j 0 = nI ((fo1 D e).getD j 0)) → HF m (hits D e ((fo1 D e).take x)) → (∀ m', HF m' (hits D e (fo1 D e)) → F30 m m' → Fr S23 m m' → K none m') → WH (d + 5) 123 25 [(0, .ref 30), (1, .int (nI (fo1 D e).length)), (2, .int (nI x))] [] m K := by
  intro n
  induction n with
  | zero =>
    intro x m i0 hx hQ hS hPR hR12 h36 hA hH k
    have hf0 := hQ.2.2.2.2.2.2.2.1
    have h20 := (hI _ hf0).2.1
    have hfl : (fo1 D e).length ≤ (rw_ D (tq e 0)).length := ftL_len _ _
    refine sg_123_25 _ _ ?_
    rw [if_pos (by rw [nIle (by omega) (by omega)]; omega)]
    rw [List.take_of_length_le (by omega)] at hH
    exact k m hH ⟨fun _ _ => rfl, rfl, rfl⟩ (Fr.refl _ m)
  | succ n ih =>
    intro x m i0 hx hQ hS hPR hR12 h36 hA hH k
    have hf0 := hQ.2.2.2.2.2.2.2.1
    have h20 := (hI _ hf0).2.1
    have hfl : (fo1 D e).length ≤ (rw_ D (tq e 0)).length := ftL_len _ _
    have l1 : (m.A 31).length = 20 := hQ.1.a (by decide) rfl
    have hmem : (fo1 D e).getD x 0 ∈ fo1 D e := getD_in (by omega)
    have hlt := (ftL_mem.mp hmem).1
    have hnd := nodup_take (ftL_nodup _ _) (show x < (fo1 D e).length by omega)
    refine sg_123_25 _ _ ?_
    rw [if_neg (by rw [nIle (by omega) (by omega)]; omega), hR12, h36, l1, ix_nI (by omega), hA x (by omega)]
    refine ⟨Or.inl rfl, ok_nI (by omega) (by decide), ?_⟩
    refine c_43 hQ.1 hPR (by decide) (fun m1 hPR1 f1 => ⟨rfl, ?_⟩)
    rw [if_pos rfl, if_pos rfl] at hPR1
    have hQ1 := hQ.fr f1 (by decide)
    have hS1 : SR m1 e.2 := hS.fr f1 (by decide) (F12.fr f1 (by decide))
    refine sp_121 ?_
    rw [show m1.F 12 6 = -1 from by rw [hS1.1 6 rfl, h6]; rfl, if_pos rfl]
    refine ⟨_, rfl, ?_⟩
    rw [if_pos rfl]
    have hH1 : HF m1 (hits D e ((fo1 D e).take x)) := hH.fr f1 (f1.f (by decide) 15) (by decide) (by decide) (by decide)
    have hll : (hits D e ((fo1 D e).take x)).length ≤ 20 := by
      have h1 := hits_len D e ((fo1 D e).take x)
      have h2 : ((fo1 D e).take x).length ≤ x := by rw [List.length_take]; omega
      omega
    refine c_126 hWF hI hQ1 hS1 hPR1 ha ⟨hlt, fun z => absurd h6 z⟩ ⟨by omega, by decide⟩ hH1 (by omega) (fun y hy hz => ?_) (fun m2 hH2 f2 g2 => ⟨rfl, ?_⟩)
    · have := (hits_mem hy).1
      rw [hz.1] at this
      exact hnd this
    · rw [← hits_snoc, ← take_succ_nat (by omega)] at hH2
      have f12 : Fr S23 m m2 := (f1.mono (by decide)).trans (f2.mono (by decide))
      have g12 : F30 m m2 := (F30.fr f1 (by decide)).trans g2
      rw [nI_add]
      refine ih (x + 1) m2 ((fo1 D e).getD x 0) (by omega) (hQ.fr f12 (by decide)) (hS.fr f12 (by decide) (F12.fr f12 (by decide))) ?_ (by rw [g12.2.1]; exact hR12) (by rw [f12.f (by decide)]; exact h36) (fun j hj => ?_) hH2 (fun m' a1 a2 a3 => k m' a1 (g12.trans a2) (f12.trans a3))
      · exact ⟨by rw [f2.a (by decide)]; exact hPR1.1, by rw [f2.a (by decide)]; exact hPR1.2⟩
      · rw [f2.a (by decide), f1.a (by decide)]; exact hA j hj
/-- findAll of one table -/
theorem c_123a (hWF : WF e) (hI : DI D) (h6 : e.2.1 6 = 0) (ha : e.1.2.1.all (okSb D e) = true) (hQ : CQ m (rs_ D e) (tq e) D e.1.2.2) (hS : SR m e.2) (hPR : PR m 0 0) (hR12 : m.R 30 12 = 36) (hAc : AcI m) (hA : Ac m 36 (aF D e 0 0)) (k : ∀ m', HF m' (hits D e (fo1 D e)) → m'.F 30 14 = nI (fo1 D e).length → m'.R 30 12 = 36 → Fr S23 m m' → K none m') : WP (d + 5) 123 [.ref 30] m K := by
  have hf0 := hQ.2.2.2.2.2.2.2.1
  have hcw : ∀ x, x ∈ rs_ D e → x.1 = 3 → x.2.2 = 0 → x.2.1 < wd D (tq e 0) := fun x hx h3 h0 => by
    have := (rs_col ha hWF.1 x hx h3).2.2.1
    rw [h0] at this; exact this
  have hPt : ∀ p, p ∈ e.1.2.2 → okPt (rs_ D e) p := fun p hp => okPt_map (hWF.2.2.2.2.1 p hp)
  have hok := acs_ok (D := D) (t := tq e 0) (rs := rs_ D e) (s := 0) (bef := 0) (ps := e.1.2.2) hPt hcw (aF D e 0 0) rfl
  have f1 : Fr [30] m ((m.uF 30 14 (nI 0)).uF 30 15 (nI 0)) := Fr.uF (Fr.uF (Fr.refl _ m) (by decide) _ _) (by decide) _ _
  have hQ1 := hQ.fr f1 (by decide)
  refine sp_123 ?_
  rw [hR12]
  refine ⟨Or.inl rfl, ?_⟩
  refine c_124 (env := env0) (bef := 0) (st := aF D e 0 0) (s := 0) (Or.inl rfl) (Or.inl rfl) (by decide) hQ1 hI hAc.1.1 (hA.fr f1 (by decide)) ?_ (fun m2 b1 f2 b2 b3 b4 b5 => ⟨_, rfl, ?_⟩)
  · rcases hok with z | ⟨z1, z2, z3, z4, z5, z6⟩
    · exact Or.inl z
    · refine Or.inr ⟨z1, z2, z3, z4, z5, fun x hx h3 => ?_⟩
      exact absurd h3 (mOK0 (fun y hy h3 => sd2_rs ha hWF.1 y (seg_mem hy) h3) z6 x hx)
  · have f12 : Fr S23 m m2 := (f1.mono (by decide)).trans (f2.mono (by decide))
    have e15 : m2.F 30 15 = nI 0 := by rw [b2 15 (by decide)]; rfl
    have e14 : m2.F 30 14 = nI (fo1 D e).length := by
      rw [b5]
      show nI 0 + nI (fo1 D e).length = _
      rw [nI_add, Nat.zero_add]
    have hH0 : HF m2 (hits D e ((fo1 D e).take 0)) := by
      rw [List.take_zero]
      exact ⟨e15, (fun _ q hq => absurd hq (Nat.not_lt_zero q)), List.nodup_nil, (fun x hx => by cases hx), (by decide : (0 : Nat) ≤ 1000)⟩
    refine lp_123a (ps := e.1.2.2) hWF hI h6 ha (fo1 D e).length 0 m2 0 (by omega) (hQ.fr f12 (by decide)) (hS.fr f12 (by decide) (F12.fr f12 (by decide))) ⟨by rw [f2.a (by decide), f1.a (by decide)]; exact hPR.1, by rw [f2.a (by decide), f1.a (by decide)]; exact hPR.2⟩ (by rw [b3]; exact hR12) (by rw [f12.f (by decide)]; exact hAc.1.1) b1 hH0 (fun m' c1 c2 c3 => k m' c1 ?_ ?_ (f12.trans c3))
    · rw [c2.1 14 (by decide)]; exact e14
    · rw [c2.2.1, b3]; exact hR12
end F85
