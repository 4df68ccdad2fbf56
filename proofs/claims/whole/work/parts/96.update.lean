/-! UPDATE, the class: putColumn and update -/
section U96
variable {d : Nat} {m m0 m1 : Mm} {K : Option Value → Mm → Prop} {D : Db} {e : St} {t i j : Nat} {L : List Hit}
theorem lp_36a (ht : t < 3) {N c : Nat} (hN : N ≤ 20) (hc : c < 4) : ∀ (n i : Nat) (m : Mm), i + n = N → Len m → m.F (3 + 3 * t) 3 = nI N → (∀ m', (∀ q, (m'.B (3 + 3 * t + 1)).getD q 0 = if q % 4 = c ∧ i ≤ q / 4 ∧ q / 4 < N then (m.B 41).getD (q / 4) 0 else (m.B (3 + 3 * t + 1)).getD q 0) → Fr [3 + 3 * t + 1] m m' → WH d 36 31 [(0, .ref (3 + 3 * t)), (3, .int (nI 1))] [] m' K) → WH d 36 2 [(0, .ref (3 + 3 * t)), (1, .int (nI c)), (2, .ref 41), (3, .int (nI i))] [] m K := by
  intro n
  induction n with
  | zero =>
    intro i m hi hL h3 k
    refine sg_36_2 _ _ _ (tbl_t ht) ?_
    rw [h3, if_pos (by rw [nIle (by omega) (by omega)]; omega)]
    refine k m (fun q => ?_) (Fr.refl _ m)
    rw [if_neg (by omega)]
  | succ n ih =>
    intro i m hi hL h3 k
    have lB := lenB (tbl_t ht) hL
    have l41 : (m.B 41).length = 20 := hL.b (by decide) rfl
    refine sg_36_2 _ _ _ (tbl_t ht) ?_
    rw [h3, if_neg (by rw [nIle (by omega) (by omega)]; omega), pk_mul, nI_add, nI_add, lB, l41, ix_nI (by omega), ix_nI (by omega)]
    refine ⟨ok_nI (by omega) (by decide), ok_nI (by omega) (by decide), ?_⟩
    have f1 : Fr [3 + 3 * t + 1] m (m.uB (3 + 3 * t + 1) ((m.B (3 + 3 * t + 1)).set (i * 4 + c) ((m.B 41).getD i 0))) := Fr.uB (Fr.refl _ m) (by simp) (by rw [List.length_set])
    have n41 : 41 ∉ [3 + 3 * t + 1] := by simp; omega
    refine ih (i + 1) _ (by omega) (hL.fr f1) (by rw [f1.f (by simp)]; exact h3) (fun m' a1 a2 => k m' (fun q => ?_) (f1.trans a2))
    rw [a1 q, f1.b n41, mB_B, if_pos rfl, getD_set _ _ _ _ _ (by omega)]
    by_cases h1 : q % 4 = c ∧ i + 1 ≤ q / 4 ∧ q / 4 < N
    · rw [if_pos h1, if_pos (by omega)]
    · rw [if_neg h1]
      by_cases h2 : q = i * 4 + c
      · rw [if_pos h2, if_pos (by omega), show q / 4 = i by omega]
      · rw [if_neg h2, if_neg (by omega)]
theorem lp_36b (ht : t < 3) {Q : List (List Int64)} (hq : Q.length ≤ 20) (hk : (Q.map key).Nodup) : ∀ (n i : Nat) (m : Mm), i + n = Q.length ∨ (n = 0 ∧ Q.length ≤ i) → i ≤ 20 → Len m → m.F (3 + 3 * t) 3 = nI Q.length → TBl (m.B (3 + 3 * t + 1)) (isK (Q.take i) ++ Q.drop i) → (∀ m', TBl (m'.B (3 + 3 * t + 1)) (isK Q) → Fr [3 + 3 * t + 1] m m' → K none m') → WH (d + 2) 36 31 [(0, .ref (3 + 3 * t)), (3, .int (nI i))] [] m K := by
  intro n
  induction n with
  | zero =>
    intro i m hi hi20 hL h3 hT k
    refine sg_36_31 _ _ (tbl_t ht) ?_
    rw [h3, if_pos (by rw [nIle (by omega) (by omega)]; omega)]
    rw [List.take_of_length_le (by omega), List.drop_eq_nil_of_le (by omega), List.append_nil] at hT
    exact k m hT (Fr.refl _ m)
  | succ n ih =>
    intro i m hi hi20 hL h3 hT k
    have hiQ : i < Q.length := by omega
    refine sg_36_31 _ _ (tbl_t ht) ?_
    rw [h3, if_neg (by rw [nIle (by omega) (by omega)]; omega)]
    have elen : (isK (Q.take i) ++ Q.drop i).length = Q.length := by rw [List.length_append, isK_len, List.length_take, List.length_drop]; omega
    refine c_37 (tbl_t ht) (by rw [elen]; exact hiQ) (by rw [elen]; exact hq) hL hT (fun m1 hT1 f1 => ⟨rfl, ?_⟩)
    have ed : Q.drop i = [Q.getD i []] ++ Q.drop (i + 1) := by
      rw [List.drop_eq_getElem_cons hiQ, List.getD_eq_getElem?_getD, List.getElem?_eq_getElem hiQ]; rfl
    have hnd : ((Q.take i).map key).Nodup := by
      rw [List.map_take]
      exact (List.take_sublist _ _).nodup hk
    have es : snk (isK (Q.take i) ++ Q.drop i) i = isK (Q.take (i + 1)) ++ Q.drop (i + 1) := by
      rw [ed, ← List.append_assoc, snk_ins (Q.getD i []) i (isK (Q.take i)) (Q.drop (i + 1)) (by rw [isK_len, List.length_take]; omega) (isK_pw _ hnd), take_succ_getD hiQ, isK_snoc]
    rw [es] at hT1
    rw [nI_add]
    exact ih (i + 1) m1 (by omega) (by omega) (hL.fr f1) (by rw [f1.f (by simp)]; exact h3) hT1 (fun m' a1 a2 => k m' a1 (f1.trans a2))
theorem c_36 (ht : t < 3) (hI : DI D) (hw : 0 < wd D t) {c : Nat} (hc : c < wd D t) (hL : Len m) (hD : DC m D) {R' : List (List Int64)} (hl : R'.length = (rw_ D t).length) (hR : ∀ i, i < R'.length → (R'.getD i []).length = wd D t ∧ ∀ q, q < wd D t → (R'.getD i []).getD q 0 = if q = c then (m.B 41).getD i 0 else cl_ (rw_ D t) i q) (hk : (R'.map key).Nodup) (k : ∀ m', DC m' (updD D t (isK R')) → Fr [3 + 3 * t, 3 + 3 * t + 1] m m' → K none m') : WP (d + 2) 36 [.ref (3 + 3 * t), .int (nI c), .ref 41] m K := by
  obtain ⟨d1, d2, d3, d4⟩ := hD t ht
  obtain ⟨a1, a2, a3, a4, a5, a6, a7⟩ := hI t ht
  refine sp_36 _ _ (tbl_t ht) ?_
  refine lp_36a ht a2 (by omega) (rw_ D t).length 0 m (by omega) hL d2 (fun m1 hB f1 => ?_)
  have hQR : (phy (m1.B (3 + 3 * t + 1)) (rw_ D t).length).map (fun r => r.take (wd D t)) = R' := by
    refine list_ext2 (by rw [List.length_map, phy_len, hl]) (fun i hi => ?_)
    rw [List.length_map, phy_len] at hi
    rw [getD_map _ _ i [] [] (by rw [phy_len]; exact hi)]
    obtain ⟨r1, r2⟩ := hR i (by omega)
    have hphy : ∀ q, q < 4 → ((phy (m1.B (3 + 3 * t + 1)) (rw_ D t).length).getD i []).getD q 0 = (m1.B (3 + 3 * t + 1)).getD (i * 4 + q) 0 := fun q hq => (phy_TBl _ _ i (by rw [phy_len]; exact hi) q hq).symm
    refine list_ext ?_ (fun q hq => ?_)
    · rw [r1, phy_get hi, List.length_take]
      show min (wd D t) 4 = _
      omega
    · have hq' : q < wd D t := by rw [List.length_take] at hq; omega
      rw [getD_take hq', hphy q (by omega), hB, r2 q hq', show (i * 4 + q) % 4 = q by omega, show (i * 4 + q) / 4 = i by omega]
      by_cases hqc : q = c
      · rw [if_pos hqc, if_pos ⟨hqc, by omega, by omega⟩]
      · rw [if_neg hqc, if_neg (fun z => hqc z.1)]
        exact d3 i (by omega) q hq'
  have hkey : ((phy (m1.B (3 + 3 * t + 1)) (rw_ D t).length).map key).Nodup := by
    have e1 : (phy (m1.B (3 + 3 * t + 1)) (rw_ D t).length).map key = R'.map key := by
      rw [← hQR, List.map_map]
      refine List.map_congr_left (fun z _ => ?_)
      exact (getD_take hw).symm
    rw [e1]; exact hk
  have elen := phy_len (m1.B (3 + 3 * t + 1)) (rw_ D t).length
  have hT := phy_TBl (m1.B (3 + 3 * t + 1)) (rw_ D t).length
  have e3 : m1.F (3 + 3 * t) 3 = nI (rw_ D t).length := by rw [f1.f (by simp)]; exact d2
  have e2 : m1.F (3 + 3 * t) 2 = nI (wd D t) := by rw [f1.f (by simp)]; exact d1
  generalize phy (m1.B (3 + 3 * t + 1)) (rw_ D t).length = Q at *
  refine lp_36b ht (Q := Q) (by omega) hkey (Q.length - 1) 1 m1 (by omega) (by omega) (hL.fr f1) (by rw [elen]; exact e3) ?_ (fun m2 hT2 f2 => ?_)
  · have : isK (Q.take 1) ++ Q.drop 1 = Q := by
      cases Q with
      | nil => rfl
      | cons x Q => rfl
    rw [this]; exact hT
  · have f3 : Fr [3 + 3 * t, 3 + 3 * t + 1] m m2 := (f1.trans f2).mono (fun c hc => List.mem_cons_of_mem _ hc)
    refine k m2 (DC_upd hD f3 ?_ ?_ (fun i hi q hq => ?_)) f3
    · rw [f2.f (by simp)]; exact e2
    · rw [f2.f (by simp), e3, isK_len, hl]
    · rw [isK_len] at hi
      rw [hT2 i (by rw [isK_len]; omega) q (by omega), ← hQR, ← isK_map hw]
      unfold cl_
      rw [getD_map _ _ i [] [] (by rw [isK_len]; omega), getD_take hq]
def S21 : List Nat := [0, 3, 4, 6, 7, 9, 10, 22, 24, 41]
/-- the new values -/
theorem lp_21 (hWF : WF e) (hI : DI D) (ha : e.1.2.1.all (okSb D e) = true) (hz : e.2.1 6 = 0) (h1 : 0 < e.2.2.length) (h80 : e.2.2.length ≤ 80) (hM : MH D e L) (h20 : L.length ≤ 20) {ps : List Pt} : ∀ (n x : Nat) (m : Mm) (i j : Nat), x + n = L.length → CQ m (rs_ D e) (tq e) D ps → SR m e.2 → PR m i j → HF m L → (∀ q, q < x → (m.B 41).getD (hA L q).2.1 0 = nwR D e ((rw_ D (e.2.1 5)).getD (hA L q).2.1 [])) → (∀ i, i < (rw_ D (e.2.1 5)).length → (∀ q, q < x → (hA L q).2.1 ≠ i) → (m.B 41).getD i 0 = cl_ (rw_ D (e.2.1 5)) i (e.2.1 7)) → (∀ m', (∀ i, i < (rw_ D (e.2.1 5)).length → (m'.B 41).getD i 0 = nwR D e ((rw_ D (e.2.1 5)).getD i [])) → Fr [22, 24, 41] m m' → WH (d + 4) 21 17 [(0, .ref 0), (1, .ref (3 + 3 * e.2.1 5)), (2, .int (nI L.length))] [] m' K) → WH (d + 4) 21 17 [(0, .ref 0), (1, .ref (3 + 3 * e.2.1 5)), (2, .int (nI x))] [] m K := by
  have h5 := hWF.2.2.2.2.2.2.2.2.1
  have hR20 := (hI _ h5).2.1
  have hb : ∀ q, q < L.length → (hA L q).2.1 < (rw_ D (e.2.1 5)).length := fun q hq => by
    have := (hA_in hM hq).1.1
    rw [tq0] at this; exact this
  have hw : ∀ q, q < L.length → whR D e ((rw_ D (e.2.1 5)).getD (hA L q).2.1 []) = true := fun q hq => by
    have := (hA_in hM hq).2.1
    rw [whB_R hWF ha hz, tq0] at this; exact this
  intro n
  induction n with
  | zero =>
    intro x m i j hx hQ hS hPR hH g1 g2 k
    have ex : x = L.length := by omega
    subst ex
    refine k m (fun i hi => ?_) (Fr.refl _ m)
    by_cases hex : ∃ q, q < L.length ∧ (hA L q).2.1 = i
    · obtain ⟨q, hq, he⟩ := hex
      have := g1 q hq
      rw [he] at this
      exact this
    · rw [g2 i hi (fun q hq he => hex ⟨q, hq, he⟩)]
      have hn : ¬ whR D e ((rw_ D (e.2.1 5)).getD i []) = true := by
        intro hw'
        have hin : hitD D e i 0 ∈ L := (hM.2 _).mpr ⟨i, 0, ⟨by rw [tq0]; exact hi, by rw [if_pos hz]⟩, by rw [whB_R hWF ha hz, tq0]; exact hw', rfl⟩
        have hin2 : hitD D e i 0 ∈ srt L := (srt_perm L).mem_iff.mpr hin
        obtain ⟨q, hq, he⟩ := List.getElem_of_mem hin2
        rw [srt_len] at hq
        refine hex ⟨q, hq, ?_⟩
        have : hA L q = hitD D e i 0 := by
          unfold hA
          rw [List.getD_eq_getElem?_getD, List.getElem?_eq_getElem (by rw [srt_len]; exact hq)]
          exact he
        rw [this]
        rfl
      unfold nwR
      rw [if_neg hn]
      rfl
  | succ n ih =>
    intro x m i j hx hQ hS hPR hH g1 g2 k
    have hxL : x < L.length := by omega
    have hin := hA_in hM hxL
    obtain ⟨w1, w2, w3⟩ := hWF.2.1 0 h1
    have hlen : (rs_ D e).length = e.1.2.1.length := by unfold rs_; rw [List.length_map]
    refine sg_21_17 _ _ (tbl_t h5) ?_
    rw [hH.1, if_neg (by rw [nIle (by omega) (by omega)]; omega), if_neg (by rw [nIle (by decide) (by omega)]; omega)]
    refine c_130 (d := d + 2) hQ.1 hH (by omega) hxL hPR (fun m1 hP1 f1 => ⟨rfl, ?_⟩)
    have hQ1 := hQ.fr f1 (by decide)
    have hS1 : SR m1 e.2 := hS.fr f1 (by decide) (F12.fr f1 (by decide))
    refine c_42 hQ1.1 hP1 (by decide) ⟨_, rfl, ?_⟩
    rw [if_pos rfl]
    refine c_61 hQ1.1 hS1 (by omega) (by omega) ⟨_, rfl, ?_⟩
    refine c_62 hQ1.1 hS1 (by omega) (by omega) ⟨_, rfl, ?_⟩
    have hPV := PV_in hI hQ1 hP1 ha hWF.1 hin.1.r (l := seg (rs_ D e) (tmF e.2 0) (e.2.2.getD 0 0)) (fun y hy => seg_mem hy)
    refine c_51 (c := seg (rs_ D e) (tmF e.2 0) (e.2.2.getD 0 0)) hQ1.1 hQ1.2.1 rfl (by omega) (by omega) hPV (by unfold rs_; rw [seg_map]; exact tyC_map w3) (fun m2 f2 => ⟨_, rfl, ?_⟩)
    have l41 : (m2.B 41).length = 20 := (hQ1.1.fr f2).b (by decide) rfl
    have hv : val (envD D (tq e) (hA L x).2.1 (hA L x).2.2) (seg (rs_ D e) (tmF e.2 0) (e.2.2.getD 0 0)) = nwR D e ((rw_ D (e.2.1 5)).getD (hA L x).2.1 []) := by
      rw [val_0S hWF ha hz (fun y hy => seg_mem hy), tq0]
      unfold nwR
      rw [if_pos (hw x hxL)]
    have hbx := hb x hxL
    rw [l41, ix_nI (by omega), hv, nI_add]
    refine ⟨ok_nI (by omega) (by decide), ?_⟩
    have f3 : Fr [22, 24, 41] m (m2.uB 41 ((m2.B 41).set (hA L x).2.1 (nwR D e ((rw_ D (e.2.1 5)).getD (hA L x).2.1 [])))) := Fr.uB ((f1.mono (by decide)).trans (f2.mono (by decide))) (by decide) (by rw [List.length_set])
    have eB : ∀ q, ((m2.uB 41 ((m2.B 41).set (hA L x).2.1 (nwR D e ((rw_ D (e.2.1 5)).getD (hA L x).2.1 [])))).B 41).getD q 0 = if q = (hA L x).2.1 then nwR D e ((rw_ D (e.2.1 5)).getD (hA L x).2.1 []) else (m.B 41).getD q 0 := fun q => by
      rw [mB_B, if_pos rfl, getD_set _ _ _ _ _ (by omega), f2.b (by decide), f1.b (by decide)]
    refine ih (x + 1) _ _ _ (by omega) (hQ.fr f3 (by decide)) (hS.fr f3 (by decide) (F12.fr f3 (by decide))) ((hP1.fr f2 (by decide)).fr (Fr.uB (Fr.refl [41] m2) (by decide) (by rw [List.length_set])) (by decide)) (hH.fr f3 (f3.f (by decide) 15) (by decide) (by decide) (by decide)) (fun q hq => ?_) (fun i hi hne => ?_) (fun m' a1 a2 => k m' a1 (f3.trans a2))
    · rw [eB]
      by_cases he : (hA L q).2.1 = (hA L x).2.1
      · rw [if_pos he, he]
      · rw [if_neg he]
        exact g1 q (by
          by_cases z : q = x
          · rw [z] at he; exact absurd rfl he
          · omega)
    · rw [eB, if_neg (fun z => hne x (by omega) z.symm)]
      exact g2 i hi (fun q hq => hne q (by omega))
theorem c_21 (hWF : WF e) (hI : DI D) (ha : e.1.2.1.all (okSb D e) = true) (hz : e.2.1 6 = 0) (h13 : e.2.1 13 = 0) (h1 : 0 < e.2.2.length) (h80 : e.2.2.length ≤ 80) (h7 : e.2.1 7 < wd D (e.2.1 5)) (hM : MH D e L) {ps : List Pt} (hQ : CQ m (rs_ D e) (tq e) D ps) (hS : SR m e.2) (hPR : PR m i j) (hH : HF m L) (k : ∀ m', m'.F 0 11 = (if updC D e = 0 then nI ((rw_ D (e.2.1 5)).countP (whR D e)) else m.F 0 11) → (∀ f, f ≠ 11 → m'.F 0 f = m.F 0 f) → DC m' (if updC D e = 0 then updR D e else D) → Fr S21 m m' → K (some (.int (nI (updC D e)))) m') : WP (d + 4) 21 [.ref 0, .ref (3 + 3 * e.2.1 5)] m K := by
  have h5 := hWF.2.2.2.2.2.2.2.2.1
  obtain ⟨b1, b2, b3, b4, b5, b6, b7⟩ := hI _ h5
  have hlen := one_len hWF ha hz h13 hM
  rw [tq0] at hlen
  have hcl := List.countP_le_length (p := whR D e) (l := rw_ D (e.2.1 5))
  have e7 : m.F 12 7 = nI (e.2.1 7) := hS.1 7 rfl
  refine sp_21 _ (tbl_t h5) ?_
  rw [e7]
  refine c_35 h5 hI h7 hQ.1 hQ.2.2.2.1 (fun m1 hB1 f1 => ⟨rfl, ?_⟩)
  refine lp_21 (ps := ps) hWF hI ha hz h1 h80 hM (by omega) L.length 0 m1 i j (by omega) (hQ.fr f1 (by decide)) (hS.fr f1 (by decide) (F12.fr f1 (by decide))) (hPR.fr f1 (by decide)) (hH.fr f1 (f1.f (by decide) 15) (by decide) (by decide) (by decide)) (fun q hq => absurd hq (Nat.not_lt_zero q)) (fun q hq _ => hB1 q hq) (fun m2 hB2 f2 => ?_)
  have f3 : Fr S21 m m2 := (f1.mono (by decide)).trans (f2.mono (by decide))
  have g0 : ∀ f, m2.F 0 f = m.F 0 f := fun f => by rw [f2.f (by decide), f1.f (by decide)]
  have hL2 := hQ.1.fr f3
  have hD2 : DC m2 D := (hQ.2.2.2.1.fr f1 (by decide)).fr f2 (by decide)
  have hH2 : HF m2 L := (hH.fr f1 (f1.f (by decide) 15) (by decide) (by decide) (by decide)).fr f2 (f2.f (by decide) 15) (by decide) (by decide) (by decide)
  have e7' : m2.F 12 7 = nI (e.2.1 7) := by rw [f2.f (by decide), f1.f (by decide)]; exact e7
  have e3 : m2.F (3 + 3 * e.2.1 5) 3 = nI (rw_ D (e.2.1 5)).length := (hD2 _ h5).2.1
  have hput : updC D e = 0 → WP (d + 3) 36 [.ref (3 + 3 * e.2.1 5), .int (m2.F 12 7), .ref 41] m2 (fun v m7 => v = none ∧ K (some (.int (nI 0))) (m7.uF 0 11 (m7.F 30 15))) := by
    intro hc
    have hok := upL_ok hI h5 h7 hc
    rw [e7']
    refine c_36 (d := d + 1) (R' := upL D e) h5 hI (by omega) h7 hL2 hD2 (by unfold upL; rw [List.length_map]) (fun i hi => ?_) hok.1 (fun m3 hD3 f4 => ⟨rfl, ?_⟩)
    · unfold upL at hi ⊢
      rw [List.length_map] at hi
      rw [getD_map _ _ i [] [] hi]
      have hrl := (b3 _ (getD_in hi : (rw_ D (e.2.1 5)).getD i [] ∈ rw_ D (e.2.1 5))).1
      refine ⟨by rw [upR_len]; exact hrl, fun q hq => ?_⟩
      rw [upR_get (by rw [hrl]; exact h7), hB2 i hi]
      rfl
    · have f5 : Fr S21 m (m3.uF 0 11 (m3.F 30 15)) := Fr.uF (f3.trans (f4.mono (tS h5 (by decide)))) (by decide) _ _
      have e15 : m3.F 30 15 = nI L.length := by rw [f4.f (tN h5 (by decide))]; exact hH2.1
      have := k (m3.uF 0 11 (m3.F 30 15))
      rw [hc, if_pos rfl, if_pos rfl] at this
      refine this (by rw [mF_F, if_pos ⟨rfl, rfl⟩, e15, hlen]) (fun f hf => by rw [mF_F, if_neg (fun z => hf z.2), f4.f (tN h5 (by decide)), g0]) ?_ f5
      exact hD3.fr (Fr.uF (Fr.refl [0] m3) (by decide) _ _) (by decide)
  refine sg_21_17 _ _ (tbl_t h5) ?_
  rw [hH2.1, if_pos (by rw [nIle (by omega) (by omega)]; omega)]
  by_cases h0 : e.2.1 7 = 0
  · rw [if_pos (by rw [e7', h0]), e3]
    have hln : ((rw_ D (e.2.1 5)).map (nwR D e)).length = (rw_ D (e.2.1 5)).length := by rw [List.length_map]
    rw [← hln]
    refine c_22 hL2 (by omega) (fun q hq => ?_) ⟨_, rfl, ?_⟩
    · rw [hln] at hq
      rw [getD_map _ _ q [] 0 hq, hB2 q hq]
    · cases hk : kOK ((rw_ D (e.2.1 5)).map (nwR D e)) with
      | true =>
        rw [bI_t rfl, if_neg (by decide)]
        exact hput (by unfold updC; rw [if_neg (fun z => by rw [hk] at z; cases z.2)])
      | false =>
        have hc : updC D e = 4 := by unfold updC; rw [if_pos ⟨h0, hk⟩]
        rw [bI_f (by decide), if_pos rfl]
        have := k m2
        rw [hc, if_neg (by decide), if_neg (by decide)] at this
        exact this (g0 11) (fun f _ => g0 f) hD2 f3
  · rw [if_neg (by rw [e7', nIeq (by omega) (by decide)]; exact h0)]
    exact hput (by unfold updC; rw [if_neg (fun z => h0 z.1)])
end U96
