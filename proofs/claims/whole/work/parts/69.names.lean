/-! NAMES: which side a column belongs to; the class's checks -/
def inF (D : Db) (e : St) (own col : Nat) : Bool := decide ((own = 0 ∨ own = e.2.1 5 + 1) ∧ col < wd D (e.2.1 5))
def inS (D : Db) (e : St) (own col : Nat) : Bool := decide (e.2.1 6 ≠ 0 ∧ (own = 0 ∨ own = e.2.1 6) ∧ col < wd D (e.2.1 6 - 1))
def sdO (D : Db) (e : St) (own col : Nat) : Option Nat := if inF D e own col = inS D e own col then none else if inF D e own col = true then some 0 else some 1
def rsv (D : Db) (e : St) (x : Op) : Op := if x.1 = 3 then (3, x.2.1, (sdO D e x.2.2 x.2.1).getD 0) else x
def okSb (D : Db) (e : St) (x : Op) : Bool := decide (x.1 ≠ 3) || (decide (e.2.1 4 ≠ 6) && (sdO D e x.2.2 x.2.1).isSome)
def tfit (D : Db) (e : St) : Bool := if e.2.1 4 = 4 then decide (wd D (e.2.1 5) = 0) else decide (0 < wd D (e.2.1 5) ∧ (e.2.1 6 = 0 ∨ (e.2.1 6 - 1 ≠ e.2.1 5 ∧ 0 < wd D (e.2.1 6 - 1))))
def cfit (D : Db) (e : St) : Bool := if e.2.1 4 = 5 then decide (0 < e.2.1 7 ∧ e.2.1 7 < wd D (e.2.1 5) ∧ ixd D (e.2.1 5) (e.2.1 7) = false) else if e.2.1 4 = 7 then decide (e.2.1 7 < wd D (e.2.1 5)) else true
def nfit (D : Db) (e : St) : Bool := if e.2.1 4 = 4 then decide (1 ≤ e.2.1 8 ∧ e.2.1 8 ≤ 4) else if e.2.1 4 = 6 then decide (e.2.2.length = wd D (e.2.1 5)) else true
def fault (D : Db) (e : St) : Nat := if tfit D e = true ∧ cfit D e = true ∧ e.1.2.1.all (okSb D e) = true then (if nfit D e = true then 0 else 3) else 2
section N69
variable {d N : Nat} {m m0 m1 : Mm} {K : Option Value → Mm → Prop} {D : Db} {e : St}
theorem f111 {t own col : Nat} (ht : t < 3) (ho : own ≤ 3) (hc : col < 4) (hD : DC m D) (hI : DI D) (k : K (some (.int (bI ((own = 0 ∨ own = t + 1) ∧ col < wd D t)))) m) : WP (d + 1) 111 [.ref 29, .int (nI t), .int (ow own), .int (nI col)] m K := by
  refine sp_111 _ _ _ ?_
  rw [if_neg (by rw [m1_eq (by omega)]; exact id)]
  have tb := tbl_ix ht
  have main : (own = 0 ∨ own = t + 1) → ∃ r3, tb_of (nI t) r3 ∧ tbl r3 ∧ WP d 27 [.ref r3, .int (nI col)] m (fun v m6 => ∃ w7, v = some (.int w7) ∧ (if w7 = (nI 0) then K (some (.int (nI 0))) m6 else K (some (.int (nI 1))) m6)) := by
    intro hw
    refine ⟨3 + 3 * t, tb.1, tb.2, c_27 ht (by omega) hD hI ⟨_, rfl, ?_⟩⟩
    by_cases h : col < wd D t
    · rw [bI_t h, if_neg (by decide)]; rw [bI_t ⟨hw, h⟩] at k; exact k
    · rw [bI_f h, if_pos rfl]; rw [bI_f (fun z => h z.2)] at k; exact k
  by_cases h0 : own = 0
  · subst h0
    rw [if_pos (show ow 0 = -1 from rfl)]
    exact main (Or.inl rfl)
  · obtain ⟨n, rfl⟩ : ∃ n, own = n + 1 := ⟨own - 1, by omega⟩
    have e1 : ow (n + 1) = nI n := rfl
    rw [e1, if_neg (by rw [m1_eq (by omega)]; exact id)]
    by_cases h1 : n = t
    · rw [if_pos (by rw [h1])]
      exact main (Or.inr (by omega))
    · rw [if_neg (by rw [nIeq (by omega) (by omega)]; exact h1)]
      rw [bI_f (fun z => by omega)] at k
      exact k
theorem c_110 {own col : Nat} (hS : SR m e.2) (h5 : e.2.1 5 < 3) (h6 : e.2.1 6 ≤ 3) (ho : own ≤ 3) (hc : col < 4) (hD : DC m D) (hI : DI D) (k : K (some (.int (match sdO D e own col with | some s => nI s | none => -1))) m) : WP (d + 2) 110 [.ref 29, .int (ow own), .int (nI col)] m K := by
  have e5 : m.F 12 5 = nI (e.2.1 5) := hS.1 5 rfl
  have e6 : m.F 12 6 = ow (e.2.1 6) := hS.1 6 rfl
  have hF : bI ((own = 0 ∨ own = e.2.1 5 + 1) ∧ col < wd D (e.2.1 5)) = bI (inF D e own col = true) := by
    unfold inF bI
    by_cases h : (own = 0 ∨ own = e.2.1 5 + 1) ∧ col < wd D (e.2.1 5)
    · rw [if_pos h, if_pos (decide_eq_true h)]
    · rw [if_neg h, if_neg (by rw [decide_eq_true_iff]; exact h)]
  have fin : ∀ w10, w10 = bI (inS D e own col = true) → (if bI (inF D e own col = true) = w10 then K (some (.int (-1))) m else (if bI (inF D e own col = true) = (nI 0) then K (some (.int (nI 1))) m else K (some (.int (nI 0))) m)) := by
    intro w10 hw
    subst hw
    unfold sdO at k
    cases hf : inF D e own col <;> cases hs : inS D e own col <;> rw [hf, hs] at k
    · rw [if_pos rfl]; exact k
    · rw [bI_f (by decide), bI_t rfl, if_neg (by decide), if_pos rfl]; exact k
    · rw [bI_t rfl, bI_f (by decide), if_neg (by decide), if_neg (by decide)]; exact k
    · rw [if_pos rfl]; exact k
  refine sp_110 _ _ ?_
  rw [e5]
  refine f111 h5 ho hc hD hI ⟨_, rfl, ?_⟩
  rw [hF, e6]
  by_cases h0 : e.2.1 6 = 0
  · rw [h0]
    refine sp_111 _ _ _ ?_
    rw [if_pos (show ow 0 = -1 from rfl)]
    refine ⟨_, rfl, fin _ ?_⟩
    rw [bI_f]
    unfold inS
    rw [decide_eq_true_iff]
    exact fun z => z.1 h0
  · obtain ⟨n, hn⟩ : ∃ n, e.2.1 6 = n + 1 := ⟨e.2.1 6 - 1, by omega⟩
    have e1 : ow (e.2.1 6) = nI n := by rw [hn]; rfl
    rw [e1]
    refine f111 (by omega) ho hc hD hI ⟨_, rfl, fin _ ?_⟩
    unfold inS bI
    rw [hn, Nat.add_sub_cancel]
    by_cases h : (own = 0 ∨ own = n + 1) ∧ col < wd D n
    · rw [if_pos h, if_pos (decide_eq_true ⟨by omega, h⟩)]
    · rw [if_neg h, if_neg (by rw [decide_eq_true_iff]; exact fun z => h z.2)]
theorem c_48 {cs : List Op} {i : Nat} (hL : Len m) (hC : CD m cs) (hi : i < cs.length) (hk : (cs.getD i (0, 0, 0)).1 < 1000) (k : K (some (.int (bI ((cs.getD i (0, 0, 0)).1 = 3)))) m) : WP d 48 [.ref 17, .int (nI i)] m K := by
  have l1 : (m.A 18).length = 80 := hL.a (by decide) rfl
  obtain ⟨c1, c2, c3⟩ := hC
  have e1 := (c3 i hi).1
  refine sp_48 _ ?_
  rw [if_neg (by rw [nIlt (by omega) (by omega)]; omega), if_neg (by rw [c1, nIle (by omega) (by omega)]; omega), l1, ix_nI (by omega), e1]
  refine ⟨ok_nI (by omega) (by decide), ?_⟩
  by_cases h : (cs.getD i (0, 0, 0)).1 = 3
  · rw [if_pos (by rw [h])]; rw [bI_t h] at k; exact k
  · rw [if_neg (by rw [nIeq (by omega) (by omega)]; exact h)]; rw [bI_f h] at k; exact k
theorem getD_in {α : Type} {l : List α} {i : Nat} {z : α} (h : i < l.length) : l.getD i z ∈ l := by
  rw [List.getD_eq_getElem?_getD, List.getElem?_eq_getElem h]
  exact List.getElem_mem h
theorem lp_109 (hW : okc e.1.2.1) (hv : e.2.1 4 < 1000) (h5 : e.2.1 5 < 3) (h6 : e.2.1 6 ≤ 3) (hI : DI D) : ∀ (n i : Nat) (m : Mm), i + n = e.1.2.1.length → Len m → SR m e.2 → CD m e.1.2.1 → DC m D → (∀ j, j < i → okSb D e (e.1.2.1.getD j (0, 0, 0)) = true ∧ ((e.1.2.1.getD j (0, 0, 0)).1 = 3 → (m.A 21).getD j 0 = nI ((sdO D e (e.1.2.1.getD j (0, 0, 0)).2.2 (e.1.2.1.getD j (0, 0, 0)).2.1).getD 0))) → (e.1.2.1.all (okSb D e) = true → ∀ m', Fr [21] m m' → (∀ j, j < e.1.2.1.length → (e.1.2.1.getD j (0, 0, 0)).1 = 3 → (m'.A 21).getD j 0 = nI ((sdO D e (e.1.2.1.getD j (0, 0, 0)).2.2 (e.1.2.1.getD j (0, 0, 0)).2.1).getD 0)) → K (some (.int (nI 1))) m') → (e.1.2.1.all (okSb D e) = false → ∀ m', Fr [21] m m' → K (some (.int (nI 0))) m') → WH (d + 3) 109 2 [(0, .ref 29), (1, .int (nI i))] [] m K := by
  intro n
  induction n with
  | zero =>
    intro i m hi hL hS hC hD hj k1 k2
    have hn := hC.2.1
    refine sg_109_2 _ ?_
    rw [if_pos (by rw [hC.1, nIle (by omega) (by omega)]; omega)]
    refine k1 ?_ m (Fr.refl _ m) (fun j hjl h3 => (hj j (by omega)).2 h3)
    rw [List.all_eq_true]
    intro x hx
    obtain ⟨j, hjl, ej⟩ := List.mem_iff_getElem.mp hx
    have := (hj j (by omega)).1
    rw [List.getD_eq_getElem?_getD, List.getElem?_eq_getElem hjl] at this
    rw [← ej]; exact this
  | succ n ih =>
    intro i m hi hL hS hC hD hj k1 k2
    have hn := hC.2.1
    have hx := hW (e.1.2.1.getD i (0, 0, 0)) (getD_in (by omega))
    have hxm : e.1.2.1.getD i (0, 0, 0) ∈ e.1.2.1 := getD_in (by omega)
    refine sg_109_2 _ ?_
    rw [if_neg (by rw [hC.1, nIle (by omega) (by omega)]; omega)]
    refine c_48 hL hC (by omega) hx.1 ⟨_, rfl, ?_⟩
    have bad : okSb D e (e.1.2.1.getD i (0, 0, 0)) = false → e.1.2.1.all (okSb D e) = false := by
      intro h
      cases hz : e.1.2.1.all (okSb D e) with
      | false => rfl
      | true =>
        have := List.all_eq_true.mp hz _ hxm
        rw [h] at this; cases this
    by_cases h3 : (e.1.2.1.getD i (0, 0, 0)).1 = 3
    · rw [bI_t h3, if_neg (by decide)]
      have e4 : m.F 12 4 = nI (e.2.1 4) := hS.1 4 rfl
      rw [e4]
      by_cases hv6 : e.2.1 4 = 6
      · rw [if_pos (by rw [hv6])]
        refine k2 (bad ?_) m (Fr.refl _ m)
        unfold okSb
        rw [h3, hv6]; rfl
      · rw [if_neg (by rw [nIeq (by omega) (by omega)]; exact hv6)]
        have l1 : (m.A 20).length = 80 := hL.a (by decide) rfl
        have l2 : (m.A 19).length = 80 := hL.a (by decide) rfl
        have l3 : (m.A 21).length = 80 := hL.a (by decide) rfl
        obtain ⟨c1, c2, c3⟩ := hC
        obtain ⟨x1, x2, x3⟩ := c3 i (by omega)
        have ho : ok 80 (nI i) := ok_nI (by omega) (by decide)
        rw [l1, l2, ix_nI (by omega), x2, x3]
        refine ⟨ho, ho, c_110 hS h5 h6 (hx.2.1 h3).2 (hx.2.1 h3).1 hD hI ⟨_, rfl, ?_⟩⟩
        cases hs : sdO D e (e.1.2.1.getD i (0, 0, 0)).2.2 (e.1.2.1.getD i (0, 0, 0)).2.1 with
        | none =>
          dsimp only
          rw [if_pos rfl]
          refine k2 (bad ?_) m (Fr.refl _ m)
          unfold okSb
          rw [hs, h3]
          simp
        | some sd =>
          dsimp only
          have hsd : sd = 0 ∨ sd = 1 := by
            unfold sdO at hs
            split at hs
            · cases hs
            · split at hs
              · cases hs; exact Or.inl rfl
              · cases hs; exact Or.inr rfl
          rw [if_neg (by rw [m1_eq (by omega)]; exact id), l3, nI_add]
          refine ⟨ho, ?_⟩
          have f1 : Fr [21] m (m.uA 21 ((m.A 21).set i (nI sd))) := by
            refine Fr.uA (Fr.refl _ m) (by decide) ?_
            rw [List.length_set]
          refine ih (i + 1) _ (by omega) (hL.fr f1) (hS.fr f1 (by decide) (F12.fr f1 (by decide))) ?_ (hD.fr f1 (by decide)) (fun j hj2 => ?_) (fun ha m' f2 => k1 ha m' (f1.trans f2)) (fun ha m' f2 => k2 ha m' (f1.trans f2))
          · exact ⟨c1, c2, c3⟩
          · show _ ∧ (_ → ((m.A 21).set i (nI sd)).getD j 0 = _)
            rw [getD_set _ _ _ _ _ (by omega)]
            by_cases hji : j = i
            · subst hji
              rw [if_pos rfl]
              refine ⟨?_, fun _ => by rw [hs]; rfl⟩
              unfold okSb
              rw [hs]
              simp [hv6]
            · rw [if_neg hji]; exact hj j (by omega)
    · rw [bI_f h3, if_pos rfl, nI_add]
      refine ih (i + 1) m (by omega) hL hS hC hD (fun j hj2 => ?_) k1 k2
      by_cases hji : j = i
      · subst hji
        refine ⟨?_, fun z => absurd z h3⟩
        unfold okSb
        rw [decide_eq_true h3]; rfl
      · exact hj j (by omega)
theorem getD_map {α β : Type} (f : α → β) (l : List α) (i : Nat) (z : α) (y : β) (h : i < l.length) : (l.map f).getD i y = f (l.getD i z) := by
  rw [List.getD_eq_getElem?_getD, List.getElem?_map, List.getD_eq_getElem?_getD, List.getElem?_eq_getElem h]; rfl
theorem ow_ne {a b : Nat} (ha : a ≤ 3) (hb : b < 3) : (ow a = nI b) = (a = b + 1) := by
  cases a with
  | zero => exact propext ⟨fun z => absurd z (by rw [show ow 0 = -1 from rfl, eq_m1 (by omega)]; exact id), fun z => by omega⟩
  | succ n =>
    show (nI n = nI b) = _
    rw [nIeq (by omega) (by omega)]
    exact propext ⟨fun z => by omega, fun z => by omega⟩
theorem c_106 (hR : R4 m N e) (hWF : WF e) (hV : VF e (e.2.1 4)) (hD : DC m D) (hI : DI D) (k : ∀ m', Fr [21] m m' → (fault D e = 0 ∨ fault D e = 3 → CE m' (e.1.2.1.map (rsv D e))) → K (some (.int (nI (fault D e)))) m') : WP (d + 4) 106 [.ref 29] m K := by
  obtain ⟨⟨hL, hT, hC, hP, _, _⟩, hS, hlN⟩ := hR
  have h5 := hWF.2.2.2.2.2.2.2.2.1
  have h6 := hWF.2.2.2.2.2.2.2.2.2.1
  have h7 := hWF.2.2.2.2.2.2.2.2.2.2.1
  have h8 := hWF.2.2.2.2.2.2.2.2.2.2.2.1
  have hv : e.2.1 4 < 10 := by have := hV.2.1; omega
  have e4 : m.F 12 4 = nI (e.2.1 4) := hS.1 4 rfl
  have e5 : m.F 12 5 = nI (e.2.1 5) := hS.1 5 rfl
  have e6 : m.F 12 6 = ow (e.2.1 6) := hS.1 6 rfl
  have e7 : m.F 12 7 = nI (e.2.1 7) := hS.1 7 rfl
  have e8 : m.F 12 8 = nI (e.2.1 8) := hS.1 8 rfl
  have tb5 := tbl_ix h5
  have k0 : fault D e = 2 → K (some (.int (nI 2))) m := by
    intro hf
    have := k m (Fr.refl _ m) (fun z => by omega)
    rw [hf] at this; exact this
  have hcn : e.1.2.1.length ≤ 80 := hC.2.1
  have hln := hS.2.1
  refine sp_106 ?_
  -- the tables
  have T : WP (d + 3) 107 [.ref 29] m (fun v m1 => v = some (.int (bI (tfit D e = true))) ∧ m1 = m) := by
    refine sp_107 ⟨3 + 3 * e.2.1 5, by rw [e5]; exact tb5.1, tb5.2, c_26 h5 hD hI ⟨_, rfl, ?_⟩⟩
    rw [e4, e5, e6]
    unfold tfit
    by_cases hv4 : e.2.1 4 = 4
    · rw [if_pos (by rw [hv4]), if_pos hv4]
      by_cases h0 : wd D (e.2.1 5) = 0
      · rw [bI_f (by omega), if_pos rfl, bI_t (decide_eq_true h0)]; exact ⟨rfl, rfl⟩
      · rw [bI_t (by omega), if_neg (by decide), bI_f (by rw [decide_eq_true_iff]; exact h0)]; exact ⟨rfl, rfl⟩
    · rw [if_neg (by rw [nIeq (by omega) (by omega)]; exact hv4), if_neg hv4]
      by_cases hz : e.2.1 6 = 0
      · rw [if_pos (by rw [hz]; rfl)]
        refine ⟨bI_B, ?_, rfl⟩
        by_cases h0 : 0 < wd D (e.2.1 5)
        · rw [bI_t h0, bI_t (decide_eq_true ⟨h0, Or.inl hz⟩)]
        · rw [bI_f h0, bI_f (by rw [decide_eq_true_iff]; exact fun z => h0 z.1)]
      · obtain ⟨n, hn⟩ : ∃ n, e.2.1 6 = n + 1 := ⟨e.2.1 6 - 1, by omega⟩
        have e1 : ow (e.2.1 6) = nI n := by rw [hn]; rfl
        rw [e1, if_neg (by rw [m1_eq (by omega)]; exact id)]
        by_cases h0 : 0 < wd D (e.2.1 5)
        · rw [bI_t h0, if_neg (by decide)]
          by_cases hnn : n = e.2.1 5
          · rw [if_pos (by rw [hnn]), bI_f (by rw [decide_eq_true_iff]; intro z; rcases z.2 with y | y; exact hz y; omega)]
            exact ⟨rfl, rfl⟩
          · rw [if_neg (by rw [nIeq (by omega) (by omega)]; exact hnn)]
            have tbn := tbl_ix (show n < 3 by omega)
            refine ⟨3 + 3 * n, tbn.1, tbn.2, c_26 (by omega) hD hI ⟨_, rfl, ?_⟩⟩
            by_cases hw : 0 < wd D n
            · rw [bI_t hw, if_neg (by decide), bI_t (decide_eq_true ⟨h0, Or.inr ⟨by omega, by rw [hn]; exact hw⟩⟩)]
              exact ⟨rfl, rfl⟩
            · rw [bI_f hw, if_pos rfl, bI_f (by
                rw [decide_eq_true_iff]
                intro z
                rcases z.2 with y | y
                · exact hz y
                · rw [hn] at y; exact hw y.2)]
              exact ⟨rfl, rfl⟩
        · rw [bI_f h0, if_pos rfl, bI_f (by rw [decide_eq_true_iff]; exact fun z => h0 z.1)]
          exact ⟨rfl, rfl⟩
  refine T.mono (fun v m1 hm => ?_)
  obtain ⟨rfl, rfl⟩ := hm
  refine ⟨_, rfl, ?_⟩
  by_cases ht : tfit D e = true
  · rw [bI_t ht, if_neg (by decide)]
    have Cc : WP (d + 3) 108 [.ref 29] m1 (fun v m2 => v = some (.int (bI (cfit D e = true))) ∧ m2 = m1) := by
      refine sp_108 ⟨3 + 3 * e.2.1 5, by rw [e5]; exact tb5.1, tb5.2, ?_⟩
      rw [e4, e7]
      unfold cfit
      by_cases hv5 : e.2.1 4 = 5
      · rw [if_pos (by rw [hv5]), if_pos hv5]
        by_cases h0 : 0 < e.2.1 7
        · rw [if_neg (by rw [nIle (by omega) (by omega)]; omega)]
          refine c_27 h5 (by omega) hD hI ⟨_, rfl, ?_⟩
          by_cases hw : e.2.1 7 < wd D (e.2.1 5)
          · rw [bI_t hw, if_neg (by decide), e7]
            refine c_28 h5 h7 hL hD hI ⟨_, rfl, ?_⟩
            cases hix : ixd D (e.2.1 5) (e.2.1 7) with
            | true => rw [bI_t rfl, if_neg (by decide), bI_f (by rw [decide_eq_true_iff]; exact fun z => by cases z.2.2)]; exact ⟨rfl, rfl⟩
            | false => rw [bI_f (by decide), if_pos rfl, bI_t (decide_eq_true ⟨h0, hw, rfl⟩)]; exact ⟨rfl, rfl⟩
          · rw [bI_f hw, if_pos rfl, bI_f (by rw [decide_eq_true_iff]; exact fun z => hw z.2.1)]; exact ⟨rfl, rfl⟩
        · rw [if_pos (by rw [nIle (by omega) (by omega)]; omega), bI_f (by rw [decide_eq_true_iff]; exact fun z => h0 z.1)]
          exact ⟨rfl, rfl⟩
      · rw [if_neg (by rw [nIeq (by omega) (by omega)]; exact hv5), if_neg hv5]
        by_cases hv7 : e.2.1 4 = 7
        · rw [if_pos (by rw [hv7]), if_pos hv7]
          refine c_27 h5 (by omega) hD hI ⟨_, rfl, bI_B, ?_, rfl⟩
          by_cases hw : e.2.1 7 < wd D (e.2.1 5)
          · rw [bI_t hw, bI_t (decide_eq_true hw)]
          · rw [bI_f hw, bI_f (by rw [decide_eq_true_iff]; exact hw)]
        · rw [if_neg (by rw [nIeq (by omega) (by omega)]; exact hv7), if_neg hv7, bI_t rfl]
          exact ⟨rfl, rfl⟩
    refine Cc.mono (fun v m2 hm => ?_)
    obtain ⟨rfl, rfl⟩ := hm
    refine ⟨_, rfl, ?_⟩
    by_cases hc : cfit D e = true
    · rw [bI_t hc, if_neg (by decide)]
      refine sp_109 ?_
      refine lp_109 hWF.1 (by omega) h5 h6 hI e.1.2.1.length 0 m2 (by omega) hL hS hC hD (fun j hj => by omega) (fun ha m3 f3 h21 => ⟨_, rfl, ?_⟩) (fun ha m3 f3 => ⟨_, rfl, ?_⟩)
      · rw [if_neg (by decide)]
        have hS3 : SR m3 e.2 := hS.fr f3 (by decide) (F12.fr f3 (by decide))
        have hC3 : CD m3 e.1.2.1 := hC.fr f3 (by decide) (by decide) (by decide) (by decide)
        have hCE : CE m3 (e.1.2.1.map (rsv D e)) := by
          refine ⟨by rw [List.length_map]; exact hC3.1, by rw [List.length_map]; exact hcn, fun i hi => ?_⟩
          rw [List.length_map] at hi
          rw [getD_map (rsv D e) e.1.2.1 i (0, 0, 0) (0, 0, 0) hi]
          obtain ⟨x1, x2, x3⟩ := hC3.2.2 i hi
          have hx := hWF.1 (e.1.2.1.getD i (0, 0, 0)) (getD_in hi)
          unfold rsv
          by_cases h3 : (e.1.2.1.getD i (0, 0, 0)).1 = 3
          · rw [if_pos h3]
            refine ⟨?_, by show 3 < 1000; decide, x2, fun _ => h21 i hi h3⟩
            rw [x1, h3]
          · rw [if_neg h3]
            exact ⟨x1, hx.1, x2, fun z => absurd z h3⟩
        have e43 : m3.F 12 4 = nI (e.2.1 4) := hS3.1 4 rfl
        have e53 : m3.F 12 5 = nI (e.2.1 5) := hS3.1 5 rfl
        have e83 : m3.F 12 8 = nI (e.2.1 8) := hS3.1 8 rfl
        have e93 : m3.F 12 9 = nI e.2.2.length := hS3.2.1
        have hll : e.2.2.length ≤ 80 := by
          have h1 := hT.2.2.2.1
          have h2 := hT.1
          omega
        have fin : ∀ b : Bool, nfit D e = b → (if bI (b = true) = (nI 0) then K (some (.int (nI 3))) m3 else K (some (.int (nI 0))) m3) := by
          intro b hb
          cases b with
          | true =>
            have hf : fault D e = 0 := by unfold fault; rw [if_pos ⟨ht, hc, ha⟩, if_pos hb]
            rw [bI_t rfl, if_neg (by decide)]
            have := k m3 f3 (fun _ => hCE)
            rw [hf] at this; exact this
          | false =>
            have hf : fault D e = 3 := by unfold fault; rw [if_pos ⟨ht, hc, ha⟩, if_neg (by rw [hb]; decide)]
            rw [bI_f (by decide), if_pos rfl]
            have := k m3 f3 (fun _ => hCE)
            rw [hf] at this; exact this
        refine sp_112 ?_
        rw [e43, e83, e93]
        by_cases hv4 : e.2.1 4 = 4
        · rw [if_pos (by rw [hv4])]
          have hnf : nfit D e = decide (1 ≤ e.2.1 8 ∧ e.2.1 8 ≤ 4) := by unfold nfit; rw [if_pos hv4]
          by_cases h1 : e.2.1 8 < 1
          · rw [if_pos (by rw [nIlt (by omega) (by omega)]; exact h1)]
            exact ⟨_, rfl, fin false (by rw [hnf, decide_eq_false_iff_not]; omega)⟩
          · rw [if_neg (by rw [nIlt (by omega) (by omega)]; exact h1)]
            by_cases h2 : 4 < e.2.1 8
            · rw [if_pos (by rw [nIlt (by omega) (by omega)]; exact h2)]
              exact ⟨_, rfl, fin false (by rw [hnf, decide_eq_false_iff_not]; omega)⟩
            · rw [if_neg (by rw [nIlt (by omega) (by omega)]; exact h2)]
              exact ⟨_, rfl, fin true (by rw [hnf, decide_eq_true_iff]; omega)⟩
        · rw [if_neg (by rw [nIeq (by omega) (by omega)]; exact hv4)]
          by_cases hv6 : e.2.1 4 = 6
          · rw [if_pos (by rw [hv6])]
            have hnf : nfit D e = decide (e.2.2.length = wd D (e.2.1 5)) := by unfold nfit; rw [if_neg hv4, if_pos hv6]
            refine ⟨3 + 3 * e.2.1 5, by rw [e53]; exact tb5.1, tb5.2, ?_⟩
            have hD3 := (hD.fr f3 (by decide)) (e.2.1 5) h5
            have hw4 := (hI (e.2.1 5) h5).1
            rw [hD3.1]
            by_cases hq : e.2.2.length = wd D (e.2.1 5)
            · rw [if_pos (by rw [hq])]
              exact ⟨_, rfl, fin true (by rw [hnf, decide_eq_true_iff]; exact hq)⟩
            · rw [if_neg (by rw [nIeq (by omega) (by omega)]; exact hq)]
              exact ⟨_, rfl, fin false (by rw [hnf, decide_eq_false_iff_not]; exact hq)⟩
          · rw [if_neg (by rw [nIeq (by omega) (by omega)]; exact hv6)]
            exact ⟨_, rfl, fin true (by unfold nfit; rw [if_neg hv4, if_neg hv6])⟩
      · rw [if_pos rfl]
        have hf : fault D e = 2 := by
          unfold fault
          rw [if_neg (fun z => by rw [ha] at z; cases z.2.2)]
        have := k m3 f3 (fun z => by omega)
        rw [hf] at this; exact this
    · rw [bI_f hc, if_pos rfl]
      refine k0 ?_
      unfold fault
      rw [if_neg (fun z => hc z.2.1)]
  · rw [bI_f ht, if_pos rfl]
    refine k0 ?_
    unfold fault
    rw [if_neg (fun z => ht z.1)]
end N69
