/-! insert: class and reference -/
theorem seg_map (f : Op → Op) (cs : List Op) (a b : Nat) : seg (cs.map f) a b = (seg cs a b).map f := by
  unfold seg
  rw [← List.map_drop, ← List.map_take]
theorem rsv_1 (D : Db) (e : St) (x : Op) : (rsv D e x).1 = x.1 := by
  unfold rsv
  by_cases h : x.1 = 3
  · rw [if_pos h, h]
  · rw [if_neg h]
theorem tys_map (D : Db) (e : St) : ∀ (c : List Op) (T : List Bool), tys (c.map (rsv D e)) T = tys c T
  | [], T => rfl
  | x :: c, T => by
    show (match ty1 (rsv D e x).1 T with | some T' => tys (c.map (rsv D e)) T' | none => none) = (match ty1 x.1 T with | some T' => tys c T' | none => none)
    rw [rsv_1]
    cases ty1 x.1 T with
    | none => rfl
    | some T' => exact tys_map D e c T'
theorem tyC_map {D : Db} {e : St} {b : Bool} {c : List Op} (h : tyC b c) : tyC b (c.map (rsv D e)) := fun T => by rw [tys_map]; exact h T
/-- the resolved steps -/
def rs_ (D : Db) (e : St) : List Op := e.1.2.1.map (rsv D e)
def env0 : Evr := fun _ _ => NUL
def vI (D : Db) (e : St) (i : Nat) : Int64 := val env0 (seg (rs_ D e) (tmF e.2 i) (e.2.2.getD i 0))
def vR (D : Db) (e : St) : List Int64 := (List.range (wd D (e.2.1 5))).map (vI D e)
def insC (D : Db) (e : St) : Nat := if vI D e 0 = NUL ∨ 0 < cntR (rw_ D (e.2.1 5)) 0 (vI D e 0) then 4 else if 20 ≤ (rw_ D (e.2.1 5)).length then 5 else 0
theorem vR_len (D : Db) (e : St) : (vR D e).length = wd D (e.2.1 5) := by unfold vR; rw [List.length_map, List.length_range]
theorem vR_get {D : Db} {e : St} {c : Nat} (h : c < wd D (e.2.1 5)) : (vR D e).getD c 0 = vI D e c := by
  unfold vR
  have e1 : (List.range (wd D (e.2.1 5))).getD c 0 = c := by rw [List.getD_eq_getElem?_getD, List.getElem?_range h]; rfl
  rw [getD_map _ _ c 0 0 (by rw [List.length_range]; exact h), e1]
theorem flt0 {D : Db} {e : St} (h : fault D e = 0) : tfit D e = true ∧ cfit D e = true ∧ e.1.2.1.all (okSb D e) = true ∧ nfit D e = true := by
  unfold fault at h
  split at h
  · next hh =>
    split at h
    · next hn => exact ⟨hh.1, hh.2.1, hh.2.2, hn⟩
    · cases h
  · cases h
theorem seg_mem {cs : List Op} {a b : Nat} {x : Op} (h : x ∈ seg cs a b) : x ∈ cs := List.mem_of_mem_drop (List.mem_of_mem_take h)
section I74
variable {d N : Nat} {m m0 m1 : Mm} {K : Option Value → Mm → Prop} {D : Db} {e : St} {P : Nat → List (List Int64)} {nm : Nat}
theorem noCol (hv : e.2.1 4 = 6) (ha : e.1.2.1.all (okSb D e) = true) : ∀ x, x ∈ rs_ D e → x.1 ≠ 3 := by
  intro x hx
  obtain ⟨y, hy, rfl⟩ := List.mem_map.mp hx
  rw [rsv_1]
  intro h3
  have := List.all_eq_true.mp ha y hy
  unfold okSb at this
  rw [h3, hv] at this
  simp at this
theorem itemT (hWF : WF e) {i : Nat} (hi : i < e.2.2.length) : tmF e.2 i ≤ e.2.2.getD i 0 ∧ e.2.2.getD i 0 ≤ (rs_ D e).length ∧ tyC false (seg (rs_ D e) (tmF e.2 i) (e.2.2.getD i 0)) := by
  obtain ⟨a, b, c⟩ := hWF.2.1 i hi
  refine ⟨by omega, by unfold rs_; rw [List.length_map]; exact b, ?_⟩
  unfold rs_
  rw [seg_map]
  exact tyC_map c
theorem lp_20 (hWF : WF e) (hv6 : e.2.1 4 = 6) (hf : fault D e = 0) (hI : DI D) (hl : 0 < e.2.2.length) (k : ∀ m', Len m' → (∀ c, c < wd D (e.2.1 5) → (m'.B 41).getD c 0 = vI D e c) → Fr [22, 41] m m' → DC m' D → (insC D e = 4 → K (some (.int (nI 4))) m') ∧ (insC D e = 5 → K (some (.int (nI 5))) m') ∧ (insC D e = 0 → WP (d + 3) 33 [.ref (3 + 3 * e.2.1 5), .ref 41] m' (fun v m9 => v = none ∧ K (some (.int (nI 0))) (m9.uF 0 11 (nI 1))))) : ∀ (n i : Nat) (m1 : Mm), i + n = wd D (e.2.1 5) → Len m1 → SR m1 e.2 → CE m1 (rs_ D e) → DC m1 D → (∀ c, c < i → (m1.B 41).getD c 0 = vI D e c) → Fr [22, 41] m m1 → WH (d + 4) 20 2 [(0, .ref 0), (1, .ref (3 + 3 * e.2.1 5)), (2, .int (nI i))] [] m1 K := by
  obtain ⟨f1, f2, f3, f4⟩ := flt0 hf
  have h5 := hWF.2.2.2.2.2.2.2.2.1
  have hw4 := (hI _ h5).1
  have hln : e.2.2.length = wd D (e.2.1 5) := by
    unfold nfit at f4
    rw [if_neg (by omega), if_pos hv6, decide_eq_true_iff] at f4
    exact f4
  have hr := tbl_t h5
  have nc := noCol hv6 f3
  intro n
  induction n with
  | zero =>
    intro i m1 hi hL hS hC hD hB f
    have l1 : (m1.B 41).length = 20 := hL.b (by decide) rfl
    have hk := k m1 hL (fun c hc => hB c (by omega)) f hD
    have b0 := hB 0 (by omega)
    refine sg_20_2 _ _ hr ?_
    rw [if_pos (by rw [hS.2.1, nIle (by omega) (by omega)]; omega), l1, ix_nI (by decide), b0]
    refine ⟨ok_nI (by decide) (by decide), ?_⟩
    by_cases hn : vI D e 0 = NUL
    · rw [if_pos ((lg_nul _).mpr hn)]
      exact hk.1 (by unfold insC; rw [if_pos (Or.inl hn)])
    · rw [if_neg (fun z => hn ((lg_nul _).mp z))]
      refine ⟨ok_nI (by decide) (by decide), c_30 h5 hL hD hI (by omega) ⟨_, rfl, ?_⟩⟩
      have hc20 : cntR (rw_ D (e.2.1 5)) 0 (vI D e 0) ≤ 20 := by
        have := List.countP_le_length (p := fun x : List Int64 => decide (x.getD 0 0 = vI D e 0)) (l := rw_ D (e.2.1 5))
        have := (hI _ h5).2.1
        unfold cntR; omega
      by_cases hc : 0 < cntR (rw_ D (e.2.1 5)) 0 (vI D e 0)
      · rw [if_neg (by rw [nIle (by omega) (by omega)]; omega)]
        exact hk.1 (by unfold insC; rw [if_pos (Or.inr hc)])
      · rw [if_pos (by rw [nIle (by omega) (by omega)]; omega)]
        have h20 := (hI _ h5).2.1
        rw [(hD _ h5).2.1]
        have hno : ¬ (vI D e 0 = NUL ∨ 0 < cntR (rw_ D (e.2.1 5)) 0 (vI D e 0)) := fun z => by rcases z with z | z; exact hn z; exact hc z
        by_cases hr20 : (rw_ D (e.2.1 5)).length < 20
        · rw [if_pos (by rw [nIlt (by omega) (by omega)]; exact hr20)]
          exact hk.2.2 (by unfold insC; rw [if_neg hno, if_neg (by omega)])
        · rw [if_neg (by rw [nIlt (by omega) (by omega)]; exact hr20)]
          exact hk.2.1 (by unfold insC; rw [if_neg hno, if_pos (by omega)])
  | succ n ih =>
    intro i m1 hi hL hS hC hD hB f
    have hit := itemT (D := D) hWF (show i < e.2.2.length by omega)
    have hln80 : e.2.2.length ≤ 80 := by omega
    refine sg_20_2 _ _ hr ?_
    rw [if_neg (by rw [hS.2.1, nIle (by omega) (by omega)]; omega), if_neg (by rw [nIle (by omega) (by omega)]; omega)]
    refine c_61 hL hS (by omega) hln80 ⟨_, rfl, ?_⟩
    refine c_62 hL hS (by omega) hln80 ⟨_, rfl, ?_⟩
    refine c_51 (env := env0) hL hC rfl hit.1 hit.2.1 (fun x hx h3 => absurd h3 (nc x (seg_mem hx))) hit.2.2 (fun m2 f2 => ⟨_, rfl, ?_⟩)
    have l1 : (m2.B 41).length = 20 := (hL.fr f2).b (by decide) rfl
    rw [l1, ix_nI (by omega), nI_add]
    refine ⟨ok_nI (by omega) (by decide), ?_⟩
    have f3' : Fr [22, 41] m1 (m2.uB 41 ((m2.B 41).set i (val env0 (seg (rs_ D e) (tmF e.2 i) (e.2.2.getD i 0))))) := by
      refine Fr.uB (f2.mono (by decide)) (by decide) ?_
      rw [List.length_set]
    refine ih (i + 1) _ (by omega) (hL.fr f3') (hS.fr f3' (by decide) (F12.fr f3' (by decide))) (hC.fr f3' (by decide) (by decide) (by decide) (by decide)) (hD.fr f3' (by decide)) (fun c hc => ?_) (f.trans f3')
    show ((m2.uB 41 ((m2.B 41).set i (val env0 (seg (rs_ D e) (tmF e.2 i) (e.2.2.getD i 0))))).B 41).getD c 0 = _
    rw [mB_B, if_pos rfl, getD_set _ _ _ _ _ (by omega)]
    by_cases hci : c = i
    · rw [if_pos hci, hci]; rfl
    · rw [if_neg hci, f2.b (by decide)]; exact hB c (by omega)
/-- the rows behind an insert -/
def insD (D : Db) (e : St) : Db := updD D (e.2.1 5) (insK (vR D e) (rw_ D (e.2.1 5)))
theorem c_20 (hWF : WF e) (hV : VF e (e.2.1 4)) (hv6 : e.2.1 4 = 6) (hf : fault D e = 0) (hI : DI D) (hL : Len m) (hS : SR m e.2) (hC : CE m (rs_ D e)) (hD : DC m D) (k : ∀ m', Fr [0, 3, 4, 6, 7, 9, 10, 22, 41] m m' → (∀ f, f ≠ 11 → m'.F 0 f = m.F 0 f) → m'.F 0 11 = (if insC D e = 0 then nI 1 else m.F 0 11) → DC m' (if insC D e = 0 then insD D e else D) → K (some (.int (nI (insC D e)))) m') : WP (d + 4) 20 [.ref 0, .ref (3 + 3 * e.2.1 5)] m K := by
  have h5 := hWF.2.2.2.2.2.2.2.2.1
  have hl := (hV.2.2.2.2.1 hv6).1
  have hw4 := (hI _ h5).1
  have hln : e.2.2.length = wd D (e.2.1 5) := by
    have f4 := (flt0 hf).2.2.2
    unfold nfit at f4
    rw [if_neg (by omega), if_pos hv6, decide_eq_true_iff] at f4
    exact f4
  refine sp_20 _ (tbl_t h5) ?_
  refine lp_20 (m := m) hWF hv6 hf hI hl (fun m1 hL1 hB f1 hD1 => ⟨fun hc => ?_, fun hc => ?_, fun hc => ?_⟩) (wd D (e.2.1 5)) 0 m (by omega) hL hS hC hD (fun c hc => by omega) (Fr.refl _ m)
  · have := k m1 (f1.mono (by decide)) (fun f _ => f1.f (by decide) f)
    rw [hc, if_neg (by decide), if_neg (by decide)] at this
    exact this (f1.f (by decide) 11) hD1
  · have := k m1 (f1.mono (by decide)) (fun f _ => f1.f (by decide) f)
    rw [hc, if_neg (by decide), if_neg (by decide)] at this
    exact this (f1.f (by decide) 11) hD1
  · have h20 : (rw_ D (e.2.1 5)).length < 20 := by
      unfold insC at hc
      split at hc
      · cases hc
      · split at hc
        · cases hc
        · omega
    refine c_33 h5 hL1 hD1 hI (by omega) h20 (vR_len D e) (fun c hcw => by rw [hB c hcw, vR_get hcw]) (fun m2 hD2 f2 => ⟨rfl, ?_⟩)
    have f3 : Fr [0, 3, 4, 6, 7, 9, 10, 22, 41] m1 m2 := f2.mono (fun c hcm => by
      have : c = 3 + 3 * e.2.1 5 ∨ c = 3 + 3 * e.2.1 5 + 1 := by simpa using hcm
      rcases (by omega : e.2.1 5 = 0 ∨ e.2.1 5 = 1 ∨ e.2.1 5 = 2) with z | z | z <;> rw [z] at this <;> rcases this with rfl | rfl <;> decide)
    have f4 : Fr [0, 3, 4, 6, 7, 9, 10, 22, 41] m (m2.uF 0 11 (nI 1)) := Fr.uF ((f1.mono (by decide)).trans f3) (by decide) _ _
    have n0 : 0 ∉ [3 + 3 * e.2.1 5, 3 + 3 * e.2.1 5 + 1] := by simp; omega
    have := k _ f4 (fun f hf => by rw [mF_F, if_neg (fun z => hf z.2), f2.f n0, f1.f (by decide)])
    rw [hc, if_pos rfl, if_pos rfl] at this
    refine this rfl ?_
    exact hD2.fr (Fr.uF (Fr.refl [0] m2) (by decide) _ _) (by decide)
end I74
