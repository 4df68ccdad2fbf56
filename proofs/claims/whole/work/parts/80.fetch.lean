/-! FETCHING: which rows a plan fetches; the reference's fetched() -/
def ftB (rs : List Op) (env : Evr) (a : Acs) (R : List (List Int64)) (i : Nat) : Bool := decide (a.1 = 1) || (decide (val env (seg rs a.2.2.1 a.2.2.2) ≠ NUL) && decide (cl_ R i a.2.1 = val env (seg rs a.2.2.1 a.2.2.2)))
theorem okPt_map {D : Db} {e : St} {p : Pt} (h : okPt e.1.2.1 p) : okPt (rs_ D e) p := by
  obtain ⟨h1, h2, h3, h4⟩ := h
  unfold rs_
  refine ⟨h1, by rw [List.length_map]; exact h2, ?_, fun hz => ?_⟩
  · rw [seg_map]; exact tyC_map h3
  · obtain ⟨c1, c2, e1, e2, t1, t2⟩ := h4 hz
    refine ⟨c1.map (rsv D e), c2.map (rsv D e), ?_, ?_, tyC_map t1, tyC_map t2⟩
    · rw [seg_map, e1, List.map_append, List.map_append]; rfl
    · rw [List.length_map]; exact e2
theorem pt_split {rs : List Op} {p : Pt} (h : okPt rs p) (h0 : p.2.1 ≠ 0) : p.1 < p.2.1 - 1 ∧ p.2.1 - 1 < p.2.2 - 1 ∧ p.2.2 ≤ rs.length ∧ tyC false (seg rs p.1 (p.2.1 - 1)) ∧ tyC false (seg rs (p.2.1 - 1) (p.2.2 - 1)) ∧ ∀ env, val env (seg rs p.1 p.2.2) = ev2 61 (val env (seg rs p.1 (p.2.1 - 1))) (val env (seg rs (p.2.1 - 1) (p.2.2 - 1))) := by
  obtain ⟨h1, h2, h3, h4⟩ := h
  obtain ⟨c1, c2, e1, e2, t1, t2⟩ := h4 h0
  have len : p.2.2 - p.1 = c1.length + c2.length + 1 := by
    have := congrArg List.length e1
    unfold seg at this
    rw [List.length_take, List.length_drop, List.length_append, List.length_append] at this
    simp at this
    omega
  have n1 : 0 < c1.length := by
    cases c1 with
    | nil => have := t1 []; cases this
    | cons x c => rw [List.length_cons]; omega
  have n2 : 0 < c2.length := by
    cases c2 with
    | nil => have := t2 []; cases this
    | cons x c => rw [List.length_cons]; omega
  have em : p.2.1 - 1 = p.1 + c1.length := by omega
  have hd : rs.drop p.1 = c1 ++ c2 ++ [opr 61] ++ rs.drop p.2.2 := by
    have := List.take_append_drop (p.2.2 - p.1) (rs.drop p.1)
    rw [List.drop_drop, show p.1 + (p.2.2 - p.1) = p.2.2 by omega] at this
    have e1' : List.take (p.2.2 - p.1) (List.drop p.1 rs) = c1 ++ c2 ++ [opr 61] := e1
    rw [e1'] at this
    exact this.symm
  have s1 : seg rs p.1 (p.2.1 - 1) = c1 := by
    unfold seg
    rw [hd, em, Nat.add_sub_cancel_left, List.append_assoc, List.append_assoc, List.take_left]
  have s2 : seg rs (p.2.1 - 1) (p.2.2 - 1) = c2 := by
    unfold seg
    rw [em, ← List.drop_drop, hd, List.append_assoc, List.append_assoc, List.drop_left, show p.2.2 - 1 - (p.1 + c1.length) = c2.length by omega, List.take_left]
  refine ⟨by omega, by omega, h2, by rw [s1]; exact t1, by rw [s2]; exact t2, fun env => ?_⟩
  rw [s1, s2, e1]
  exact val_bin t1 t2 rfl
theorem okPs_of {rs : List Op} {ps : List Pt} (h : ∀ p, p ∈ ps → okPt rs p) : okPs rs ps := by
  intro p hp
  have h1 := h p hp
  refine ⟨h1.1, h1.2.1, fun h0 => ?_⟩
  have h2 := pt_split h1 h0
  exact ⟨by omega, by omega, by omega, by omega⟩
/-- the plan told by the part it uses -/
theorem acs_us {D : Db} {t : Nat} {rs : List Op} {s bef : Nat} {ps : List Pt} : (acsS (fun c => ixd D t c) rs s bef ps).1 = kdR D t rs s bef ps ∧ (kdR D t rs s bef ps ≠ 1 → ∃ i okk, usR D t rs s bef ps = some i ∧ i < ps.length ∧ (ps.getD i (0, 0, 0)).2.1 ≠ 0 ∧ ((kdR D t rs s bef ps = 3 ∧ okk = okF D t 1) ∨ (kdR D t rs s bef ps = 2 ∧ okk = okF D t 0)) ∧ ((sdP okk rs s bef (ps.getD i (0, 0, 0)) = 0 ∧ lone rs (ps.getD i (0, 0, 0)).1 ((ps.getD i (0, 0, 0)).2.1 - 1) s = some (acsS (fun c => ixd D t c) rs s bef ps).2.1 ∧ (acsS (fun c => ixd D t c) rs s bef ps).2.2 = ((ps.getD i (0, 0, 0)).2.1 - 1, (ps.getD i (0, 0, 0)).2.2 - 1) ∧ mOK (seg rs ((ps.getD i (0, 0, 0)).2.1 - 1) ((ps.getD i (0, 0, 0)).2.2 - 1)) bef = true) ∨ (sdP okk rs s bef (ps.getD i (0, 0, 0)) = 1 ∧ lone rs ((ps.getD i (0, 0, 0)).2.1 - 1) ((ps.getD i (0, 0, 0)).2.2 - 1) s = some (acsS (fun c => ixd D t c) rs s bef ps).2.1 ∧ (acsS (fun c => ixd D t c) rs s bef ps).2.2 = ((ps.getD i (0, 0, 0)).1, (ps.getD i (0, 0, 0)).2.1 - 1) ∧ mOK (seg rs (ps.getD i (0, 0, 0)).1 ((ps.getD i (0, 0, 0)).2.1 - 1)) bef = true))) := by
  have e1 : okF D t 1 = isKey := rfl
  have e0 : okF D t 0 = fun c => ixd D t c := rfl
  have hK := fstP_I (ok := isKey) (rs := rs) (s := s) (bef := bef) ps
  have hI := fstP_I (ok := fun c => ixd D t c) (rs := rs) (s := s) (bef := bef) ps
  have main : ∀ (okk : Nat → Bool) (i : Nat) (kd : Nat) (x : Nat × Nat × Nat), fstP okk rs s bef ps = some x → fstI okk rs s bef ps = some i → fstP okk rs s bef ps = (match fstI okk rs s bef ps with | some i => fixP okk rs s bef (ps.getD i (0, 0, 0)) | none => none) → (i < ps.length ∧ (ps.getD i (0, 0, 0)).2.1 ≠ 0 ∧ sdP okk rs s bef (ps.getD i (0, 0, 0)) ≠ 2) → ((sdP okk rs s bef (ps.getD i (0, 0, 0)) = 0 ∧ lone rs (ps.getD i (0, 0, 0)).1 ((ps.getD i (0, 0, 0)).2.1 - 1) s = some x.1 ∧ x.2 = ((ps.getD i (0, 0, 0)).2.1 - 1, (ps.getD i (0, 0, 0)).2.2 - 1) ∧ mOK (seg rs ((ps.getD i (0, 0, 0)).2.1 - 1) ((ps.getD i (0, 0, 0)).2.2 - 1)) bef = true) ∨ (sdP okk rs s bef (ps.getD i (0, 0, 0)) = 1 ∧ lone rs ((ps.getD i (0, 0, 0)).2.1 - 1) ((ps.getD i (0, 0, 0)).2.2 - 1) s = some x.1 ∧ x.2 = ((ps.getD i (0, 0, 0)).1, (ps.getD i (0, 0, 0)).2.1 - 1) ∧ mOK (seg rs (ps.getD i (0, 0, 0)).1 ((ps.getD i (0, 0, 0)).2.1 - 1)) bef = true)) := by
    intro okk i kd x hx hi hPI hh
    rw [hi] at hPI
    dsimp only at hPI
    rw [hx, fixP_sd hh.2.1] at hPI
    have hs := sdP_some (ok := okk) (rs := rs) (s := s) (bef := bef) (p := ps.getD i (0, 0, 0))
    by_cases h0 : sdP okk rs s bef (ps.getD i (0, 0, 0)) = 0
    · rw [if_pos h0] at hPI
      obtain ⟨c, hc, _, hm⟩ := hs.1 h0
      rw [hc] at hPI
      have hPI : x = (c, (ps.getD i (0, 0, 0)).2.1 - 1, (ps.getD i (0, 0, 0)).2.2 - 1) := Option.some.inj hPI
      subst hPI
      exact Or.inl ⟨h0, hc, rfl, hm⟩
    · rw [if_neg h0] at hPI
      by_cases h1 : sdP okk rs s bef (ps.getD i (0, 0, 0)) = 1
      · rw [if_pos h1] at hPI
        obtain ⟨c, hc, _, hm⟩ := hs.2 h1
        rw [hc] at hPI
        have hPI : x = (c, (ps.getD i (0, 0, 0)).1, (ps.getD i (0, 0, 0)).2.1 - 1) := Option.some.inj hPI
        subst hPI
        exact Or.inr ⟨h1, hc, rfl, hm⟩
      · rw [if_neg h1] at hPI; cases hPI
  unfold acsS kdR usR
  cases hi : fstI isKey rs s bef ps with
  | some i =>
    have hx : ∃ x, fstP isKey rs s bef ps = some x := by
      cases hz : fstP isKey rs s bef ps with
      | some x => exact ⟨x, rfl⟩
      | none =>
        exfalso
        have h2 := hK.2 i hi
        have h1 := hK.1
        rw [hi, hz] at h1
        dsimp only at h1
        rw [fixP_sd h2.2.1] at h1
        have hs := sdP_some (ok := isKey) (rs := rs) (s := s) (bef := bef) (p := ps.getD i (0, 0, 0))
        by_cases h0 : sdP isKey rs s bef (ps.getD i (0, 0, 0)) = 0
        · rw [if_pos h0] at h1
          obtain ⟨c, hc, _⟩ := hs.1 h0
          rw [hc] at h1; cases h1
        · rw [if_neg h0] at h1
          by_cases h1' : sdP isKey rs s bef (ps.getD i (0, 0, 0)) = 1
          · rw [if_pos h1'] at h1
            obtain ⟨c, hc, _⟩ := hs.2 h1'
            rw [hc] at h1; cases h1
          · have : sdP isKey rs s bef (ps.getD i (0, 0, 0)) ≤ 2 := by
              unfold sdP
              split
              · decide
              · split <;> decide
            omega
    obtain ⟨x, hx⟩ := hx
    rw [hx]
    refine ⟨rfl, fun _ => ⟨i, okF D t 1, rfl, (hK.2 i hi).1, (hK.2 i hi).2.1, Or.inl ⟨rfl, rfl⟩, ?_⟩⟩
    rw [e1]
    exact main isKey i 3 x hx hi hK.1 (hK.2 i hi)
  | none =>
    have hx : fstP isKey rs s bef ps = none := by
      have := hK.1
      rw [hi] at this
      exact this
    rw [hx]
    dsimp only
    cases hi2 : fstI (fun c => ixd D t c) rs s bef ps with
    | none =>
      have hx2 : fstP (fun c => ixd D t c) rs s bef ps = none := by
        have := hI.1
        rw [hi2] at this
        exact this
      rw [hx2]
      exact ⟨rfl, fun z => absurd rfl z⟩
    | some i =>
      have hx2 : ∃ x, fstP (fun c => ixd D t c) rs s bef ps = some x := by
        cases hz : fstP (fun c => ixd D t c) rs s bef ps with
        | some x => exact ⟨x, rfl⟩
        | none =>
          exfalso
          have h2 := hI.2 i hi2
          have h1 := hI.1
          rw [hi2, hz] at h1
          dsimp only at h1
          rw [fixP_sd h2.2.1] at h1
          have hs := sdP_some (ok := fun c => ixd D t c) (rs := rs) (s := s) (bef := bef) (p := ps.getD i (0, 0, 0))
          by_cases h0 : sdP (fun c => ixd D t c) rs s bef (ps.getD i (0, 0, 0)) = 0
          · rw [if_pos h0] at h1
            obtain ⟨c, hc, _⟩ := hs.1 h0
            rw [hc] at h1; cases h1
          · rw [if_neg h0] at h1
            by_cases h1' : sdP (fun c => ixd D t c) rs s bef (ps.getD i (0, 0, 0)) = 1
            · rw [if_pos h1'] at h1
              obtain ⟨c, hc, _⟩ := hs.2 h1'
              rw [hc] at h1; cases h1
            · have : sdP (fun c => ixd D t c) rs s bef (ps.getD i (0, 0, 0)) ≤ 2 := by
                unfold sdP
                split
                · decide
                · split <;> decide
              omega
      obtain ⟨x, hx2⟩ := hx2
      rw [hx2]
      refine ⟨rfl, fun _ => ⟨i, okF D t 0, rfl, (hI.2 i hi2).1, (hI.2 i hi2).2.1, Or.inr ⟨rfl, rfl⟩, ?_⟩⟩
      rw [e0]
      exact main (fun c => ixd D t c) i 2 x hx2 hi2 hI.1 (hI.2 i hi2)
section F80
variable {d : Nat} {m m0 m1 : Mm} {K : Option Value → Mm → Prop} {rs : List Op} {D : Db} {s bef : Nat} {ps : List Pt} {f : Nat → Nat} {P : Nat → List (List Int64)} {env : Evr}
/-- the value sought, then the row's cell -/
theorem b_176 {x y t r c : Nat} (hQ : RQ m rs f D P ps) (ht : t < 3) (hr : r < (rw_ D t).length) (hr20 : (rw_ D t).length ≤ 20) (hc : c < wd D t) (hw4 : wd D t ≤ 4) (hxy : x ≤ y) (hy : y ≤ rs.length) (hty : tyC false (seg rs x y)) (hRV : RV m env f (seg rs x y)) (hE : EnvOk env (seg rs x y)) {col : Int32} (hcol : col = nI c) (k : ∀ m', Fq [] [61] m m' → K (some (.int (bI ((decide (val env (seg rs x y) ≠ NUL) && decide (cl_ (P t) r c = val env (seg rs x y))) = true)))) m') : WP (d + 1) 167 [.ref 42, .int (nI x), .int (nI y)] m (fun v m138 => ∃ w139, v = some (.long w139) ∧ (if (lg_cmp w139 1099511627776) = (nI 0) then WH (d + 2) 176 144 [] [] m138 K else ok (m138.B 58).length ((((nI 80) * (nI t)) + ((nI 4) * (nI r))) + col) ∧ (if (lg_cmp ((m138.B 58).getD (ix ((((nI 80) * (nI t)) + ((nI 4) * (nI r))) + col)) 0) w139) = (nI 0) then K (some (.int (nI 1))) m138 else WH (d + 2) 176 144 [] [] m138 K))) := by
  obtain ⟨hL, hC, h2, hok, hf, hD, hP, hPs, hlen⟩ := hQ
  have hb4 := (hD t ht).2.2.2.1 r hr c hc
  refine c_167 (c := seg rs x y) hL hC rfl hxy hy hRV hE hty (fun m1 f1 => ⟨_, rfl, ?_⟩)
  have hk := k m1 f1
  have etr : tr false (val env (seg rs x y)) = val env (seg rs x y) := rfl
  have eseg : (List.drop x rs).take (y - x) = seg rs x y := rfl
  rw [etr]
  have l1 : (m1.B 58).length = 240 := (hL.fq f1).b (by decide) rfl
  by_cases hn : val env (seg rs x y) = NUL
  · rw [if_pos ((lg_nul _).mpr hn)]
    refine sg_176_144 ?_
    rw [decide_eq_false (fun z => z hn), Bool.false_and, bI_f (by decide)] at hk
    exact hk
  · rw [if_neg (fun z => hn ((lg_nul _).mp z)), hcol, pk_mul, pk_mul, nI_add, nI_add, l1, ix_nI (by omega), f1.1.b (by decide), hb4]
    refine ⟨ok_nI (by omega) (by decide), ?_⟩
    rw [decide_eq_true hn, Bool.true_and] at hk
    by_cases hv : cl_ (P t) r c = val env (seg rs x y)
    · rw [if_pos ((lg_k _ _).mpr hv)]
      rw [bI_t (decide_eq_true hv)] at hk
      exact hk
    · rw [if_neg (fun z => hv ((lg_k _ _).mp z))]
      refine sg_176_144 ?_
      rw [bI_f (by rw [decide_eq_true_iff]; exact hv)] at hk
      exact hk
/-- behind the side -/
theorem t_176 {t r i n : Nat} {w : Int32} {a : Acs} {p : Pt} (hQ : RQ m rs f D P ps) (hI : DI D) (hPt : okPt rs p) (ht : t < 3) (hts : t = f s) (hcw : ∀ x, x ∈ rs → x.1 = 3 → x.2.2 = s → x.2.1 < wd D t) (hr : r < (rw_ D t).length) (hi : i < ps.length) (hp : ps.getD i (0, 0, 0) = p) (h0 : p.2.1 ≠ 0) (hw : w = sIx n) (hn : (n = 0 ∧ lone rs p.1 (p.2.1 - 1) s = some a.2.1 ∧ a.2.2 = (p.2.1 - 1, p.2.2 - 1) ∧ mOK (seg rs (p.2.1 - 1) (p.2.2 - 1)) bef = true) ∨ (n = 1 ∧ lone rs (p.2.1 - 1) (p.2.2 - 1) s = some a.2.1 ∧ a.2.2 = (p.1, p.2.1 - 1) ∧ mOK (seg rs p.1 (p.2.1 - 1)) bef = true)) (hRV : ∀ l, (∀ x, x ∈ l → x ∈ rs) → mOK l bef = true → RV m env f l ∧ EnvOk env l) (k : ∀ m', Fq [] [61] m m' → K (some (.int (bI ((decide (val env (seg rs a.2.2.1 a.2.2.2) ≠ NUL) && decide (cl_ (P t) r a.2.1 = val env (seg rs a.2.2.1 a.2.2.2))) = true)))) m') : ok (m.A 53).length (nI i) ∧ ok (m.A 55).length (nI i) ∧ ok (m.A 54).length (nI i) ∧ (if w = (nI 0) then ok (m.A 47).length ((m.A 53).getD (ix (nI i)) 0) ∧ (if w = (nI 0) then WP (d + 1) 167 [.ref 42, .int ((m.A 55).getD (ix (nI i)) 0), .int (((m.A 54).getD (ix (nI i)) 0) - (nI 1))] m (fun v m292 => ∃ w293, v = some (.long w293) ∧ (if (lg_cmp w293 1099511627776) = (nI 0) then WH (d + 2) 176 144 [] [] m292 K else ok (m292.B 58).length ((((nI 80) * (nI t)) + ((nI 4) * (nI r))) + (((m.A 47).getD (ix ((m.A 53).getD (ix (nI i)) 0)) 0) - ((m.A 47).getD (ix ((m.A 53).getD (ix (nI i)) 0)) 0) / (nI 4) * (nI 4))) ∧ (if (lg_cmp ((m292.B 58).getD (ix ((((nI 80) * (nI t)) + ((nI 4) * (nI r))) + (((m.A 47).getD (ix ((m.A 53).getD (ix (nI i)) 0)) 0) - ((m.A 47).getD (ix ((m.A 53).getD (ix (nI i)) 0)) 0) / (nI 4) * (nI 4)))) 0) w293) = (nI 0) then K (some (.int (nI 1))) m292 else WH (d + 2) 176 144 [] [] m292 K))) else WP (d + 1) 167 [.ref 42, .int ((m.A 53).getD (ix (nI i)) 0), .int ((m.A 55).getD (ix (nI i)) 0)] m (fun v m273 => ∃ w274, v = some (.long w274) ∧ (if (lg_cmp w274 1099511627776) = (nI 0) then WH (d + 2) 176 144 [] [] m273 K else ok (m273.B 58).length ((((nI 80) * (nI t)) + ((nI 4) * (nI r))) + (((m.A 47).getD (ix ((m.A 53).getD (ix (nI i)) 0)) 0) - ((m.A 47).getD (ix ((m.A 53).getD (ix (nI i)) 0)) 0) / (nI 4) * (nI 4))) ∧ (if (lg_cmp ((m273.B 58).getD (ix ((((nI 80) * (nI t)) + ((nI 4) * (nI r))) + (((m.A 47).getD (ix ((m.A 53).getD (ix (nI i)) 0)) 0) - ((m.A 47).getD (ix ((m.A 53).getD (ix (nI i)) 0)) 0) / (nI 4) * (nI 4)))) 0) w274) = (nI 0) then K (some (.int (nI 1))) m273 else WH (d + 2) 176 144 [] [] m273 K)))) else ok (m.A 47).length ((m.A 55).getD (ix (nI i)) 0) ∧ (if w = (nI 0) then WP (d + 1) 167 [.ref 42, .int ((m.A 55).getD (ix (nI i)) 0), .int (((m.A 54).getD (ix (nI i)) 0) - (nI 1))] m (fun v m239 => ∃ w240, v = some (.long w240) ∧ (if (lg_cmp w240 1099511627776) = (nI 0) then WH (d + 2) 176 144 [] [] m239 K else ok (m239.B 58).length ((((nI 80) * (nI t)) + ((nI 4) * (nI r))) + (((m.A 47).getD (ix ((m.A 55).getD (ix (nI i)) 0)) 0) - ((m.A 47).getD (ix ((m.A 55).getD (ix (nI i)) 0)) 0) / (nI 4) * (nI 4))) ∧ (if (lg_cmp ((m239.B 58).getD (ix ((((nI 80) * (nI t)) + ((nI 4) * (nI r))) + (((m.A 47).getD (ix ((m.A 55).getD (ix (nI i)) 0)) 0) - ((m.A 47).getD (ix ((m.A 55).getD (ix (nI i)) 0)) 0) / (nI 4) * (nI 4)))) 0) w240) = (nI 0) then K (some (.int (nI 1))) m239 else WH (d + 2) 176 144 [] [] m239 K))) else WP (d + 1) 167 [.ref 42, .int ((m.A 53).getD (ix (nI i)) 0), .int ((m.A 55).getD (ix (nI i)) 0)] m (fun v m220 => ∃ w221, v = some (.long w221) ∧ (if (lg_cmp w221 1099511627776) = (nI 0) then WH (d + 2) 176 144 [] [] m220 K else ok (m220.B 58).length ((((nI 80) * (nI t)) + ((nI 4) * (nI r))) + (((m.A 47).getD (ix ((m.A 55).getD (ix (nI i)) 0)) 0) - ((m.A 47).getD (ix ((m.A 55).getD (ix (nI i)) 0)) 0) / (nI 4) * (nI 4))) ∧ (if (lg_cmp ((m220.B 58).getD (ix ((((nI 80) * (nI t)) + ((nI 4) * (nI r))) + (((m.A 47).getD (ix ((m.A 55).getD (ix (nI i)) 0)) 0) - ((m.A 47).getD (ix ((m.A 55).getD (ix (nI i)) 0)) 0) / (nI 4) * (nI 4)))) 0) w221) = (nI 0) then K (some (.int (nI 1))) m220 else WH (d + 2) 176 144 [] [] m220 K))))) := by
  have hQ0 := hQ
  obtain ⟨hL, hC, h2, hok, hf, hD, hP, hPs, hlen⟩ := hQ
  have hnl := hC.1
  obtain ⟨i1, i2, i3, _⟩ := hI t ht
  have l3 : (m.A 53).length = 40 := hL.a (by decide) rfl
  have l4 : (m.A 54).length = 40 := hL.a (by decide) rfl
  have l5 : (m.A 55).length = 40 := hL.a (by decide) rfl
  have l7 : (m.A 47).length = 110 := hL.a (by decide) rfl
  obtain ⟨q1, q2, q3⟩ := hP.2 i hi
  rw [hp] at q1 q2 q3
  have hsp := pt_split hPt h0
  obtain ⟨j, hj⟩ : ∃ j, p.2.1 = j + 1 := ⟨p.2.1 - 1, by omega⟩
  have ej : ow p.2.1 = nI j := by rw [hj]; rfl
  have ej1 : p.2.1 - 1 = j := by omega
  rw [ej1] at hsp hn
  rw [ej] at q2
  have o40 : ok 40 (nI i) := ok_nI (by omega) (by decide)
  have col : ∀ x y c, lone rs x y s = some c → x < rs.length → (m.A 47).getD x 0 - (m.A 47).getD x 0 / nI 4 * nI 4 = nI c ∧ c < wd D t := by
    intro x y c hl hx
    unfold lone at hl
    split at hl
    · next hh =>
      cases hl
      have hmem : rs.getD x (0, 0, 0) ∈ rs := getD_in hx
      obtain ⟨w1, w2⟩ := hC.2 x hx
      rw [if_pos hh.2.1, hh.2.2, ← hts] at w2
      have hq := q4 ht (h2 _ hmem hh.2.1).2
      rw [w2]
      refine ⟨?_, hcw _ hmem hh.2.1 hh.2.2⟩
      rw [hq.1, hq.2]
    · cases hl
  rw [l3, l4, l5, l7, ix_nI (by omega), q1, q2, q3, ix_nI (by omega), ix_nI (by omega), nIsub (by omega)]
  refine ⟨o40, o40, o40, ?_⟩
  rcases hn with ⟨n0, n1, n2, n3⟩ | ⟨n0, n1, n2, n3⟩
  · have hw0 : w = nI 0 := by rw [hw, n0]; rfl
    have hc := col p.1 j _ n1 (by omega)
    rw [n2] at k
    have hV := hRV (seg rs j (p.2.2 - 1)) (fun x hx => seg_mem hx) n3
    rw [if_pos hw0, if_pos hw0]
    refine ⟨ok_nI (by omega) (by decide), ?_⟩
    exact b_176 hQ0 ht hr i2 hc.2 i1 (by omega) (by omega) hsp.2.2.2.2.1 hV.1 hV.2 hc.1 k
  · have hw0 : ¬ w = nI 0 := by rw [hw, n0]; decide
    have hc := col j (p.2.2 - 1) _ n1 (by omega)
    rw [n2] at k
    have hV := hRV (seg rs p.1 j) (fun x hx => seg_mem hx) n3
    rw [if_neg hw0, if_neg hw0]
    refine ⟨ok_nI (by omega) (by decide), ?_⟩
    exact b_176 hQ0 ht hr i2 hc.2 i1 (by omega) (by omega) hsp.2.2.2.1 hV.1 hV.2 hc.1 k
theorem c_176 {r : Nat} (hQ : RQ m rs f D P ps) (hI : DI D) (hPt : ∀ p, p ∈ ps → okPt rs p) (hb : befOK s bef) (hab : (s = 1 ∨ bef ≠ 0) → f 0 ≠ f 1) (hs3 : f s < 3) (hcw : ∀ x, x ∈ rs → x.1 = 3 → x.2.2 = s → x.2.1 < wd D (f s)) (hr : r < (rw_ D (f s)).length) (hRV : ∀ l, (∀ x, x ∈ l → x ∈ rs) → mOK l bef = true → RV m env f l ∧ EnvOk env l) (k : ∀ m', Fq [] [61] m m' → K (some (.int (bI (ftB rs env (acsS (fun c => ixd D (f s) c) rs s bef ps) (P (f s)) r = true)))) m') : WP (d + 2) 176 [.ref 42, .int (nI (f s)), .int (nI r), .int (oIx (usR D (f s) rs s bef ps)), .int (nI (kdR D (f s) rs s bef ps)), .int (nI (stR (f 0) (f 1) bef))] m K := by
  have hus := acs_us (D := D) (t := f s) (rs := rs) (s := s) (bef := bef) (ps := ps)
  unfold ftB at k
  rw [hus.1] at k
  have hkd : kdR D (f s) rs s bef ps = 1 ∨ kdR D (f s) rs s bef ps = 2 ∨ kdR D (f s) rs s bef ps = 3 := by
    unfold kdR
    split
    · exact Or.inr (Or.inr rfl)
    · split
      · exact Or.inr (Or.inl rfl)
      · exact Or.inl rfl
  refine sp_176 _ _ _ _ _ ?_
  by_cases hk1 : kdR D (f s) rs s bef ps = 1
  · rw [if_pos (by rw [hk1])]
    have := k m (Fq.refl _ _ _)
    rw [decide_eq_true hk1, Bool.true_or, bI_t rfl] at this
    exact this
  · rw [if_neg (by rw [nIeq (by omega) (by omega)]; exact hk1)]
    obtain ⟨i, okk, u1, u2, u3, u4, u5⟩ := hus.2 hk1
    rw [u1]
    have eo : oIx (some i) = nI i := rfl
    rw [eo]
    rw [decide_eq_false hk1, Bool.false_or] at k
    have hpm : ps.getD i (0, 0, 0) ∈ ps := getD_in u2
    rcases u4 with ⟨k3, ek⟩ | ⟨k3, ek⟩
    · rw [if_pos (by rw [k3])]
      refine c_173 (key := 1) hQ hb hab u2 u3 (Or.inr rfl) ⟨_, rfl, ?_⟩
      rw [← ek]
      exact t_176 hQ hI (hPt _ hpm) hs3 rfl hcw hr u2 rfl u3 rfl u5 hRV k
    · rw [if_neg (by rw [k3]; decide)]
      refine c_173 (key := 0) hQ hb hab u2 u3 (Or.inl rfl) ⟨_, rfl, ?_⟩
      rw [← ek]
      exact t_176 hQ hI (hPt _ hpm) hs3 rfl hcw hr u2 rfl u3 rfl u5 hRV k
end F80
