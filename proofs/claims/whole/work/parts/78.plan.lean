/-! PLANS: the reference's access -/
def mkR (a b : Nat) (l : List Op) : Nat := (if hasS l 0 = true then 2 ^ a else 0) + (if hasS l 1 = true then 2 ^ b else 0)
def stR (a b bef : Nat) : Nat := if bef = 1 then 2 ^ a else if bef = 2 then 2 ^ b else 0
/-- the tables of the sides -/
def tbOK (rs : List Op) (f : Nat → Nat) : Prop := f 0 < 3 ∧ f 1 < 3 ∧ ((∃ x, x ∈ rs ∧ x.1 = 3 ∧ x.2.2 = 1) → f 0 ≠ f 1)
theorem mkR_no {a b : Nat} {l : List Op} {x : Op} (h : x.1 ≠ 3) : mkR a b (l ++ [x]) = mkR a b l := by
  unfold mkR
  rw [hasS_app, hasS_app, decide_eq_false (fun z => h z.1), decide_eq_false (fun z => h z.1), Bool.or_false, Bool.or_false]
theorem mkR_yes {a b : Nat} {l : List Op} {x : Op} (ha : a < 3) (hb : b < 3) (hab : (hasS l 1 = true ∨ x.2.2 = 1) → a ≠ b) (h : x.1 = 3) (hs : x.2.2 < 2) : nI (mkR a b l) ||| ((nI 1) <<< (nI (if x.2.2 = 0 then a else b) &&& 31)) = nI (mkR a b (l ++ [x])) := by
  unfold mkR
  rw [hasS_app, hasS_app]
  rcases (by omega : x.2.2 = 0 ∨ x.2.2 = 1) with z | z
  · rw [z, decide_eq_true (⟨h, rfl⟩ : x.1 = 3 ∧ 0 = 0), decide_eq_false (fun y : x.1 = 3 ∧ 0 = 1 => by omega), Bool.or_true, Bool.or_false, if_pos rfl]
    rw [z] at hab
    cases h1 : hasS l 1 with
    | false =>
      cases hasS l 0 <;> rcases (by omega : a = 0 ∨ a = 1 ∨ a = 2) with rfl | rfl | rfl <;> rcases (by omega : b = 0 ∨ b = 1 ∨ b = 2) with rfl | rfl | rfl <;> decide
    | true =>
      have hne := hab (Or.inl h1)
      cases hasS l 0 <;> rcases (by omega : a = 0 ∨ a = 1 ∨ a = 2) with rfl | rfl | rfl <;> rcases (by omega : b = 0 ∨ b = 1 ∨ b = 2) with rfl | rfl | rfl <;> first | exact absurd rfl hne | decide
  · have hne := hab (Or.inr z)
    rw [z, decide_eq_true (⟨h, rfl⟩ : x.1 = 3 ∧ 1 = 1), decide_eq_false (fun y : x.1 = 3 ∧ 1 = 0 => by omega), Bool.or_true, Bool.or_false, if_neg (show ¬ 1 = 0 by decide)]
    cases hasS l 0 <;> cases hasS l 1 <;> rcases (by omega : a = 0 ∨ a = 1 ∨ a = 2) with rfl | rfl | rfl <;> rcases (by omega : b = 0 ∨ b = 1 ∨ b = 2) with rfl | rfl | rfl <;> first | exact absurd rfl hne | decide
theorem mkR_bef {a b bef : Nat} {l : List Op} (ha : a < 3) (hb : b < 3) (hbef : bef = 0 ∨ bef = 1 ∨ bef = 2) (hab : (hasS l 1 = true ∨ bef = 2) → a ≠ b) : (nI (mkR a b l) &&& (nI (stR a b bef) ^^^ (-1)) = nI 0) = (mOK l bef = true) := by
  unfold mkR stR mOK
  apply propext
  by_cases hne : a = b
  · have h1 : hasS l 1 = false := by
      cases hz : hasS l 1 with
      | false => rfl
      | true => exact absurd hne (hab (Or.inl hz))
    have hb2 : bef ≠ 2 := fun z => hab (Or.inr z) hne
    rw [h1]
    subst hne
    rcases hbef with rfl | rfl | rfl
    · cases hasS l 0 <;> rcases (by omega : a = 0 ∨ a = 1 ∨ a = 2) with rfl | rfl | rfl <;> decide
    · cases hasS l 0 <;> rcases (by omega : a = 0 ∨ a = 1 ∨ a = 2) with rfl | rfl | rfl <;> decide
    · exact absurd rfl hb2
  · rcases hbef with rfl | rfl | rfl <;> cases hasS l 0 <;> cases hasS l 1 <;> rcases (by omega : a = 0 ∨ a = 1 ∨ a = 2) with rfl | rfl | rfl <;> rcases (by omega : b = 0 ∨ b = 1 ∨ b = 2) with rfl | rfl | rfl <;> first | exact absurd rfl hne | decide
/-- left (0), right (1) or none (2) -/
def sdP (ok : Nat → Bool) (rs : List Op) (s bef : Nat) (p : Pt) : Nat := if (lone rs p.1 (p.2.1 - 1) s).any ok = true ∧ mOK (seg rs (p.2.1 - 1) (p.2.2 - 1)) bef = true then 0 else if (lone rs (p.2.1 - 1) (p.2.2 - 1) s).any ok = true ∧ mOK (seg rs p.1 (p.2.1 - 1)) bef = true then 1 else 2
def fstI (ok : Nat → Bool) (rs : List Op) (s bef : Nat) : List Pt → Option Nat
  | [] => none
  | p :: ps => if p.2.1 ≠ 0 ∧ sdP ok rs s bef p ≠ 2 then some 0 else (fstI ok rs s bef ps).map (fun i => i + 1)
theorem fixP_sd {ok : Nat → Bool} {rs : List Op} {s bef : Nat} {p : Pt} (h0 : p.2.1 ≠ 0) : fixP ok rs s bef p = (if sdP ok rs s bef p = 0 then (lone rs p.1 (p.2.1 - 1) s).map (fun c => (c, p.2.1 - 1, p.2.2 - 1)) else if sdP ok rs s bef p = 1 then (lone rs (p.2.1 - 1) (p.2.2 - 1) s).map (fun c => (c, p.1, p.2.1 - 1)) else none) := by
  by_cases hL : (lone rs p.1 (p.2.1 - 1) s).any ok = true ∧ mOK (seg rs (p.2.1 - 1) (p.2.2 - 1)) bef = true
  · have e : sdP ok rs s bef p = 0 := by unfold sdP; rw [if_pos hL]
    rw [e, if_pos rfl]
    unfold fixP
    rw [if_neg h0]
    cases hl : lone rs p.1 (p.2.1 - 1) s with
    | none => rw [hl] at hL; cases hL.1
    | some c =>
      rw [hl] at hL
      dsimp only
      rw [if_pos (show ok c = true ∧ mOK (seg rs (p.2.1 - 1) (p.2.2 - 1)) bef = true from hL)]
      rfl
  · have nL : ∀ c, lone rs p.1 (p.2.1 - 1) s = some c → ¬ (ok c = true ∧ mOK (seg rs (p.2.1 - 1) (p.2.2 - 1)) bef = true) := by
      intro c hc z
      rw [hc] at hL
      exact hL z
    have red : fixP ok rs s bef p = (match lone rs (p.2.1 - 1) (p.2.2 - 1) s with | some c' => if ok c' = true ∧ mOK (seg rs p.1 (p.2.1 - 1)) bef = true then some (c', p.1, p.2.1 - 1) else none | none => none) := by
      unfold fixP
      rw [if_neg h0]
      cases hl : lone rs p.1 (p.2.1 - 1) s with
      | none => rfl
      | some c =>
        dsimp only
        rw [if_neg (nL c hl)]
        rfl
    rw [red]
    by_cases hR : (lone rs (p.2.1 - 1) (p.2.2 - 1) s).any ok = true ∧ mOK (seg rs p.1 (p.2.1 - 1)) bef = true
    · have e : sdP ok rs s bef p = 1 := by unfold sdP; rw [if_neg hL, if_pos hR]
      rw [e, if_neg (by decide), if_pos rfl]
      cases hr : lone rs (p.2.1 - 1) (p.2.2 - 1) s with
      | none => rfl
      | some c =>
        rw [hr] at hR
        dsimp only
        rw [if_pos (show ok c = true ∧ mOK (seg rs p.1 (p.2.1 - 1)) bef = true from hR)]
        rfl
    · have e : sdP ok rs s bef p = 2 := by unfold sdP; rw [if_neg hL, if_neg hR]
      rw [e, if_neg (by decide), if_neg (by decide)]
      cases hr : lone rs (p.2.1 - 1) (p.2.2 - 1) s with
      | none => rfl
      | some c =>
        rw [hr] at hR
        dsimp only
        rw [if_neg (show ¬ (ok c = true ∧ mOK (seg rs p.1 (p.2.1 - 1)) bef = true) from hR)]
theorem sdP_some {ok : Nat → Bool} {rs : List Op} {s bef : Nat} {p : Pt} : (sdP ok rs s bef p = 0 → ∃ c, lone rs p.1 (p.2.1 - 1) s = some c ∧ ok c = true ∧ mOK (seg rs (p.2.1 - 1) (p.2.2 - 1)) bef = true) ∧ (sdP ok rs s bef p = 1 → ∃ c, lone rs (p.2.1 - 1) (p.2.2 - 1) s = some c ∧ ok c = true ∧ mOK (seg rs p.1 (p.2.1 - 1)) bef = true) := by
  unfold sdP
  refine ⟨fun h => ?_, fun h => ?_⟩
  · split at h
    · next hh =>
      cases hl : lone rs p.1 (p.2.1 - 1) s with
      | none => rw [hl] at hh; cases hh.1
      | some c => rw [hl] at hh; exact ⟨c, rfl, hh.1, hh.2⟩
    · split at h <;> cases h
  · split at h
    · cases h
    · split at h
      · next hh =>
        cases hl : lone rs (p.2.1 - 1) (p.2.2 - 1) s with
        | none => rw [hl] at hh; cases hh.1
        | some c => rw [hl] at hh; exact ⟨c, rfl, hh.1, hh.2⟩
      · cases h
theorem fstP_I {ok : Nat → Bool} {rs : List Op} {s bef : Nat} : ∀ (ps : List Pt), fstP ok rs s bef ps = (match fstI ok rs s bef ps with | some i => fixP ok rs s bef (ps.getD i (0, 0, 0)) | none => none) ∧ (∀ i, fstI ok rs s bef ps = some i → i < ps.length ∧ (ps.getD i (0, 0, 0)).2.1 ≠ 0 ∧ sdP ok rs s bef (ps.getD i (0, 0, 0)) ≠ 2)
  | [] => ⟨rfl, fun i h => by cases h⟩
  | p :: ps => by
    have ih := fstP_I (ok := ok) (rs := rs) (s := s) (bef := bef) ps
    have e1 : fstI ok rs s bef (p :: ps) = if p.2.1 ≠ 0 ∧ sdP ok rs s bef p ≠ 2 then some 0 else (fstI ok rs s bef ps).map (fun i => i + 1) := rfl
    have e2 : fstP ok rs s bef (p :: ps) = (match fixP ok rs s bef p with | some x => some x | none => fstP ok rs s bef ps) := rfl
    rw [e1, e2]
    by_cases hh : p.2.1 ≠ 0 ∧ sdP ok rs s bef p ≠ 2
    · rw [if_pos hh]
      dsimp only
      refine ⟨?_, fun i h => ?_⟩
      · show _ = fixP ok rs s bef p
        cases hf : fixP ok rs s bef p with
        | some x => rfl
        | none =>
          exfalso
          rw [fixP_sd hh.1] at hf
          have hs := sdP_some (ok := ok) (rs := rs) (s := s) (bef := bef) (p := p)
          by_cases h0 : sdP ok rs s bef p = 0
          · rw [if_pos h0] at hf
            obtain ⟨c, hc, _⟩ := hs.1 h0
            rw [hc] at hf; cases hf
          · rw [if_neg h0] at hf
            by_cases h1 : sdP ok rs s bef p = 1
            · rw [if_pos h1] at hf
              obtain ⟨c, hc, _⟩ := hs.2 h1
              rw [hc] at hf; cases hf
            · have : sdP ok rs s bef p ≤ 2 := by
                unfold sdP
                split
                · decide
                · split <;> decide
              omega
      · cases h
        exact ⟨by rw [List.length_cons]; omega, hh.1, hh.2⟩
    · rw [if_neg hh]
      have hf : fixP ok rs s bef p = none := by
        by_cases h0 : p.2.1 = 0
        · unfold fixP; rw [if_pos h0]
        · have h2 : sdP ok rs s bef p = 2 := by
            apply Classical.byContradiction
            intro z
            exact hh ⟨h0, z⟩
          rw [fixP_sd h0, h2, if_neg (by decide), if_neg (by decide)]
      rw [hf]
      dsimp only
      cases hi : fstI ok rs s bef ps with
      | none =>
        rw [hi] at ih
        exact ⟨ih.1, fun i h => by cases h⟩
      | some j =>
        rw [hi] at ih
        refine ⟨ih.1, fun i h => ?_⟩
        cases h
        have := ih.2 j rfl
        exact ⟨by show j + 1 < (p :: ps).length; rw [List.length_cons]; omega, this.2.1, this.2.2⟩
section P78
variable {d : Nat} {m m0 m1 : Mm} {K : Option Value → Mm → Prop} {rs : List Op} {D : Db} {s bef : Nat} {ps : List Pt} {f : Nat → Nat} {P : Nat → List (List Int64)}
theorem hasS_sub {l l' : List Op} {s : Nat} (h : ∀ x, x ∈ l → x ∈ l') (k : hasS l s = true) : hasS l' s = true := by
  unfold hasS at k ⊢
  rw [List.any_eq_true] at k ⊢
  obtain ⟨x, hx, h1⟩ := k
  exact ⟨x, h x hx, h1⟩
theorem hasS_ex {l : List Op} {s : Nat} (k : hasS l s = true) : ∃ x, x ∈ l ∧ x.1 = 3 ∧ x.2.2 = s := by
  unfold hasS at k
  rw [List.any_eq_true] at k
  obtain ⟨x, hx, h1⟩ := k
  have := of_decide_eq_true h1
  exact ⟨x, hx, this.1, this.2⟩
theorem lp_170 {x y : Nat} (hL : Len m) (hC : RE m rs f) (h2 : sd2 rs) (hok : ∀ z, z ∈ rs → z.1 < 1000) (hf : tbOK rs f) (hy : y ≤ rs.length) (k : K (some (.int (nI (mkR (f 0) (f 1) (seg rs x y))))) m) : ∀ (n i : Nat), i + n = y → x ≤ i → WH d 170 5 [(0, .ref 42), (2, .int (nI y)), (3, .int (nI (mkR (f 0) (f 1) (seg rs x i)))), (4, .int (nI i))] [] m K := by
  have hn := hC.1
  have l1 : (m.A 46).length = 110 := hL.a (by decide) rfl
  have l2 : (m.A 47).length = 110 := hL.a (by decide) rfl
  intro n
  induction n with
  | zero =>
    intro i hi hx
    refine sg_170_5 _ _ _ ?_
    rw [if_pos (by rw [nIle (by omega) (by omega)]; omega), show i = y by omega]
    exact k
  | succ n ih =>
    intro i hi hx
    have es := seg_succ hx (show i < rs.length by omega)
    have hmem : rs.getD i (0, 0, 0) ∈ rs := getD_in (by omega)
    obtain ⟨e1, e2⟩ := hC.2 i (by omega)
    have ho : ok 110 (nI i) := ok_nI (by omega) (by decide)
    refine sg_170_5 _ _ _ ?_
    rw [if_neg (by rw [nIle (by omega) (by omega)]; omega), l1, l2, ix_nI (by omega), e1]
    refine ⟨ho, ?_⟩
    have := ih (i + 1) (by omega) (by omega)
    rw [es] at this
    by_cases h3 : (rs.getD i (0, 0, 0)).1 = 3
    · obtain ⟨hs1, hs2⟩ := h2 _ hmem h3
      rw [if_pos (by rw [rop3 (hok _ hmem)]; exact h3), nI_add]
      refine ⟨ho, ?_⟩
      have et : f (rs.getD i (0, 0, 0)).2.2 = (if (rs.getD i (0, 0, 0)).2.2 = 0 then f 0 else f 1) := by
        rcases (by omega : (rs.getD i (0, 0, 0)).2.2 = 0 ∨ (rs.getD i (0, 0, 0)).2.2 = 1) with z | z
        · rw [z, if_pos rfl]
        · rw [z, if_neg (by decide)]
      rw [if_pos h3] at e2
      have hlt : f (rs.getD i (0, 0, 0)).2.2 < 3 := by
        rw [et]
        split
        · exact hf.1
        · exact hf.2.1
      rw [e2, (q4 hlt hs2).1, et, mkR_yes hf.1 hf.2.1 (fun z => ?_) h3 hs1]
      · exact this
      · refine hf.2.2 ?_
        rcases z with z | z
        · obtain ⟨w, w1, w2, w3⟩ := hasS_ex z
          exact ⟨w, seg_mem w1, w2, w3⟩
        · exact ⟨_, hmem, h3, z⟩
    · rw [if_neg (by rw [rop3 (hok _ hmem)]; exact h3), nI_add]
      rw [mkR_no h3] at this
      exact this
theorem c_170 {x y : Nat} (hL : Len m) (hC : RE m rs f) (h2 : sd2 rs) (hok : ∀ z, z ∈ rs → z.1 < 1000) (hf : tbOK rs f) (hxy : x ≤ y) (hy : y ≤ rs.length) (k : K (some (.int (nI (mkR (f 0) (f 1) (seg rs x y))))) m) : WP d 170 [.ref 42, .int (nI x), .int (nI y)] m K := by
  refine sp_170 _ _ ?_
  have := lp_170 (d := d) (x := x) hL hC h2 hok hf hy k (y - x) x (by omega) (by omega)
  rw [seg_nil] at this
  exact this
/-- a column alone: the key, or one with an index -/
def okF (D : Db) (t : Nat) (key : Nat) (c : Nat) : Bool := if key = 1 then isKey c else ixd D t c
theorem c_171 {x y key : Nat} (hL : Len m) (hC : RE m rs f) (h2 : sd2 rs) (hok : ∀ z, z ∈ rs → z.1 < 1000) (hf : tbOK rs f) (hD : DR m D P) (hs : s = 0 ∨ (s = 1 ∧ f 0 ≠ f 1)) (hx : x < rs.length) (hy : y ≤ rs.length) (hkey : key = 0 ∨ key = 1) (k : K (some (.int (bI ((lone rs x y s).any (okF D (f s) key) = true)))) m) : WP d 171 [.ref 42, .int (nI x), .int (nI y), .int (nI (f s)), .int (nI key)] m K := by
  have hn := hC.1
  have l1 : (m.A 46).length = 110 := hL.a (by decide) rfl
  have l2 : (m.A 47).length = 110 := hL.a (by decide) rfl
  have l9 : (m.A 59).length = 12 := hL.a (by decide) rfl
  have hmem : rs.getD x (0, 0, 0) ∈ rs := getD_in hx
  obtain ⟨e1, e2⟩ := hC.2 x hx
  have ho : ok 110 (nI x) := ok_nI (by omega) (by decide)
  have hfs : f s < 3 := by rcases hs with z | z; rw [z]; exact hf.1; rw [z.1]; exact hf.2.1
  have no : lone rs x y s = none → K (some (.int (nI 0))) m := by
    intro h
    rw [h, bI_f (fun z => by cases z)] at k
    exact k
  refine sp_171 _ _ _ _ ?_
  rw [nI_add]
  by_cases h1 : y = x + 1
  · rw [if_pos (by rw [h1]), l1, l2, l9, ix_nI (by omega), e1]
    refine ⟨ho, ?_⟩
    by_cases h3 : (rs.getD x (0, 0, 0)).1 = 3
    · obtain ⟨hs1, hs2⟩ := h2 _ hmem h3
      rw [if_pos (by rw [rop3 (hok _ hmem)]; exact h3)]
      rw [if_pos h3] at e2
      have hft : f (rs.getD x (0, 0, 0)).2.2 < 3 := by
        rcases (by omega : (rs.getD x (0, 0, 0)).2.2 = 0 ∨ (rs.getD x (0, 0, 0)).2.2 = 1) with z | z
        · rw [z]; exact hf.1
        · rw [z]; exact hf.2.1
      have hq := q4 hft hs2
      refine ⟨ho, ?_⟩
      rw [e2, hq.1, hq.2]
      have hinj : f (rs.getD x (0, 0, 0)).2.2 = f s ↔ (rs.getD x (0, 0, 0)).2.2 = s := by
        constructor
        · intro z
          rcases (by omega : (rs.getD x (0, 0, 0)).2.2 = 0 ∨ (rs.getD x (0, 0, 0)).2.2 = 1) with y0 | y0
          · rcases hs with q | q
            · rw [y0, q]
            · rw [y0, q.1] at z; exact absurd z q.2
          · have hne := hf.2.2 ⟨_, hmem, h3, y0⟩
            rcases hs with q | q
            · rw [y0, q] at z; exact absurd z.symm hne
            · rw [y0, q.1]
        · intro z; rw [z]
      by_cases hss : (rs.getD x (0, 0, 0)).2.2 = s
      · rw [if_pos (by rw [hss])]
        have hlone : lone rs x y s = some (rs.getD x (0, 0, 0)).2.1 := by unfold lone; rw [if_pos ⟨h1, h3, hss⟩]
        rw [hlone] at k
        have ek : (some (rs.getD x (0, 0, 0)).2.1).any (okF D (f s) key) = okF D (f s) key (rs.getD x (0, 0, 0)).2.1 := rfl
        rw [ek] at k
        rcases hkey with z | z
        · subst z
          rw [if_pos rfl, hss, ix_nI (by omega), (hD (f s) hfs).2.2.2.2 _ hs2]
          refine ⟨ho, ok_nI (by omega) (by decide), bI_B, ?_⟩
          have e5 : okF D (f s) 0 (rs.getD x (0, 0, 0)).2.1 = ixd D (f s) (rs.getD x (0, 0, 0)).2.1 := rfl
          rw [e5] at k; exact k
        · subst z
          rw [if_neg (by decide)]
          refine ⟨ho, ?_⟩
          have e5 : okF D (f s) 1 (rs.getD x (0, 0, 0)).2.1 = isKey (rs.getD x (0, 0, 0)).2.1 := rfl
          rw [e5] at k
          by_cases hc0 : (rs.getD x (0, 0, 0)).2.1 = 0
          · rw [if_pos (by rw [hc0])]
            rw [bI_t (show isKey (rs.getD x (0, 0, 0)).2.1 = true from decide_eq_true hc0)] at k; exact k
          · rw [if_neg (by rw [nIeq (by omega) (by omega)]; exact hc0)]
            rw [bI_f (show ¬ isKey (rs.getD x (0, 0, 0)).2.1 = true from fun z => hc0 (of_decide_eq_true z))] at k; exact k
      · rw [if_neg (by rw [nIeq (by omega) (by omega)]; exact fun z => hss (hinj.mp z))]
        exact no (by unfold lone; rw [if_neg (fun z => hss z.2.2)])
    · rw [if_neg (by rw [rop3 (hok _ hmem)]; exact h3)]
      exact no (by unfold lone; rw [if_neg (fun z => h3 z.2.1)])
  · rw [if_neg (by rw [nIeq (by omega) (by omega)]; exact h1)]
    exact no (by unfold lone; rw [if_neg (fun z => h1 z.1)])
end P78
