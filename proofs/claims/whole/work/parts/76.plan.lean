/-! PLANS: which part fixes a column (pure) -/
def hasS (l : List Op) (s : Nat) : Bool := l.any (fun x => decide (x.1 = 3 ∧ x.2.2 = s))
def msk (l : List Op) : Nat := (if hasS l 0 = true then 1 else 0) + (if hasS l 1 = true then 2 else 0)
/-- all columns are of sides that are known -/
def mOK (l : List Op) (bef : Nat) : Bool := decide ((hasS l 0 = true → bef = 1) ∧ (hasS l 1 = true → bef = 2))
def lone (rs : List Op) (a b s : Nat) : Option Nat := if b = a + 1 ∧ (rs.getD a (0, 0, 0)).1 = 3 ∧ (rs.getD a (0, 0, 0)).2.2 = s then some (rs.getD a (0, 0, 0)).2.1 else none
abbrev Acs : Type := Nat × Nat × Nat × Nat
/-- kind, column, from, to -/
def cons_ (ix : Nat → Bool) (rs : List Op) (bef : Nat) (st : Acs) (fx : Option Nat) (f t : Nat) : Acs := match fx with
  | none => st
  | some c => if mOK (seg rs f t) bef = true then (if c = 0 then (3, 0, f, t) else if st.1 = 1 ∧ ix c = true then (2, c, f, t) else st) else st
def chs1 (ix : Nat → Bool) (rs : List Op) (s bef : Nat) (st : Acs) (p : Pt) : Acs := if st.1 = 3 then st else if p.2.1 = 0 then st else cons_ ix rs bef (cons_ ix rs bef st (lone rs p.1 (p.2.1 - 1) s) (p.2.1 - 1) (p.2.2 - 1)) (lone rs (p.2.1 - 1) (p.2.2 - 1) s) p.1 (p.2.1 - 1)
def chs (ix : Nat → Bool) (rs : List Op) (s bef : Nat) (ps : List Pt) (st : Acs) : Acs := ps.foldl (chs1 ix rs s bef) st
/-- what a part fixes, as the reference asks: the key, or a column with an index -/
def fixP (ok : Nat → Bool) (rs : List Op) (s bef : Nat) (p : Pt) : Option (Nat × Nat × Nat) := if p.2.1 = 0 then none else
  match lone rs p.1 (p.2.1 - 1) s with
  | some c => if ok c = true ∧ mOK (seg rs (p.2.1 - 1) (p.2.2 - 1)) bef = true then some (c, p.2.1 - 1, p.2.2 - 1) else
    (match lone rs (p.2.1 - 1) (p.2.2 - 1) s with
    | some c' => if ok c' = true ∧ mOK (seg rs p.1 (p.2.1 - 1)) bef = true then some (c', p.1, p.2.1 - 1) else none
    | none => none)
  | none => (match lone rs (p.2.1 - 1) (p.2.2 - 1) s with
    | some c' => if ok c' = true ∧ mOK (seg rs p.1 (p.2.1 - 1)) bef = true then some (c', p.1, p.2.1 - 1) else none
    | none => none)
def fstP (ok : Nat → Bool) (rs : List Op) (s bef : Nat) : List Pt → Option (Nat × Nat × Nat)
  | [] => none
  | p :: ps => match fixP ok rs s bef p with | some x => some x | none => fstP ok rs s bef ps
def isKey (c : Nat) : Bool := decide (c = 0)
def acsS (ix : Nat → Bool) (rs : List Op) (s bef : Nat) (ps : List Pt) : Acs := match fstP isKey rs s bef ps with
  | some x => (3, x)
  | none => (match fstP ix rs s bef ps with | some x => (2, x) | none => (1, 0, 0, 0))
theorem lone_has {rs : List Op} {a b s c : Nat} (h : lone rs a b s = some c) (ha : a < rs.length) : hasS (seg rs a b) s = true := by
  unfold lone at h
  split at h
  · next hh =>
    unfold hasS seg
    rw [hh.1, Nat.add_sub_cancel_left, List.any_eq_true]
    refine ⟨rs.getD a (0, 0, 0), ?_, decide_eq_true hh.2⟩
    rw [List.getD_eq_getElem?_getD, List.getElem?_eq_getElem ha]
    show rs[a] ∈ _
    rw [List.drop_eq_getElem_cons ha]
    exact List.mem_cons_self ..
  · cases h
/-- a side is never known before itself -/
def befOK (s bef : Nat) : Prop := (s = 0 ∧ (bef = 0 ∨ bef = 2)) ∨ (s = 1 ∧ (bef = 0 ∨ bef = 1))
theorem lone_no {rs : List Op} {a b s c bef : Nat} (h : lone rs a b s = some c) (ha : a < rs.length) (hb : befOK s bef) : mOK (seg rs a b) bef = false := by
  have h1 := lone_has h ha
  unfold mOK
  refine decide_eq_false (fun z => ?_)
  rcases hb with ⟨e, hb⟩ | ⟨e, hb⟩
  · rw [e] at h1
    have := z.1 h1
    omega
  · rw [e] at h1
    have := z.2 h1
    omega
section P76
variable {ix : Nat → Bool} {rs : List Op} {s bef : Nat}
/-- what one part does -/
theorem chs1_eq (hix : ix 0 = false) (hb : befOK s bef) {st : Acs} {p : Pt} (hp : p.2.1 ≠ 0 → p.1 < rs.length ∧ p.2.1 - 1 < rs.length) (h3 : st.1 = 1 ∨ st.1 = 2) : chs1 ix rs s bef st p = (match fixP isKey rs s bef p with | some x => (3, x) | none => if st.1 = 1 then (match fixP ix rs s bef p with | some x => (2, x) | none => st) else st) := by
  unfold chs1 fixP
  rw [if_neg (by omega)]
  by_cases h0 : p.2.1 = 0
  · rw [if_pos h0, if_pos h0, if_pos h0]
    dsimp only
    split <;> rfl
  · rw [if_neg h0, if_neg h0, if_neg h0]
    have hpl := hp h0
    cases hl : lone rs p.1 (p.2.1 - 1) s with
    | some c =>
      have nl := lone_no hl hpl.1 hb
      -- then the other way is barred
      have hr : ∀ st' : Acs, cons_ ix rs bef st' (lone rs (p.2.1 - 1) (p.2.2 - 1) s) p.1 (p.2.1 - 1) = st' := by
        intro st'
        cases hr : lone rs (p.2.1 - 1) (p.2.2 - 1) s with
        | none => rfl
        | some c' =>
          show (if mOK (seg rs p.1 (p.2.1 - 1)) bef = true then _ else _) = _
          rw [if_neg (by rw [nl]; decide)]
      rw [hr]
      have nr : ∀ okf : Nat → Bool, (match lone rs (p.2.1 - 1) (p.2.2 - 1) s with | some c' => if okf c' = true ∧ mOK (seg rs p.1 (p.2.1 - 1)) bef = true then some (c', p.1, p.2.1 - 1) else none | none => none) = none := by
        intro okf
        cases lone rs (p.2.1 - 1) (p.2.2 - 1) s with
        | none => rfl
        | some c' =>
          dsimp only
          rw [if_neg (fun z => by rw [nl] at z; cases z.2)]
      dsimp only
      rw [nr isKey, nr ix]
      show (if mOK (seg rs (p.2.1 - 1) (p.2.2 - 1)) bef = true then _ else _) = _
      by_cases hm : mOK (seg rs (p.2.1 - 1) (p.2.2 - 1)) bef = true
      · rw [if_pos hm]
        by_cases hc : c = 0
        · subst hc
          rw [if_pos rfl, if_pos ⟨rfl, hm⟩]
        · rw [if_neg hc, if_neg (show ¬ (isKey c = true ∧ mOK (seg rs (p.2.1 - 1) (p.2.2 - 1)) bef = true) from fun z => hc (of_decide_eq_true z.1))]
          dsimp only
          by_cases hs : st.1 = 1
          · rw [if_pos hs]
            by_cases hx : ix c = true
            · rw [if_pos ⟨hs, hx⟩, if_pos ⟨hx, hm⟩]
            · rw [if_neg (fun z => hx z.2), if_neg (fun z => hx z.1)]
          · rw [if_neg hs, if_neg (fun z => hs z.1)]
      · rw [if_neg hm, if_neg (show ¬ (isKey c = true ∧ mOK (seg rs (p.2.1 - 1) (p.2.2 - 1)) bef = true) from fun z => hm z.2), if_neg (show ¬ (ix c = true ∧ mOK (seg rs (p.2.1 - 1) (p.2.2 - 1)) bef = true) from fun z => hm z.2)]
        dsimp only
        split <;> rfl
    | none =>
      dsimp only
      have e1 : cons_ ix rs bef st none (p.2.1 - 1) (p.2.2 - 1) = st := rfl
      rw [e1]
      cases hr : lone rs (p.2.1 - 1) (p.2.2 - 1) s with
      | none =>
        dsimp only
        have e2 : cons_ ix rs bef st none p.1 (p.2.1 - 1) = st := rfl
        rw [e2]
        split <;> rfl
      | some c =>
        dsimp only
        show (if mOK (seg rs p.1 (p.2.1 - 1)) bef = true then _ else _) = _
        by_cases hm : mOK (seg rs p.1 (p.2.1 - 1)) bef = true
        · rw [if_pos hm]
          by_cases hc : c = 0
          · subst hc
            rw [if_pos rfl, if_pos ⟨rfl, hm⟩]
          · rw [if_neg hc, if_neg (show ¬ (isKey c = true ∧ mOK (seg rs p.1 (p.2.1 - 1)) bef = true) from fun z => hc (of_decide_eq_true z.1))]
            dsimp only
            by_cases hs : st.1 = 1
            · rw [if_pos hs]
              by_cases hx : ix c = true
              · rw [if_pos ⟨hs, hx⟩, if_pos ⟨hx, hm⟩]
              · rw [if_neg (fun z => hx z.2), if_neg (fun z => hx z.1)]
            · rw [if_neg hs, if_neg (fun z => hs z.1)]
        · rw [if_neg hm, if_neg (show ¬ (isKey c = true ∧ mOK (seg rs p.1 (p.2.1 - 1)) bef = true) from fun z => hm z.2), if_neg (show ¬ (ix c = true ∧ mOK (seg rs p.1 (p.2.1 - 1)) bef = true) from fun z => hm z.2)]
          dsimp only
          split <;> rfl
theorem chs_3 : ∀ (ps : List Pt) (st : Acs), st.1 = 3 → chs ix rs s bef ps st = st
  | [], st, h => rfl
  | p :: ps, st, h => by
    show chs ix rs s bef ps (chs1 ix rs s bef st p) = st
    have e : chs1 ix rs s bef st p = st := by unfold chs1; rw [if_pos h]
    rw [e]
    exact chs_3 ps st h
theorem chs_2 (hix : ix 0 = false) (hb : befOK s bef) : ∀ (ps : List Pt) (st : Acs), (∀ p, p ∈ ps → p.2.1 ≠ 0 → p.1 < rs.length ∧ p.2.1 - 1 < rs.length) → st.1 = 2 → chs ix rs s bef ps st = (match fstP isKey rs s bef ps with | some x => (3, x) | none => st)
  | [], st, hp, h => rfl
  | p :: ps, st, hp, h => by
    show chs ix rs s bef ps (chs1 ix rs s bef st p) = (match (match fixP isKey rs s bef p with | some x => some x | none => fstP isKey rs s bef ps) with | some x => (3, x) | none => st)
    rw [chs1_eq hix hb (hp p (List.mem_cons_self ..)) (Or.inr h)]
    cases fixP isKey rs s bef p with
    | some x => exact chs_3 ps (3, x) rfl
    | none =>
      dsimp only
      rw [if_neg (by rw [h]; decide)]
      exact chs_2 hix hb ps st (fun q hq => hp q (List.mem_cons_of_mem _ hq)) h
theorem chs_eq (hix : ix 0 = false) (hb : befOK s bef) : ∀ (ps : List Pt) (st : Acs), (∀ p, p ∈ ps → p.2.1 ≠ 0 → p.1 < rs.length ∧ p.2.1 - 1 < rs.length) → st.1 = 1 → chs ix rs s bef ps st = (match fstP isKey rs s bef ps with | some x => (3, x) | none => (match fstP ix rs s bef ps with | some x => (2, x) | none => st))
  | [], st, hp, h => rfl
  | p :: ps, st, hp, h => by
    show chs ix rs s bef ps (chs1 ix rs s bef st p) = (match (match fixP isKey rs s bef p with | some x => some x | none => fstP isKey rs s bef ps) with | some x => (3, x) | none => (match (match fixP ix rs s bef p with | some x => some x | none => fstP ix rs s bef ps) with | some x => (2, x) | none => st))
    have hps : ∀ q, q ∈ ps → q.2.1 ≠ 0 → q.1 < rs.length ∧ q.2.1 - 1 < rs.length := fun q hq => hp q (List.mem_cons_of_mem _ hq)
    rw [chs1_eq hix hb (hp p (List.mem_cons_self ..)) (Or.inl h)]
    cases fixP isKey rs s bef p with
    | some x => exact chs_3 ps (3, x) rfl
    | none =>
      dsimp only
      rw [if_pos h]
      cases fixP ix rs s bef p with
      | some x => exact chs_2 hix hb ps (2, x) hps rfl
      | none => exact chs_eq hix hb ps st hps h
end P76
