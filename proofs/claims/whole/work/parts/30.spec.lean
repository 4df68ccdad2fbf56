/-! THE TEXT'S MEANING, first half: what follows from a list of tokens. A token: its kind and number (kinds as the class has them; 19: a word that no statement has). A step: step, number, owner + 1. -/
abbrev Tk : Type := Nat × Nat
abbrev Op : Type := Nat × Nat × Nat
abbrev Ps : Type := List Tk → Option (List Op × List Tk)
abbrev Pm : Type := List Tk → Option (List Op × Option Nat × List Tk)
def opr (k : Nat) : Op := (k, 0, 0)
def isMul (k : Nat) : Bool := k == 42 || k == 47
def isAdd (k : Nat) : Bool := k == 43 || k == 45
def isAnd (k : Nat) : Bool := k == 17
def isOr (k : Nat) : Bool := k == 16
def pLoop (f : Ps) (p : Nat → Bool) : Nat → List Op → Ps
  | 0, acc, ts => some (acc, ts)
  | n + 1, acc, ts => match ts with
    | [] => some (acc, [])
    | t :: r => if p t.1 = true then (match f r with | some (c, r') => pLoop f p n (acc ++ c ++ [opr t.1]) r' | none => none) else some (acc, t :: r)
def pProd (f : Ps) : Ps := fun ts => match f ts with | some (c, r) => pLoop f isMul 80 c r | none => none
def pExp (f : Ps) : Ps := fun ts => match pProd f ts with | some (c, r) => pLoop (pProd f) isAdd 80 c r | none => none
def pCol : Ps := fun ts => match ts with
  | [] => none
  | t :: r => if t.1 = 1 then (match r with
      | a :: b :: r' => if a.1 = 46 ∧ b.1 = 3 then some ([(3, b.2, t.2 + 1)], r') else none
      | _ => none)
    else if t.1 = 3 then some ([(3, t.2, 0)], r) else none
/-- a token that must stand there -/
def pTok (k : Nat) (x : Option (List Op × List Tk)) : Option (List Op × List Tk) := match x with
  | some (c, t :: r) => if t.1 = k then some (c, r) else none
  | _ => none
def facB (e f : Ps) : Ps := fun ts => match ts with
  | [] => none
  | t :: r => if t.1 = 40 then pTok 41 (e r)
    else if t.1 = 45 then (match f r with | some (c, r') => some (c ++ [opr 30], r') | none => none)
    else if t.1 = 2 then some ([(2, t.2, 0)], r)
    else if t.1 = 15 then some ([(15, 0, 0)], r)
    else pCol (t :: r)
def pFac : Nat → Ps
  | 0 => facB (fun _ => none) (fun _ => none)
  | l + 1 => facB (pExp (pFac l)) (pFac l)
def pEx (l : Nat) : Ps := pExp (pFac l)
def pCmp (l : Nat) : Pm := fun ts => match pEx l ts with
  | none => none
  | some (c, []) => none
  | some (c, t :: r) => if t.1 = 15 then some (c ++ [opr 31], none, r)
    else if t.1 = 61 ∨ t.1 = 60 ∨ t.1 = 62 then (match pEx l r with
      | some (c', r') => some (c ++ c' ++ [opr t.1], if t.1 = 61 then some c.length else none, r')
      | none => none)
    else none
def drp (g : Pm) : Ps := fun ts => match g ts with | some (c, _, r) => some (c, r) | none => none
def pCon (g : Pm) : Ps := fun ts => match drp g ts with | some (c, r) => pLoop (drp g) isAnd 80 c r | none => none
def pCnd (g : Pm) : Ps := fun ts => match pCon g ts with | some (c, r) => pLoop (pCon g) isOr 80 c r | none => none
def negB (e : Ps) (f : Pm) (g : Pm) : Pm := fun ts => match ts with
  | [] => g []
  | t :: r => if t.1 = 91 then (match pTok 93 (e r) with | some (c, r') => some (c, none, r') | none => none)
    else if t.1 = 18 then (match f r with | some (c, _, r') => some (c ++ [opr 18], none, r') | none => none)
    else g (t :: r)
def pNeg : Nat → Pm
  | 0 => negB (fun _ => none) (fun _ => none) (pCmp 0)
  | l + 1 => negB (pCnd (pNeg l)) (pNeg l) (pCmp (l + 1))
/-- how much a reading takes: a step has a token of its own -/
def okP (f : Ps) : Prop := ∀ ts c r, f ts = some (c, r) → c.length + r.length ≤ ts.length ∧ 0 < c.length
def okM (g : Pm) : Prop := ∀ ts c q r, g ts = some (c, q, r) → c.length + r.length ≤ ts.length ∧ 0 < c.length
theorem okP_none : okP (fun _ => none) := fun _ _ _ h => by cases h
theorem okM_none : okM (fun _ => none) := fun _ _ _ _ h => by cases h
theorem pLoop_len {f : Ps} (hf : okP f) (p : Nat → Bool) : ∀ (n : Nat) (acc : List Op) (ts : List Tk) (c : List Op) (r : List Tk), pLoop f p n acc ts = some (c, r) → c.length + r.length ≤ acc.length + ts.length ∧ acc.length ≤ c.length
  | 0, acc, ts, c, r, h => by
    cases h; exact ⟨Nat.le_refl _, Nat.le_refl _⟩
  | n + 1, acc, [], c, r, h => by
    cases h; exact ⟨Nat.le_refl _, Nat.le_refl _⟩
  | n + 1, acc, t :: ts, c, r, h => by
    unfold pLoop at h
    dsimp only at h
    split at h
    · split at h
      · next c' r' e =>
        have h1 := pLoop_len hf p n _ _ _ _ h
        have h2 := hf _ _ _ e
        simp only [List.length_append, List.length_cons, List.length_nil] at h1 ⊢
        omega
      · cases h
    · cases h; exact ⟨Nat.le_refl _, Nat.le_refl _⟩
theorem okP_prod {f : Ps} (hf : okP f) : okP (pProd f) := by
  intro ts c r h
  unfold pProd at h
  split at h
  · next c' r' e =>
    have h1 := hf _ _ _ e
    have h2 := pLoop_len hf _ _ _ _ _ _ h
    omega
  · cases h
theorem okP_exp {f : Ps} (hf : okP f) : okP (pExp f) := by
  intro ts c r h
  unfold pExp at h
  split at h
  · next c' r' e =>
    have h1 := okP_prod hf _ _ _ e
    have h2 := pLoop_len (okP_prod hf) _ _ _ _ _ _ h
    omega
  · cases h
theorem okP_col : okP pCol := by
  intro ts c r h
  unfold pCol at h
  split at h
  · cases h
  · split at h
    · split at h
      · split at h
        · cases h; simp only [List.length_cons, List.length_nil]; omega
        · cases h
      · cases h
    · split at h
      · cases h; simp only [List.length_cons, List.length_nil]; omega
      · cases h
theorem pTok_inv {k : Nat} {x : Option (List Op × List Tk)} {c : List Op} {r : List Tk} (h : pTok k x = some (c, r)) : ∃ t, x = some (c, t :: r) ∧ t.1 = k := by
  unfold pTok at h
  split at h
  · split at h
    · next c' t r' e => cases h; exact ⟨t, rfl, e⟩
    · cases h
  · cases h
theorem okP_facB {e f : Ps} (he : okP e) (hf : okP f) : okP (facB e f) := by
  intro ts c r h
  unfold facB at h
  split at h
  · cases h
  · next t r0 =>
    split at h
    · obtain ⟨t', h1, _⟩ := pTok_inv h
      have h2 := he _ _ _ h1
      simp only [List.length_cons] at h2 ⊢
      omega
    · split at h
      · split at h
        · next c' r' e1 =>
          cases h
          have h2 := hf _ _ _ e1
          simp only [List.length_cons, List.length_append, List.length_nil] at h2 ⊢
          omega
        · cases h
      · split at h
        · cases h; simp only [List.length_cons, List.length_nil]; omega
        · split at h
          · cases h; simp only [List.length_cons, List.length_nil]; omega
          · exact okP_col _ _ _ h
theorem okP_fac : ∀ l, okP (pFac l)
  | 0 => okP_facB okP_none okP_none
  | l + 1 => okP_facB (okP_exp (okP_fac l)) (okP_fac l)
theorem okP_ex (l : Nat) : okP (pEx l) := okP_exp (okP_fac l)
theorem okM_cmp (l : Nat) : okM (pCmp l) := by
  intro ts c q r h
  unfold pCmp at h
  split at h
  · cases h
  · cases h
  · next c' t r' e =>
    have h1 := okP_ex l _ _ _ e
    simp only [List.length_cons] at h1
    split at h
    · cases h; simp only [List.length_append, List.length_cons, List.length_nil]; omega
    · split at h
      · split at h
        · next c2 r2 e2 =>
          have h2 := okP_ex l _ _ _ e2
          cases h; simp only [List.length_append, List.length_cons, List.length_nil]; omega
        · cases h
      · cases h
theorem okP_drp {g : Pm} (hg : okM g) : okP (drp g) := by
  intro ts c r h
  unfold drp at h
  split at h
  · next c' q r' e => cases h; exact hg _ _ _ _ e
  · cases h
theorem okP_con {g : Pm} (hg : okM g) : okP (pCon g) := by
  intro ts c r h
  unfold pCon at h
  split at h
  · next c' r' e =>
    have h1 := okP_drp hg _ _ _ e
    have h2 := pLoop_len (okP_drp hg) _ _ _ _ _ _ h
    omega
  · cases h
theorem okP_cnd {g : Pm} (hg : okM g) : okP (pCnd g) := by
  intro ts c r h
  unfold pCnd at h
  split at h
  · next c' r' e =>
    have h1 := okP_con hg _ _ _ e
    have h2 := pLoop_len (okP_con hg) _ _ _ _ _ _ h
    omega
  · cases h
theorem okM_negB {e : Ps} {f g : Pm} (he : okP e) (hf : okM f) (hg : okM g) : okM (negB e f g) := by
  intro ts c q r h
  unfold negB at h
  split at h
  · exact hg _ _ _ _ h
  · split at h
    · split at h
      · next c' r' e1 =>
        cases h
        obtain ⟨t', h1, _⟩ := pTok_inv e1
        have h2 := he _ _ _ h1
        simp only [List.length_cons] at h2 ⊢
        omega
      · cases h
    · split at h
      · split at h
        · next c' q' r' e1 =>
          cases h
          have h2 := hf _ _ _ _ e1
          simp only [List.length_cons, List.length_append, List.length_nil] at h2 ⊢
          omega
        · cases h
      · exact hg _ _ _ _ h
theorem okM_neg : ∀ l, okM (pNeg l)
  | 0 => okM_negB okP_none okM_none (okM_cmp 0)
  | l + 1 => okM_negB (okP_cnd (okM_neg l)) (okM_neg l) (okM_cmp (l + 1))
