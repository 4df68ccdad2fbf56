/-! At most forty parts -/
def Q3 (s : T3) : Prop := 2 * s.2.2.length ≤ s.2.1.length
def QS (s : St) : Prop := Q3 s.1
theorem tyC_two {c : List Op} (h : tyC true c) : 2 ≤ c.length := by
  have h0 := h []
  cases c with
  | nil => cases h0
  | cons x c =>
    cases c with
    | cons y c => rw [List.length_cons, List.length_cons]; omega
    | nil =>
      exfalso
      have key : ty1 x.1 [] = some [true] := by
        have h1 : (match ty1 x.1 [] with | some T' => some T' | none => none) = some [true] := h0
        cases hh : ty1 x.1 [] with
        | none => rw [hh] at h1; cases h1
        | some T => rw [hh] at h1; exact h1
      unfold ty1 at key
      dsimp only at key
      split at key
      · cases key
      · simp at key
theorem Q_part {s e : T3} (h : tPart s = some e) (hq : Q3 s) : Q3 e ∧ 2 ≤ e.2.1.length := by
  unfold tPart at h
  split at h
  · next c q r hn =>
    cases h
    have h2 := tyC_two (ty_neg _ _ _ _ _ hn).1
    unfold Q3 at *
    dsimp only at *
    rw [List.length_append, List.length_append]
    show 2 * (_ + 1) ≤ _ ∧ _
    omega
  · cases h
theorem Q_loop {p : T3 → Option T3} {k : Nat} (hp : ∀ s e, p s = some e → Q3 s → Q3 e ∧ 2 ≤ e.2.1.length) : ∀ (n : Nat) (s e : T3), tLoop p k n s = some e → Q3 s ∧ 2 ≤ s.2.1.length → Q3 e ∧ 2 ≤ e.2.1.length
  | 0, s, e, h, hq => by cases h; exact hq
  | n + 1, s, e, h, hq => by
    have h : (if hd s.1 = k then (match p (s.1.tail, s.2) with | some s' => tLoop p k n (s'.1, s'.2.1 ++ [opr k], s'.2.2) | none => none) else some s) = some e := h
    split at h
    · split at h
      · next s' hs =>
        have h1 := hp _ _ hs hq.1
        refine Q_loop hp n _ e h ⟨?_, ?_⟩
        · unfold Q3 at *
          dsimp only at *
          rw [List.length_append]
          have := h1.1
          show _ ≤ _ + 1
          omega
        · show 2 ≤ (s'.2.1 ++ [opr k]).length
          rw [List.length_append]
          have := h1.2
          omega
      · cases h
    · cases h; exact hq
theorem Q_con {s e : T3} (h : tCon s = some e) (hq : Q3 s) : Q3 e ∧ 2 ≤ e.2.1.length := by
  unfold tCon at h
  split at h
  · next s' hs => exact Q_loop (fun s e h hq => Q_part h hq) 80 _ _ h (Q_part hs hq)
  · cases h
theorem Q_cnd {s e : T3} (h : tCnd s = some e) (hq : Q3 s) : Q3 e := by
  unfold tCnd at h
  split at h
  · next s' hs =>
    split at h
    · next e' he =>
      have h1 := Q_loop (fun s e h hq => Q_con h hq) 80 _ _ he (Q_con hs hq)
      split at h
      · cases h
        exact h1.2
      · cases h; exact h1.1
    · cases h
  · cases h
theorem Q_set {k f : Nat} {g : Nat → Nat} {s e : St} (h : sSet k f g s = some e) (hq : QS s) : QS e := by
  unfold sSet at h
  split at h
  · split at h
    · cases h; exact hq
    · cases h
  · cases h
theorem Q_tok {k : Nat} {s e : St} (h : sTok k s = some e) (hq : QS s) : QS e := by
  rw [(tok_inv h).1]; exact hq
theorem Q_opt {k : Nat} {f : St → Option St} (hf : ∀ s e, f s = some e → QS s → QS e) {s e : St} (h : sOpt k f s = some e) (hq : QS s) : QS e := by
  unfold sOpt at h
  split at h
  · exact hf _ _ h hq
  · cases h; exact hq
theorem Q_ex {s e : St} (h : sEx s = some e) (hq : QS s) : QS e := by
  unfold sEx at h
  split at h
  · cases h
    unfold QS Q3 at *
    dsimp only at *
    rw [List.length_append]
    omega
  · cases h
theorem Q_item {s e : St} (h : sItem s = some e) (hq : QS s) : QS e := by
  unfold sItem at h
  split at h
  · next x hx =>
    have h1 := Q_ex hx hq
    cases h
    exact h1
  · cases h
theorem Q_list : ∀ (n : Nat) {s e : St}, sList n s = some e → QS s → QS e
  | 0, s, e, h, hq => by cases h
  | n + 1, s, e, h, hq => by
    have h : (match sItem s with | some e => if hd e.1.1 = 44 then sList n ((e.1.1.tail, e.1.2), e.2) else some e | none => none) = some e := h
    split at h
    · next x hx =>
      have h1 := Q_item hx hq
      split at h
      · exact Q_list n h h1
      · cases h; exact h1
    · cases h
theorem Q_whr {s e : St} (h : sWhere s = some e) (hq : QS s) : QS e := by
  refine Q_opt (fun s e h hq => ?_) h hq
  split at h
  · next x hx => cases h; exact Q_cnd hx hq
  · cases h
theorem Q_ord {s e : St} (h : sOrder s = some e) (hq : QS s) : QS e := by
  refine Q_opt (fun s e h hq => ?_) h hq
  split at h
  · next x hx =>
    have h1 := Q_ex hx hq
    dsimp only at h
    split at h
    · cases h; exact h1
    · cases h; exact h1
  · cases h
theorem Q_whole {s e : St} (h : sWhole s = some e) (hq : QS s) : QS e := by
  have h0 : QS ((s.1.1.tail, s.1.2), upS s.2 4 (hd s.1.1)) := hq
  unfold sWhole at h
  dsimp only at h
  split at h
  · obtain ⟨s1, e1, h⟩ := bnd_inv h
    exact Q_set h (Q_set e1 h0)
  · split at h
    · obtain ⟨s1, e1, h⟩ := bnd_inv h
      exact Q_set h (Q_set e1 h0)
    · split at h
      · obtain ⟨s1, e1, h⟩ := bnd_inv h
        exact Q_list 80 h (Q_set e1 h0)
      · split at h
        · obtain ⟨s1, e1, h⟩ := bnd_inv h
          obtain ⟨s2, e2, h⟩ := bnd_inv h
          obtain ⟨s3, e3, h⟩ := bnd_inv h
          obtain ⟨s4, e4, h⟩ := bnd_inv h
          exact Q_whr h (Q_item e4 (Q_tok e3 (Q_set e2 (Q_set e1 h0))))
        · split at h
          · obtain ⟨s1, e1, h⟩ := bnd_inv h
            exact Q_whr h (Q_set e1 h0)
          · split at h
            · obtain ⟨s1, e1, h⟩ := bnd_inv h
              split at h
              · cases h
              · obtain ⟨s2, e2, h⟩ := bnd_inv h
                obtain ⟨s3, e3, h⟩ := bnd_inv h
                obtain ⟨s4, e4, h⟩ := bnd_inv h
                obtain ⟨s5, e5, h⟩ := bnd_inv h
                obtain ⟨s6, e6, h⟩ := bnd_inv h
                exact Q_opt (fun _ _ h hq => Q_set h hq) h (Q_ord e6 (Q_whr e5 (Q_opt (fun _ _ h hq => Q_set h hq) e4 (Q_set e3 (Q_tok e2 (Q_list 80 e1 h0))))))
            · cases h
