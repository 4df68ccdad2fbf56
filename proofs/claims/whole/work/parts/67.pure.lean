/-! A STATEMENT THAT WAS READ fits -/
theorem bnd_inv {x : Option St} {f : St → Option St} {e : St} (h : bnd x f = some e) : ∃ s, x = some s ∧ f s = some e := by
  cases x with
  | none => cases h
  | some s => exact ⟨s, rfl, h⟩
def VF (e : St) (v : Nat) : Prop := e.2.1 4 = v ∧ (v = 4 ∨ v = 5 ∨ v = 6 ∨ v = 7 ∨ v = 8 ∨ v = 9) ∧ (v ≠ 9 → e.2.1 6 = 0 ∧ e.2.1 13 = 0 ∧ e.2.1 15 = 0) ∧ ((v = 4 ∨ v = 5) → e.1.2.1 = [] ∧ e.2.2 = [] ∧ e.2.1 11 = 0) ∧ (v = 6 → 0 < e.2.2.length ∧ e.2.1 11 = 0) ∧ (v = 7 → e.2.2.length = 1) ∧ (v = 8 → e.2.2 = []) ∧ (v = 9 → 0 < e.2.2.length ∧ e.2.2.length ≤ 3)
theorem b5 (t : Tk) (h : tv t) (h1 : t.1 = 1) : ((5 : Nat) = 5 → idN t.2 < 3) ∧ ((5 : Nat) = 6 → idN t.2 ≤ 3) ∧ ((5 : Nat) = 7 → idN t.2 < 4) ∧ ((5 : Nat) = 8 → idN t.2 < 2 ^ 30) ∧ ((5 : Nat) = 15 → idN t.2 ≤ 2 ^ 30) := ⟨fun _ => tv_tab h h1, fun z => absurd z (by decide), fun z => absurd z (by decide), fun z => absurd z (by decide), fun z => absurd z (by decide)⟩
theorem b7 (t : Tk) (h : tv t) (h1 : t.1 = 3) : ((7 : Nat) = 5 → idN t.2 < 3) ∧ ((7 : Nat) = 6 → idN t.2 ≤ 3) ∧ ((7 : Nat) = 7 → idN t.2 < 4) ∧ ((7 : Nat) = 8 → idN t.2 < 2 ^ 30) ∧ ((7 : Nat) = 15 → idN t.2 ≤ 2 ^ 30) := ⟨fun z => absurd z (by decide), fun z => absurd z (by decide), fun _ => tv_col h h1, fun z => absurd z (by decide), fun z => absurd z (by decide)⟩
theorem b8 (t : Tk) (h : tv t) (h1 : t.1 = 2) : ((8 : Nat) = 5 → idN t.2 < 3) ∧ ((8 : Nat) = 6 → idN t.2 ≤ 3) ∧ ((8 : Nat) = 7 → idN t.2 < 4) ∧ ((8 : Nat) = 8 → idN t.2 < 2 ^ 30) ∧ ((8 : Nat) = 15 → idN t.2 ≤ 2 ^ 30) := ⟨fun z => absurd z (by decide), fun z => absurd z (by decide), fun z => absurd z (by decide), fun _ => tv_num h h1, fun z => absurd z (by decide)⟩
theorem b6 (t : Tk) (h : tv t) (h1 : t.1 = 1) : ((6 : Nat) = 5 → t.2 + 1 < 3) ∧ ((6 : Nat) = 6 → t.2 + 1 ≤ 3) ∧ ((6 : Nat) = 7 → t.2 + 1 < 4) ∧ ((6 : Nat) = 8 → t.2 + 1 < 2 ^ 30) ∧ ((6 : Nat) = 15 → t.2 + 1 ≤ 2 ^ 30) := ⟨fun z => absurd z (by decide), fun _ => tv_tab h h1, fun z => absurd z (by decide), fun z => absurd z (by decide), fun z => absurd z (by decide)⟩
theorem b15 (t : Tk) (h : tv t) (h1 : t.1 = 2) : ((15 : Nat) = 5 → t.2 + 1 < 3) ∧ ((15 : Nat) = 6 → t.2 + 1 ≤ 3) ∧ ((15 : Nat) = 7 → t.2 + 1 < 4) ∧ ((15 : Nat) = 8 → t.2 + 1 < 2 ^ 30) ∧ ((15 : Nat) = 15 → t.2 + 1 ≤ 2 ^ 30) := ⟨fun z => absurd z (by decide), fun z => absurd z (by decide), fun z => absurd z (by decide), fun z => absurd z (by decide), fun _ => tv_num h h1⟩
theorem tok_inv {k : Nat} {s e : St} (h : sTok k s = some e) : e = ((s.1.1.tail, s.1.2), s.2) ∧ hd s.1.1 = k := by
  unfold sTok at h
  split at h
  · next hh => cases h; exact ⟨rfl, hh⟩
  · cases h
theorem opt_set {k j f : Nat} {g : Nat → Nat} {s e : St} (h : WF s) (hq : tvs s.1.1) (hk : k ≠ 0) (hk19 : k ≠ 19) (hf : f = 5 ∨ f = 6 ∨ f = 7 ∨ f = 8 ∨ f = 15) (hv : ∀ t : Tk, tv t → t.1 = j → (f = 5 → g t.2 < 3) ∧ (f = 6 → g t.2 ≤ 3) ∧ (f = 7 → g t.2 < 4) ∧ (f = 8 → g t.2 < 2 ^ 30) ∧ (f = 15 → g t.2 ≤ 2 ^ 30)) (h19 : j ≠ 19) (he : sOpt k (sSet j f g) s = some e) : WF e ∧ e.2.2 = s.2.2 ∧ e.1.2 = s.1.2 ∧ (∀ i, i ≠ f → e.2.1 i = s.2.1 i) ∧ tvs e.1.1 := by
  unfold sOpt at he
  split at he
  · next hh =>
    exact WF.set (s := ((s.1.1.tail, s.1.2), s.2)) h ((hdT hk hk19 hh).tvs hq) hf hv h19 he
  · cases he
    exact ⟨h, rfl, rfl, fun _ _ => rfl, hq⟩
theorem WF0 (q : List Tk) (v : Nat) : WF ((q, [], []), upS sc0 4 v) := by
  refine ⟨(fun x hx => by cases hx), (fun i hi => by cases hi), fun h => absurd rfl h, fun h => absurd rfl h, (fun p hp => by cases hp), fun env _ h => absurd rfl h, fun _ => ⟨rfl, rfl⟩, fun _ => ⟨rfl, rfl⟩, ?_, ?_, ?_, ?_, ?_, ?_⟩
  · show 0 < 3; decide
  · show 0 ≤ 3; decide
  · show 0 < 4; decide
  · show 0 < 2 ^ 30; decide
  · show 0 ≤ 2 ^ 30; decide
  · show 0 < 2; decide
theorem whole_wf {ts : List Tk} {e : St} (hq : tvs ts) (h : sWhole ((ts, [], []), sc0) = some e) : WF e ∧ VF e (hd ts) := by
  have h0 : WF ((ts.tail, [], []), upS sc0 4 (hd ts)) := WF0 _ _
  have hqt : tvs ts.tail := fun t ht => hq t (List.mem_of_mem_tail ht)
  have a0 : atE ((ts.tail, [], []), upS sc0 4 (hd ts)) := rfl
  unfold sWhole at h
  dsimp only at h
  split at h
  · next hv =>
    obtain ⟨s1, e1, h⟩ := bnd_inv h
    have w1 := h0.set hqt (Or.inl rfl) b5 (by decide) e1
    have w2 := w1.1.set w1.2.2.2.2 (Or.inr (Or.inr (Or.inr (Or.inl rfl)))) b8 (by decide) h
    have F : ∀ j, j ≠ 5 → j ≠ 8 → e.2.1 j = (upS sc0 4 (hd ts)).1 j := fun j q1 q2 => (w2.2.2.2.1 j q2).trans (w1.2.2.2.1 j q1)
    have L : e.2.2 = [] := w2.2.1.trans w1.2.1
    have C : e.1.2 = ([], []) := w2.2.2.1.trans w1.2.2.1
    refine ⟨w2.1, ?_, by omega, fun _ => ⟨F 6 (by decide) (by decide), F 13 (by decide) (by decide), F 15 (by decide) (by decide)⟩, fun _ => ⟨by rw [C], L, F 11 (by decide) (by decide)⟩, fun z => by omega, fun z => by omega, fun _ => L, fun z => by omega⟩
    exact F 4 (by decide) (by decide)
  · split at h
    · next hv =>
      obtain ⟨s1, e1, h⟩ := bnd_inv h
      have w1 := h0.set hqt (Or.inl rfl) b5 (by decide) e1
      have w2 := w1.1.set w1.2.2.2.2 (Or.inr (Or.inr (Or.inl rfl))) b7 (by decide) h
      have F : ∀ j, j ≠ 5 → j ≠ 7 → e.2.1 j = (upS sc0 4 (hd ts)).1 j := fun j q1 q2 => (w2.2.2.2.1 j q2).trans (w1.2.2.2.1 j q1)
      have L : e.2.2 = [] := w2.2.1.trans w1.2.1
      have C : e.1.2 = ([], []) := w2.2.2.1.trans w1.2.2.1
      refine ⟨w2.1, ?_, by omega, fun _ => ⟨F 6 (by decide) (by decide), F 13 (by decide) (by decide), F 15 (by decide) (by decide)⟩, fun _ => ⟨by rw [C], L, F 11 (by decide) (by decide)⟩, fun z => by omega, fun z => by omega, fun _ => L, fun z => by omega⟩
      exact F 4 (by decide) (by decide)
    · split at h
      · next hv =>
        obtain ⟨s1, e1, h⟩ := bnd_inv h
        have w1 := h0.set hqt (Or.inl rfl) b5 (by decide) e1
        have a1 : atE s1 := by
          show s1.1.2.1.length = tmF s1.2 s1.2.2.length
          rw [w1.2.1, w1.2.2.1]; rfl
        have w2 := WF.list 80 s1 e w1.1 a1 w1.2.2.2.2 h
        have F : ∀ j, j ≠ 5 → e.2.1 j = (upS sc0 4 (hd ts)).1 j := fun j q1 => by rw [w2.2.2.1]; exact w1.2.2.2.1 j q1
        refine ⟨w2.1, ?_, by omega, fun _ => ⟨F 6 (by decide), F 13 (by decide), F 15 (by decide)⟩, fun z => by omega, fun _ => ⟨by have := w2.2.2.2.2.1; omega, F 11 (by decide)⟩, fun z => by omega, fun z => by omega, fun z => by omega⟩
        exact F 4 (by decide)
      · split at h
        · next hv =>
          obtain ⟨s1, e1, h⟩ := bnd_inv h
          obtain ⟨s2, e2, h⟩ := bnd_inv h
          obtain ⟨s3, e3, h⟩ := bnd_inv h
          obtain ⟨s4, e4, h⟩ := bnd_inv h
          have w1 := h0.set hqt (Or.inl rfl) b5 (by decide) e1
          have w2 := w1.1.set w1.2.2.2.2 (Or.inr (Or.inr (Or.inl rfl))) b7 (by decide) e2
          have t3 := tok_inv e3
          have w3 : WF s3 := by rw [t3.1]; exact w2.1
          have q3 : tvs s3.1.1 := (nS_tok (by decide) (by decide) _ _ e3).tvs w2.2.2.2.2
          have a3 : atE s3 := by
            show s3.1.2.1.length = tmF s3.2 s3.2.2.length
            rw [t3.1]
            show s2.1.2.1.length = tmF s2.2 s2.2.2.length
            rw [w2.2.1, w2.2.2.1, w1.2.1, w1.2.2.1]; rfl
          have w4 := w3.item a3 q3 e4
          have q4 := (nS_item _ _ e4).tvs q3
          have F4 : ∀ j, j ≠ 5 → j ≠ 7 → s4.2.1 j = (upS sc0 4 (hd ts)).1 j := fun j q1 q2 => by
            rw [w4.2.2.1, t3.1]
            exact (w2.2.2.2.1 j q2).trans (w1.2.2.2.1 j q1)
          have w5 := w4.1.whr (F4 11 (by decide) (by decide)) q4 h
          have F : ∀ j, j ≠ 5 → j ≠ 7 → j ≠ 10 → j ≠ 11 → e.2.1 j = (upS sc0 4 (hd ts)).1 j := fun j q1 q2 q3 q4 => (w5.2.2.1 j q3 q4).trans (F4 j q1 q2)
          have L : e.2.2.length = 1 := by
            rw [w5.2.1, w4.2.2.2.2.1, t3.1]
            show s2.2.2.length + 1 = 1
            rw [w2.2.1, w1.2.1]; rfl
          refine ⟨w5.1, ?_, by omega, fun _ => ⟨F 6 (by decide) (by decide) (by decide) (by decide), F 13 (by decide) (by decide) (by decide) (by decide), F 15 (by decide) (by decide) (by decide) (by decide)⟩, fun z => by omega, fun z => by omega, fun _ => L, fun z => by omega, fun z => by omega⟩
          exact F 4 (by decide) (by decide) (by decide) (by decide)
        · split at h
          · next hv =>
            obtain ⟨s1, e1, h⟩ := bnd_inv h
            have w1 := h0.set hqt (Or.inl rfl) b5 (by decide) e1
            have w2 := w1.1.whr (w1.2.2.2.1 11 (by decide)) w1.2.2.2.2 h
            have F : ∀ j, j ≠ 5 → j ≠ 10 → j ≠ 11 → e.2.1 j = (upS sc0 4 (hd ts)).1 j := fun j q1 q2 q3 => (w2.2.2.1 j q2 q3).trans (w1.2.2.2.1 j q1)
            have L : e.2.2 = [] := w2.2.1.trans w1.2.1
            refine ⟨w2.1, ?_, by omega, fun _ => ⟨F 6 (by decide) (by decide) (by decide), F 13 (by decide) (by decide) (by decide), F 15 (by decide) (by decide) (by decide)⟩, fun z => by omega, fun z => by omega, fun z => by omega, fun _ => L, fun z => by omega⟩
            exact F 4 (by decide) (by decide) (by decide)
          · split at h
            · next hv =>
              obtain ⟨s1, e1, h⟩ := bnd_inv h
              split at h
              · cases h
              · next h3 =>
                obtain ⟨s2, e2, h⟩ := bnd_inv h
                obtain ⟨s3, e3, h⟩ := bnd_inv h
                obtain ⟨s4, e4, h⟩ := bnd_inv h
                obtain ⟨s5, e5, h⟩ := bnd_inv h
                obtain ⟨s6, e6, h⟩ := bnd_inv h
                have w1 := WF.list 80 _ s1 h0 a0 hqt e1
                have t2 := tok_inv e2
                have w2 : WF s2 := by rw [t2.1]; exact w1.1
                have q2 : tvs s2.1.1 := (nS_tok (by decide) (by decide) _ _ e2).tvs w1.2.2.2.2.2
                have w3 := w2.set q2 (Or.inl rfl) b5 (by decide) e3
                have w4 := opt_set w3.1 w3.2.2.2.2 (by decide) (by decide) (Or.inr (Or.inl rfl)) b6 (by decide) e4
                have F4 : ∀ j, j ≠ 5 → j ≠ 6 → s4.2.1 j = (upS sc0 4 (hd ts)).1 j := fun j q1 q2 => by
                  rw [w4.2.2.2.1 j q2, w3.2.2.2.1 j q1, t2.1]
                  show s1.2.1 j = _
                  rw [w1.2.2.1]
                have w5 := w4.1.whr (F4 11 (by decide) (by decide)) w4.2.2.2.2 e5
                have F5 : ∀ j, j ≠ 5 → j ≠ 6 → j ≠ 10 → j ≠ 11 → s5.2.1 j = (upS sc0 4 (hd ts)).1 j := fun j q1 q2 q3 q4 => (w5.2.2.1 j q3 q4).trans (F4 j q1 q2)
                have w6 := w5.1.ord (F5 13 (by decide) (by decide) (by decide) (by decide)) w5.2.2.2 e6
                have w7 := opt_set w6.1 w6.2.2.2 (by decide) (by decide) (Or.inr (Or.inr (Or.inr (Or.inr rfl)))) b15 (by decide) h
                have L : e.2.2 = s1.2.2 := by
                  rw [w7.2.1, w6.2.1, w5.2.1, w4.2.1, w3.2.1, t2.1]
                refine ⟨w7.1, ?_, by omega, fun z => by omega, fun z => by omega, fun z => by omega, fun z => by omega, fun z => by omega, fun _ => ⟨by rw [L]; have := w1.2.2.2.2.1; omega, by rw [L]; omega⟩⟩
                rw [w7.2.2.2.1 4 (by decide), w6.2.2.1 4 (by decide) (by decide) (by decide)]
                exact F5 4 (by decide) (by decide) (by decide) (by decide)
            · cases h
