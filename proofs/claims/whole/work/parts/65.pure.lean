/-! WHAT A STATEMENT'S STEPS ARE: pieces, their kinds, what a part's truth says -/
def seg (cs : List Op) (a b : Nat) : List Op := (cs.drop a).take (b - a)
theorem seg_app {cs ds : List Op} {a b : Nat} (hb : b ≤ cs.length) : seg (cs ++ ds) a b = seg cs a b := by
  unfold seg
  by_cases hab : a ≤ b
  · rw [List.drop_append_of_le_length (by omega), List.take_append_of_le_length (by rw [List.length_drop]; omega)]
  · rw [show b - a = 0 by omega, List.take_zero, List.take_zero]
theorem seg_mid {a b c : List Op} : seg (a ++ b ++ c) a.length (a ++ b).length = b := by
  unfold seg
  rw [List.append_assoc, List.drop_left, List.length_append, Nat.add_sub_cancel_left, List.take_left]
theorem seg_end {a b : List Op} : seg (a ++ b) a.length (a ++ b).length = b := by
  have := seg_mid (a := a) (b := b) (c := [])
  rw [List.append_nil] at this
  exact this
/-- steps leave what lies below -/
theorem evs_frame {env : Evr} : ∀ (c : List Op) (T T' : List Bool) (s st : List Int64), tys c T = some T' → T.length = s.length → evs env c (s ++ st) = evs env c s ++ st ∧ T'.length = (evs env c s).length
  | [], T, T', s, st, h, hl => by cases h; exact ⟨rfl, hl⟩
  | x :: c, T, T', s, st, h, hl => by
    have h : (match ty1 x.1 T with | some T' => tys c T' | none => none) = some T' := h
    cases e : ty1 x.1 T with
    | none => rw [e] at h; cases h
    | some T1 =>
      rw [e] at h
      have hlen := ty_len e
      have key : stp env x (s ++ st) = stp env x s ++ st ∧ T1.length = (stp env x s).length := by
        unfold stp
        rcases ar_le x.1 with ha | ha | ha
        · rw [if_pos ha, if_pos ha]
          refine ⟨rfl, ?_⟩
          have h0 : x.1 = 2 ∨ x.1 = 3 ∨ x.1 = 15 := by
            apply Classical.byContradiction
            intro z
            unfold ar at ha
            rw [if_neg z] at ha
            split at ha <;> cases ha
          unfold ty1 at e
          rw [if_pos h0] at e
          cases e
          rw [List.length_cons, List.length_cons, hl]
        · rw [if_neg (by rw [ha]; decide), if_pos ha, if_neg (by rw [ha]; decide), if_pos ha]
          have h1 := hlen.2.1 ha
          cases s with
          | nil => rw [hl] at h1; exact absurd h1 (by decide)
          | cons v s => exact ⟨rfl, (ty_h1 e ha).trans hl⟩
        · rw [if_neg (by rw [ha]; decide), if_neg (by rw [ha]; decide), if_neg (by rw [ha]; decide), if_neg (by rw [ha]; decide)]
          have h1 := hlen.2.2 ha
          have h2 := ty_h2 e ha
          cases s with
          | nil => rw [hl] at h1; exact absurd h1 (by decide)
          | cons v s =>
            cases s with
            | nil => rw [hl] at h1; exact absurd h1 (by simp)
            | cons u s =>
              refine ⟨rfl, ?_⟩
              rw [List.length_cons, List.length_cons] at hl
              show _ = s.length + 1
              omega
      have := evs_frame (env := env) c T1 T' (stp env x s) st h key.2
      refine ⟨?_, this.2⟩
      show evs env c (stp env x (s ++ st)) = evs env c (stp env x s) ++ st
      rw [key.1]
      exact this.1
theorem evs_val {env : Evr} {c : List Op} {b : Bool} (h : tyC b c) (st : List Int64) : evs env c st = val env c :: st := by
  have h1 := evs_frame (env := env) c [] [b] [] st (h []) rfl
  rw [List.nil_append] at h1
  rw [h1.1]
  unfold val
  cases e : evs env c [] with
  | nil => rw [e] at h1; cases h1.2
  | cons v r =>
    rw [e] at h1
    cases r with
    | nil => rfl
    | cons w r => cases h1.2
theorem val_bin {env : Evr} {c d : List Op} {a : Bool} {k : Nat} (hc : tyC a c) (hd : tyC a d) (hk : ar k = 2) : val env (c ++ d ++ [opr k]) = ev2 k (val env c) (val env d) := by
  have e : evs env (c ++ d ++ [opr k]) [] = [ev2 k (val env c) (val env d)] := by
    rw [evs_app, evs_app, evs_val hc, evs_val hd]
    show stp env (opr k) [val env d, val env c] = _
    unfold stp
    rw [if_neg (show ¬ ar (opr k).1 = 0 from by show ¬ ar k = 0; rw [hk]; decide), if_neg (show ¬ ar (opr k).1 = 1 from by show ¬ ar k = 1; rw [hk]; decide)]
    rfl
  unfold val at e ⊢
  rw [e]; rfl
theorem mn_two {x y : Int64} (hx : x = 0 ∨ x = 1 ∨ x = 2) (hy : y = 0 ∨ y = 1 ∨ y = 2) (h : mnL x y = 2) : x = 2 ∧ y = 2 := by
  rcases hx with rfl | rfl | rfl <;> rcases hy with rfl | rfl | rfl <;> first | exact ⟨rfl, rfl⟩ | exact absurd h (by decide)
/-- a part, as it stands among the steps -/
def okPt (cs : List Op) (p : Pt) : Prop := p.1 < p.2.2 ∧ p.2.2 ≤ cs.length ∧ tyC true (seg cs p.1 p.2.2) ∧ (p.2.1 ≠ 0 → ∃ c1 c2, seg cs p.1 p.2.2 = c1 ++ c2 ++ [opr 61] ∧ p.2.1 = p.1 + c1.length + 1 ∧ tyC false c1 ∧ tyC false c2)
theorem okPt.app {cs ds : List Op} {p : Pt} (h : okPt cs p) : okPt (cs ++ ds) p := by
  obtain ⟨h1, h2, h3, h4⟩ := h
  refine ⟨h1, by rw [List.length_append]; omega, ?_, ?_⟩
  · rw [seg_app h2]; exact h3
  · rw [seg_app h2]; exact h4
theorem okPt_new {S c : List Op} {x : Option Nat} (ht : tyC true c) (hm : midO c x) (h0 : 0 < c.length) : okPt (S ++ c) (S.length, mide S.length x, (S ++ c).length) := by
  refine ⟨?_, Nat.le_refl _, ?_, fun hz => ?_⟩
  · dsimp only; rw [List.length_append]; omega
  · dsimp only; rw [seg_end]; exact ht
  · cases x with
    | none => exact absurd rfl hz
    | some j =>
      obtain ⟨c1, c2, e1, e2, t1, t2⟩ := hm j rfl
      refine ⟨c1, c2, ?_, ?_, t1, t2⟩
      · dsimp only; rw [seg_end]; exact e1
      · show S.length + j + 1 = _; rw [e2]
/-- what is known while the and's are read -/
def TI (base : List Op) (s : T3) : Prop := ∃ code, s.2.1 = base ++ code ∧ tyC true code ∧ (∀ p, p ∈ s.2.2 → okPt s.2.1 p) ∧ ∀ env, EnvOk env code → val env code = 2 → ∀ p, p ∈ s.2.2 → val env (seg s.2.1 p.1 p.2.2) = 2
theorem TI_part {base : List Op} {q : List Tk} {s : T3} (h : tPart (q, base, []) = some s) : TI base s := by
  unfold tPart at h
  dsimp only at h
  split at h
  · next c x r e =>
    cases h
    have ht := ty_neg 8 _ _ _ _ e
    have hl := okM_neg 8 _ _ _ _ e
    refine ⟨c, rfl, ht.1, fun p hp => ?_, fun env he hv p hp => ?_⟩
    · have : p = (base.length, mide base.length x, (base ++ c).length) := by simpa using hp
      subst this
      exact okPt_new ht.1 ht.2 hl.2
    · have : p = (base.length, mide base.length x, (base ++ c).length) := by simpa using hp
      subst this
      dsimp only
      rw [seg_end]; exact hv
  · cases h
theorem EnvOk.l {env : Evr} {a b : List Op} (h : EnvOk env (a ++ b)) : EnvOk env a := fun x hx h3 => h x (List.mem_append.mpr (Or.inl hx)) h3
theorem EnvOk.r {env : Evr} {a b : List Op} (h : EnvOk env (a ++ b)) : EnvOk env b := fun x hx h3 => h x (List.mem_append.mpr (Or.inr hx)) h3
theorem TI_loop {base : List Op} : ∀ (n : Nat) (s s' : T3), TI base s → tLoop tPart 17 n s = some s' → TI base s'
  | 0, s, s', hI, h => by cases h; exact hI
  | n + 1, s, s', hI, h => by
    unfold tLoop at h
    split at h
    · split at h
      · next s1 e =>
        refine TI_loop n _ s' ?_ h
        obtain ⟨code, e1, t1, p1, v1⟩ := hI
        unfold tPart at e
        dsimp only at e
        split at e
        · next c x r ec =>
          cases e
          have ht := ty_neg 8 _ _ _ _ ec
          have hl := okM_neg 8 _ _ _ _ ec
          refine ⟨code ++ c ++ [opr 17], ?_, t1.bin ht.1 (fun T => rfl), fun p hp => ?_, fun env he hv p hp => ?_⟩
          · dsimp only
            rw [e1]; simp only [List.append_assoc]
          · dsimp only at hp ⊢
            rcases List.mem_append.mp hp with z | z
            · exact ((p1 p z).app).app
            · rw [List.mem_singleton.mp z]
              exact (okPt_new ht.1 ht.2 hl.2).app
          · rw [val_bin t1 ht.1 rfl] at hv
            have he1 := he.l.l
            have he2 := he.l.r
            have hv1 := (val_ty he1 t1).1
            have hv2 := (val_ty he2 ht.1).1
            have hmn := mn_two hv1 hv2 hv
            dsimp only at hp ⊢
            rcases List.mem_append.mp hp with z | z
            · have hb := (p1 p z).2.1
              rw [seg_app (by rw [List.length_append]; omega), seg_app hb]
              exact v1 env he1 hmn.1 p z
            · rw [List.mem_singleton.mp z]
              dsimp only
              rw [seg_mid]
              exact hmn.2
        · cases e
      · cases h
    · cases h; exact hI
theorem TI_con {base : List Op} {q : List Tk} {s : T3} (h : tCon (q, base, []) = some s) : TI base s := by
  unfold tCon at h
  split at h
  · next s1 e => exact TI_loop _ _ _ (TI_part e) h
  · cases h
/-- any C: one truth -/
def TC (p : T3 → Option T3) : Prop := ∀ s s', p s = some s' → ∃ code, s'.2.1 = s.2.1 ++ code ∧ tyC true code
theorem TC_part : TC tPart := by
  intro s s' h
  unfold tPart at h
  split at h
  · next c x r e => cases h; exact ⟨c, rfl, (ty_neg 8 _ _ _ _ e).1⟩
  · cases h
theorem TC_loop {p : T3 → Option T3} {k : Nat} (hp : TC p) (hk : ∀ T, ty1 k (true :: true :: T) = some (true :: T)) {base : List Op} : ∀ (n : Nat) (s s' : T3), (∃ code, s.2.1 = base ++ code ∧ tyC true code) → tLoop p k n s = some s' → ∃ code, s'.2.1 = base ++ code ∧ tyC true code
  | 0, s, s', hI, h => by cases h; exact hI
  | n + 1, s, s', hI, h => by
    unfold tLoop at h
    split at h
    · split at h
      · next s1 e =>
        refine TC_loop hp hk n _ s' ?_ h
        obtain ⟨code, e1, t1⟩ := hI
        obtain ⟨c2, e2, t2⟩ := hp _ _ e
        refine ⟨code ++ c2 ++ [opr k], ?_, t1.bin t2 hk⟩
        dsimp only at e2 ⊢
        rw [e2, e1]; simp only [List.append_assoc]
      · cases h
    · cases h; exact hI
theorem TC_con : TC tCon := by
  intro s s' h
  unfold tCon at h
  split at h
  · next s1 e => exact TC_loop TC_part (fun T => rfl) _ _ _ (TC_part _ _ e) h
  · cases h
theorem TI_cnd {base : List Op} {q : List Tk} {s : T3} (h : tCnd (q, base, []) = some s) : TI base s := by
  unfold tCnd at h
  split at h
  · next s1 e =>
    split at h
    · next s2 e2 =>
      split at h
      · obtain ⟨code, c1, c2⟩ := TC_loop TC_con (fun T => rfl) (base := base) _ _ _ (TC_con _ _ e) e2
        cases h
        have hpos : 0 < code.length := by
          cases code with
          | nil => have := c2 []; cases this
          | cons x code => rw [List.length_cons]; omega
        refine ⟨code, c1, c2, fun p hp => ?_, fun env he hv p hp => ?_⟩
        · have : p = (base.length, 0, s2.2.1.length) := by simpa using hp
          subst this
          rw [c1]
          refine ⟨?_, Nat.le_refl _, ?_, fun z => absurd rfl z⟩
          · dsimp only; rw [List.length_append]; omega
          · dsimp only; rw [seg_end]; exact c2
        · have : p = (base.length, 0, s2.2.1.length) := by simpa using hp
          subst this
          dsimp only
          rw [c1, seg_end]; exact hv
      · next hno =>
        have h2 := tLoop_out (p := tCon) (n := 79) hno
        rw [h2] at e2
        cases e2
        cases h
        exact TI_con e
    · cases h
  · cases h
