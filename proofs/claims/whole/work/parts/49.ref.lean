/-! THE REFERENCE: a condition at the top, with its parts -/
section CT
variable {G : List Tk → List Op → List Nat → List Pt → Nat → Nat → Nat → Prop} {B : Prop}
theorem tPart_some {q : List Tk} {cs : List Op} {ps : List Pt} {c : List Op} {mq : Option Nat} {r : List Tk} (h : pNeg 8 q = some (c, mq, r)) : tPart (q, cs, ps) = some (r, cs ++ c, ps ++ [(cs.length, mide cs.length mq, (cs ++ c).length)]) := by
  unfold tPart
  dsimp only
  rw [h]
theorem tPart_none {q : List Tk} {cs : List Op} {ps : List Pt} (h : pNeg 8 q = none) : tPart (q, cs, ps) = none := by
  unfold tPart
  dsimp only
  rw [h]
theorem tLoop_hit {p : T3 → Option T3} {k n : Nat} {t : Tk} {r : List Tk} {x : List Op × List Pt} (ht : t.1 = k) : tLoop p k (n + 1) (t :: r, x) = (match p (r, x) with | some s' => tLoop p k n (s'.1, s'.2.1 ++ [opr k], s'.2.2) | none => none) := by
  show (if hd (t :: r) = k then _ else _) = _
  rw [if_pos (show hd (t :: r) = k from ht)]
  rfl
theorem tLoop_out {p : T3 → Option T3} {k n : Nat} {s : T3} (ht : hd s.1 ≠ k) : tLoop p k (n + 1) s = some s := by
  show (if hd s.1 = k then _ else _) = _
  rw [if_neg ht]
theorem t_and (hX : CC G B) {O : List Nat} {e : Nat} (hO : okO O) : ∀ (n : Nat) (q : List Tk) (cs' : List Op) (A : List Nat) (ps : List Pt) (bg : Nat), q.length < n → q.length ≤ 80 → okN A → (∀ s', tLoop tPart 17 n (q, cs' ++ eh A, ps) = some s' → s'.1.length ≤ q.length → hd s'.1 ≠ 17 → ∀ cs'' A' bg', okN A' → cs'' ++ eh A' = s'.2.1 → G s'.1 cs'' (O ++ A') s'.2.2 e bg' 0) → (tLoop tPart 17 n (q, cs' ++ eh A, ps) = none → B) → G q cs' (O ++ A) ps e bg 0 := by
  intro n
  induction n with
  | zero => intro q cs' A ps bg h; omega
  | succ n ih =>
    intro q cs' A ps bg h h80 hA k1 k2
    by_cases ht : hd q = 17
    · cases q with
      | nil => cases ht
      | cons t r =>
        rw [List.length_cons] at h h80
        have ht : t.1 = 17 := ht
        have hs : nsh (O ++ [14]) = 0 := by rw [nsh_app, nsh_O hO]; rfl
        refine hX.2.2.2.2.1 t r cs' O A ps e bg ht ?_ ?_ ?_
        · rcases hA with rfl | rfl
          · intro x hx; cases hx
          · intro x hx; exact List.mem_singleton.mp hx
        · rcases hO with rfl | rfl <;> decide
        · have := x_neg hX 8 r (cs' ++ eh A) (O ++ [14]) 0 ps e bg (by omega) (by rw [topW_snoc]; decide) (by rw [hs]) ?_ ?_
          · rw [List.replicate_zero, List.append_nil] at this; exact this
          · intro c mq r2 e2
            rw [List.replicate_zero, List.replicate_zero, List.append_nil, List.append_nil]
            have hl := okM_neg 8 _ _ _ _ e2
            have e3 := tPart_some (cs := cs' ++ eh A) (ps := ps) e2
            rw [tLoop_hit ht, e3] at k1 k2
            have o1 : ob (O ++ [14]) bg (cs' ++ eh A) = (cs' ++ eh A).length := if_pos hs
            have o2 : ∀ x y z, psA (O ++ [14]) ps x y z = ps ++ [(x, y, z)] := fun x y z => if_pos hs
            rw [o1, o2, if_pos hs]
            refine ih r2 (cs' ++ eh A ++ c) [14] _ _ (by omega) (by omega) (Or.inr rfl) (fun s' a1 a2 a3 => k1 s' a1 (by rw [List.length_cons]; omega) a3) k2
          · intro e2
            rw [tLoop_hit ht, tPart_none e2] at k2
            exact k2 rfl
    · exact k1 _ (tLoop_out ht) (Nat.le_refl _) ht cs' A bg hA rfl
theorem t_con (hX : CC G B) {O : List Nat} {e bg : Nat} {q : List Tk} {cs : List Op} {ps : List Pt} (hq : q.length ≤ 80) (hO : okO O)
    (k1 : ∀ s', tCon (q, cs, ps) = some s' → s'.1.length < q.length → hd s'.1 ≠ 17 → ∀ cs'' A' bg', okN A' → cs'' ++ eh A' = s'.2.1 → G s'.1 cs'' (O ++ A') s'.2.2 e bg' 0) (k2 : tCon (q, cs, ps) = none → B) : G q cs O ps e bg 1 := by
  have hs : nsh O = 0 := nsh_O hO
  have e1 : ∀ x, tPart (q, cs, ps) = x → tCon (q, cs, ps) = (match x with | some s' => tLoop tPart 17 80 s' | none => none) := by
    intro x hx
    subst hx
    rfl
  have := x_neg hX 8 q cs O 0 ps e bg hq (by rcases hO with rfl | rfl <;> decide) (by rw [hs]) ?_ ?_
  · rw [List.replicate_zero, List.append_nil] at this; exact this
  · intro c mq r e2
    rw [List.replicate_zero, List.replicate_zero, List.append_nil, List.append_nil]
    have hl := okM_neg 8 _ _ _ _ e2
    have e3 := e1 _ (tPart_some (cs := cs) (ps := ps) e2)
    rw [e3] at k1 k2
    have o1 : ob O bg cs = cs.length := if_pos hs
    have o2 : ∀ x y z, psA O ps x y z = ps ++ [(x, y, z)] := fun x y z => if_pos hs
    rw [o1, o2, if_pos hs]
    have := t_and hX (e := e) hO 80 r (cs ++ c) [] (ps ++ [(cs.length, mide cs.length mq, (cs ++ c).length)]) cs.length (by omega) (by omega) (Or.inl rfl) (fun s' a1 a2 a3 => k1 s' (by rw [eh_nil, List.append_nil] at a1; exact a1) (by omega) a3) (fun a1 => k2 (by rw [eh_nil, List.append_nil] at a1; exact a1))
    rw [List.append_nil] at this
    exact this
  · intro e2
    exact k2 (e1 _ (tPart_none e2))
theorem t_or (hX : CC G B) : ∀ (n : Nat) (q : List Tk) (cs' : List Op) (O A : List Nat) (ps : List Pt) (e bg : Nat), q.length < n → q.length ≤ 80 → okO O → okN A → hd q ≠ 17 → (∀ s', tLoop tCon 16 n (q, cs' ++ eh A ++ eh O, ps) = some s' → hd s'.1 ≠ 17 → hd s'.1 ≠ 16 → ∀ cs'' O' A' bg', okO O' → okN A' → cs'' ++ eh A' ++ eh O' = s'.2.1 → G s'.1 cs'' (O' ++ A') s'.2.2 (if hd q = 16 then 1 else e) bg' 0) → (tLoop tCon 16 n (q, cs' ++ eh A ++ eh O, ps) = none → B) → G q cs' (O ++ A) ps e bg 0 := by
  intro n
  induction n with
  | zero => intro q cs' O A ps e bg h; omega
  | succ n ih =>
    intro q cs' O A ps e bg h h80 hO hA h17 k1 k2
    by_cases ht : hd q = 16
    · rw [if_pos ht] at k1
      cases q with
      | nil => cases ht
      | cons t r =>
        rw [List.length_cons] at h h80
        have ht : t.1 = 16 := ht
        have := hX.2.2.2.2.2.1 t r cs' [] (O ++ A) ps e bg ht ?_ (by decide) (by decide) ?_
        · exact this
        · intro x hx
          rcases hO with rfl | rfl <;> rcases hA with rfl | rfl <;> simp at hx <;> omega
        · rw [if_pos (show nsh [] = 0 from rfl), List.nil_append, eh_app, ← List.append_assoc]
          refine t_con hX (by omega) (Or.inr rfl) (fun s' e2 hl h17' cs2 A2 bg2 hA2 he2 => ?_) (fun e2 => ?_)
          · rw [tLoop_hit ht, e2] at k1 k2
            dsimp only at k1 k2
            have e5 : s'.2.1 ++ [opr 16] = cs2 ++ eh A2 ++ eh [15] := by rw [he2]; rfl
            rw [e5] at k1 k2
            refine ih s'.1 cs2 [15] A2 s'.2.2 1 bg2 (by omega) (by omega) (Or.inr rfl) hA2 h17' (fun s2 a1 a2 a3 => ?_) k2
            have e6 : (if hd s'.1 = 16 then 1 else 1) = 1 := by split <;> rfl
            rw [e6]
            exact k1 s2 a1 a2 a3
          · rw [tLoop_hit ht, e2] at k2
            exact k2 rfl
    · rw [if_neg ht] at k1
      exact k1 _ (tLoop_out ht) h17 ht cs' O A bg hO hA rfl
theorem t_cnd (hX : CC G B) {e bg : Nat} {q : List Tk} {cs : List Op} {ps : List Pt} (hq : q.length ≤ 80)
    (k1 : ∀ s1 s', tCon (q, cs, ps) = some s1 → tLoop tCon 16 80 s1 = some s' → hd s'.1 ≠ 17 → hd s'.1 ≠ 16 → ∀ cs'' O' A' bg', okO O' → okN A' → cs'' ++ eh A' ++ eh O' = s'.2.1 → G s'.1 cs'' (O' ++ A') s'.2.2 (if hd s1.1 = 16 then 1 else e) bg' 0) (k2 : tCnd (q, cs, ps) = none → B) : G q cs [] ps e bg 1 := by
  have e1 : ∀ x, tCon (q, cs, ps) = x → tCnd (q, cs, ps) = (match x with | some s' => (match tLoop tCon 16 80 s' with | some e => if hd s'.1 = 16 then some (e.1, e.2.1, [(cs.length, 0, e.2.1.length)]) else some e | none => none) | none => none) := by
    intro x hx
    subst hx
    rfl
  refine t_con hX hq (Or.inl rfl) (fun s1 e2 hl h17 cs2 A2 bg2 hA2 he2 => ?_) (fun e2 => k2 (e1 _ e2))
  refine t_or hX 80 s1.1 cs2 [] A2 s1.2.2 e bg2 (by omega) (by omega) (Or.inl rfl) hA2 h17 (fun s2 a1 a2 a3 => ?_) (fun a1 => ?_)
  · rw [eh_nil, List.append_nil, he2] at a1
    exact k1 s1 s2 e2 a1 a2 a3
  · rw [eh_nil, List.append_nil, he2] at a1
    refine k2 ((e1 _ e2).trans ?_)
    dsimp only
    rw [show tLoop tCon 16 80 s1 = none from a1]
end CT
