/-! THE REFERENCE: an expression by what waits, against the spec. G q cs W w: from tokens q, steps cs, what waits W (the last on top), an operand wanted or not; B: the bad end -/
def unr (x : Nat) : Nat := if x = 4 then 43 else if x = 5 then 45 else if x = 6 then 42 else if x = 7 then 47 else if x = 8 then 30 else x
def em (P : List Nat) : List Op := P.reverse.map (fun x => opr (unr x))
theorem em_app (P Q : List Nat) : em (P ++ Q) = em Q ++ em P := by
  unfold em
  rw [List.reverse_append, List.map_append]
theorem em_nil : em [] = [] := rfl
theorem em_one (x : Nat) : em [x] = [opr (unr x)] := rfl
theorem em_len (P : List Nat) : (em P).length = P.length := by
  unfold em
  rw [List.length_map, List.length_reverse]
def leaf : Ps := fun ts => match ts with
  | [] => none
  | t :: r => if t.1 = 2 then some ([(2, t.2, 0)], r) else if t.1 = 15 then some ([(15, 0, 0)], r) else pCol (t :: r)
def XC (o : Nat) (G : List Tk → List Op → List Nat → Nat → Prop) (B : Prop) : Prop :=
  (∀ t r cs W, t.1 = 40 ∨ t.1 = 45 → nst W + o ≤ 7 → G r cs (W ++ [if t.1 = 40 then 16 else 8]) 1 → G (t :: r) cs W 1) ∧
  (∀ t r cs W, t.1 = 40 ∨ t.1 = 45 → 7 < nst W + o → B → G (t :: r) cs W 1) ∧
  (∀ q x r cs W0 k, hd q ≠ 40 → hd q ≠ 45 → leaf q = some (x, r) → topW W0 ≠ 8 → G r (cs ++ x ++ List.replicate k (opr 30)) W0 0 → G q cs (W0 ++ List.replicate k 8) 1) ∧
  (∀ q cs W, hd q ≠ 40 → hd q ≠ 45 → leaf q = none → B → G q cs W 1) ∧
  (∀ t r cs W0 P, isMul t.1 = true → (∀ x ∈ P, x = 6 ∨ x = 7) → topW W0 ≠ 6 → topW W0 ≠ 7 → G r (cs ++ em P) (W0 ++ [rop t.1]) 1 → G (t :: r) cs (W0 ++ P) 0) ∧
  (∀ t r cs W0 P, isAdd t.1 = true → (∀ x ∈ P, 4 ≤ x ∧ x ≤ 7) → (topW W0 < 4 ∨ 7 < topW W0) → G r (cs ++ em P) (W0 ++ [rop t.1]) 1 → G (t :: r) cs (W0 ++ P) 0) ∧
  (∀ t r cs W0 k P, t.1 = 41 → (∀ x ∈ P, 4 ≤ x ∧ x ≤ 7) → topW W0 ≠ 8 → G r (cs ++ em P ++ List.replicate k (opr 30)) W0 0 → G (t :: r) cs (W0 ++ List.replicate k 8 ++ [16] ++ P) 0) ∧
  (∀ q cs W, isAdd (hd q) = false → isMul (hd q) = false → hd q ≠ 41 → 16 ∈ W → B → G q cs W 0)
def okA (A : List Nat) : Prop := A = [] ∨ A = [4] ∨ A = [5]
def okU (A : List Nat) : Prop := A = [] ∨ A = [6] ∨ A = [7]
def okW (W : List Nat) : Prop := topW W < 4 ∨ 8 < topW W
theorem isMul_iff (k : Nat) : isMul k = true ↔ k = 42 ∨ k = 47 := by
  unfold isMul; simp
theorem isAdd_iff (k : Nat) : isAdd k = true ↔ k = 43 ∨ k = 45 := by
  unfold isAdd; simp
theorem facB_leaf {e f : Ps} {q : List Tk} (h1 : hd q ≠ 40) (h2 : hd q ≠ 45) : facB e f q = leaf q := by
  cases q with
  | nil => rfl
  | cons t r =>
    have h1 : t.1 ≠ 40 := h1
    have h2 : t.1 ≠ 45 := h2
    unfold facB leaf
    dsimp only
    rw [if_neg h1, if_neg h2]
theorem okW.top {W A : List Nat} (h : okW W) (hA : okA A) : topW (W ++ A) ≠ 6 ∧ topW (W ++ A) ≠ 7 ∧ topW (W ++ A) ≠ 8 := by
  rcases hA with rfl | rfl | rfl
  · rw [List.append_nil]; rcases h with h | h <;> omega
  · rw [topW_snoc]; decide
  · rw [topW_snoc]; decide
theorem nst_A {A : List Nat} (hA : okA A) : nst A = 0 := by rcases hA with rfl | rfl | rfl <;> rfl
section XP
variable {G : List Tk → List Op → List Nat → Nat → Prop} {B : Prop} {o : Nat}
def FacL (o : Nat) (G : List Tk → List Op → List Nat → Nat → Prop) (B : Prop) (l : Nat) : Prop := ∀ q cs W0 k, q.length ≤ 80 → topW W0 ≠ 8 → nst W0 + k + o + l = 8 → (∀ c r, pFac l q = some (c, r) → G r (cs ++ c ++ List.replicate k (opr 30)) W0 0) → (pFac l q = none → B) → G q cs (W0 ++ List.replicate k 8) 1
theorem x_mul {l : Nat} (hX : XC o G B) (hF : FacL o G B l) {W1 A : List Nat} {cs : List Op} (hW : okW W1) (hA : okA A) (hn : nst W1 + o + l = 8) : ∀ (n : Nat) (q : List Tk) (acc cs' : List Op) (U : List Nat), q.length < n → q.length ≤ 80 → cs' ++ em U = cs ++ acc → okU U → (∀ c r, pLoop (pFac l) isMul n acc q = some (c, r) → r.length ≤ q.length → isMul (hd r) = false → ∀ cs'' U', okU U' → cs'' ++ em U' = cs ++ c → G r cs'' (W1 ++ A ++ U') 0) → (pLoop (pFac l) isMul n acc q = none → B) → G q cs' (W1 ++ A ++ U) 0 := by
  intro n
  induction n with
  | zero => intro q acc cs' U h; omega
  | succ n ih =>
    intro q acc cs' U h h80 he hU k1 k2
    cases q with
    | nil => exact k1 acc [] rfl (Nat.le_refl _) rfl cs' U hU he
    | cons t r =>
      rw [List.length_cons] at h h80
      by_cases ht : isMul t.1 = true
      · have htt := (isMul_iff _).mp ht
        have hT := hW.top hA
        have e1 : ∀ x, pFac l r = x → pLoop (pFac l) isMul (n + 1) acc (t :: r) = (match x with | some (c, r') => pLoop (pFac l) isMul n (acc ++ c ++ [opr t.1]) r' | none => none) := by
          intro x hx
          subst hx
          show (if isMul t.1 = true then _ else _) = _
          rw [if_pos ht]
          rfl
        refine hX.2.2.2.2.1 t r cs' (W1 ++ A) U ht ?_ hT.1 hT.2.1 ?_
        · rcases hU with rfl | rfl | rfl
          · intro x hx; cases hx
          · intro x hx; left; exact List.mem_singleton.mp hx
          · intro x hx; right; exact List.mem_singleton.mp hx
        · have hr : okU [rop t.1] ∧ [opr (unr (rop t.1))] = [opr t.1] ∧ rop t.1 ≠ 8 ∧ nst [rop t.1] = 0 := by
            rcases htt with z | z
            · rw [z]; exact ⟨Or.inr (Or.inl rfl), rfl, by decide, rfl⟩
            · rw [z]; exact ⟨Or.inr (Or.inr rfl), rfl, by decide, rfl⟩
          have := hF r (cs' ++ em U) (W1 ++ A ++ [rop t.1]) 0 (by omega) (by rw [topW_snoc]; exact hr.2.2.1) (by rw [nst_app, nst_app, nst_A hA, hr.2.2.2]; omega) ?_ ?_
          · rw [List.replicate_zero, List.append_nil] at this; exact this
          · intro c r2 e2
            rw [List.replicate_zero, List.append_nil]
            have hl := okP_fac l _ _ _ e2
            have e3 := e1 _ e2
            rw [e3] at k1 k2
            refine ih r2 (acc ++ c ++ [opr t.1]) _ [rop t.1] (by omega) (by omega) ?_ hr.1 (fun c1 r1 a1 a2 a3 => k1 c1 r1 a1 (by rw [List.length_cons]; omega) a3) k2
            rw [he, em_one, hr.2.1, List.append_assoc, List.append_assoc, List.append_assoc]
          · intro e2
            have e3 := e1 _ e2
            rw [e3] at k2
            exact k2 rfl
      · have e1 : pLoop (pFac l) isMul (n + 1) acc (t :: r) = some (acc, t :: r) := by
          show (if isMul t.1 = true then _ else _) = _
          rw [if_neg ht]
        exact k1 acc (t :: r) e1 (Nat.le_refl _) (Bool.not_eq_true _ ▸ ht) cs' U hU he
theorem x_prod {l : Nat} (hX : XC o G B) (hF : FacL o G B l) {W1 A : List Nat} {cs : List Op} {q : List Tk} (hq : q.length ≤ 80) (hW : okW W1) (hA : okA A) (hn : nst W1 + o + l = 8)
    (k1 : ∀ c r, pProd (pFac l) q = some (c, r) → r.length < q.length → isMul (hd r) = false → ∀ cs'' U', okU U' → cs'' ++ em U' = cs ++ c → G r cs'' (W1 ++ A ++ U') 0) (k2 : pProd (pFac l) q = none → B) : G q cs (W1 ++ A) 1 := by
  have e1 : ∀ x, pFac l q = x → pProd (pFac l) q = (match x with | some (c, r) => pLoop (pFac l) isMul 80 c r | none => none) := by
    intro x hx
    subst hx
    rfl
  have := hF q cs (W1 ++ A) 0 hq (hW.top hA).2.2 (by rw [nst_app, nst_A hA]; omega) ?_ ?_
  · rw [List.replicate_zero, List.append_nil] at this; exact this
  · intro c r e2
    have hl := okP_fac l _ _ _ e2
    have e3 := e1 _ e2
    rw [e3] at k1 k2
    have := x_mul hX hF (cs := cs) hW hA hn 80 r c (cs ++ c) [] (by omega) (by omega) (by rw [em_nil, List.append_nil]) (Or.inl rfl) (fun c1 r1 a1 a2 a3 => k1 c1 r1 a1 (by omega) a3) k2
    rw [List.append_nil] at this
    rw [List.replicate_zero, List.append_nil]
    exact this
  · intro e2
    have e3 := e1 _ e2
    rw [e3] at k2
    exact k2 rfl
theorem x_add {l : Nat} (hX : XC o G B) (hF : FacL o G B l) {W1 : List Nat} {cs : List Op} (hW : okW W1) (hn : nst W1 + o + l = 8) : ∀ (n : Nat) (q : List Tk) (acc cs' : List Op) (A U : List Nat), q.length < n → q.length ≤ 80 → cs' ++ em U ++ em A = cs ++ acc → okA A → okU U → isMul (hd q) = false → (∀ c r, pLoop (pProd (pFac l)) isAdd n acc q = some (c, r) → isAdd (hd r) = false → isMul (hd r) = false → ∀ cs'' A' U', okA A' → okU U' → cs'' ++ em U' ++ em A' = cs ++ c → G r cs'' (W1 ++ A' ++ U') 0) → (pLoop (pProd (pFac l)) isAdd n acc q = none → B) → G q cs' (W1 ++ A ++ U) 0 := by
  intro n
  induction n with
  | zero => intro q acc cs' A U h; omega
  | succ n ih =>
    intro q acc cs' A U h h80 he hA hU hm k1 k2
    cases q with
    | nil => exact k1 acc [] rfl rfl rfl cs' A U hA hU he
    | cons t r =>
      rw [List.length_cons] at h h80
      by_cases ht : isAdd t.1 = true
      · have htt := (isAdd_iff _).mp ht
        have e1 : ∀ x, pProd (pFac l) r = x → pLoop (pProd (pFac l)) isAdd (n + 1) acc (t :: r) = (match x with | some (c, r') => pLoop (pProd (pFac l)) isAdd n (acc ++ c ++ [opr t.1]) r' | none => none) := by
          intro x hx
          subst hx
          show (if isAdd t.1 = true then _ else _) = _
          rw [if_pos ht]
          rfl
        rw [List.append_assoc]
        refine hX.2.2.2.2.2.1 t r cs' W1 (A ++ U) ht ?_ ?_ ?_
        · intro x hx
          rcases hA with rfl | rfl | rfl <;> rcases hU with rfl | rfl | rfl <;> simp at hx <;> omega
        · rcases hW with z | z
          · exact Or.inl z
          · exact Or.inr (by omega)
        · have hr : okA [rop t.1] ∧ [opr (unr (rop t.1))] = [opr t.1] := by
            rcases htt with z | z
            · rw [z]; exact ⟨Or.inr (Or.inl rfl), rfl⟩
            · rw [z]; exact ⟨Or.inr (Or.inr rfl), rfl⟩
          refine x_prod hX hF (by omega) hW hr.1 hn (fun c r2 e2 hl hm2 cs2 U2 hU2 he2 => ?_) (fun e2 => ?_)
          · have e3 := e1 _ e2
            rw [e3] at k1 k2
            refine ih r2 (acc ++ c ++ [opr t.1]) cs2 [rop t.1] U2 (by omega) (by omega) ?_ hr.1 hU2 hm2 k1 k2
            rw [he2, em_app, ← List.append_assoc, he, em_one, hr.2, List.append_assoc, List.append_assoc, List.append_assoc]
          · have e3 := e1 _ e2
            rw [e3] at k2
            exact k2 rfl
      · have e1 : pLoop (pProd (pFac l)) isAdd (n + 1) acc (t :: r) = some (acc, t :: r) := by
          show (if isAdd t.1 = true then _ else _) = _
          rw [if_neg ht]
        exact k1 acc (t :: r) e1 (Bool.not_eq_true _ ▸ ht) hm cs' A U hA hU he
theorem x_exp {l : Nat} (hX : XC o G B) (hF : FacL o G B l) {W1 : List Nat} {cs : List Op} {q : List Tk} (hq : q.length ≤ 80) (hW : okW W1) (hn : nst W1 + o + l = 8)
    (k1 : ∀ c r, pExp (pFac l) q = some (c, r) → isAdd (hd r) = false → isMul (hd r) = false → ∀ cs'' A' U', okA A' → okU U' → cs'' ++ em U' ++ em A' = cs ++ c → G r cs'' (W1 ++ A' ++ U') 0) (k2 : pExp (pFac l) q = none → B) : G q cs W1 1 := by
  have e1 : ∀ x, pProd (pFac l) q = x → pExp (pFac l) q = (match x with | some (c, r) => pLoop (pProd (pFac l)) isAdd 80 c r | none => none) := by
    intro x hx
    subst hx
    rfl
  have := x_prod hX hF (A := []) (cs := cs) hq hW (Or.inl rfl) hn (fun c r e2 hl hm cs2 U2 hU2 he2 => ?_) (fun e2 => ?_)
  · rw [List.append_nil] at this; exact this
  · have e3 := e1 _ e2
    rw [e3] at k1 k2
    refine x_add hX hF hW hn 80 r c cs2 [] U2 (by omega) (by omega) ?_ (Or.inl rfl) hU2 hm k1 k2
    rw [em_nil, List.append_nil]; exact he2
  · have e3 := e1 _ e2
    rw [e3] at k2
    exact k2 rfl
theorem x_fac (hX : XC o G B) : ∀ l, FacL o G B l := by
  intro l
  induction l with
  | zero =>
    intro q cs W0 k hq hW hn k1 k2
    have hs : nst (W0 ++ List.replicate k 8) + o = 8 := by rw [nst_app, nst_rep]; omega
    cases q with
    | nil => exact hX.2.2.2.1 _ _ _ (by decide) (by decide) rfl (k2 rfl)
    | cons t r =>
      by_cases h40 : t.1 = 40
      · refine hX.2.1 t r _ _ (Or.inl h40) (by omega) (k2 ?_)
        show facB _ _ _ = none
        unfold facB
        dsimp only
        rw [if_pos h40]; rfl
      · by_cases h45 : t.1 = 45
        · refine hX.2.1 t r _ _ (Or.inr h45) (by omega) (k2 ?_)
          show facB _ _ _ = none
          unfold facB
          dsimp only
          rw [if_neg h40, if_pos h45]
        · have e : pFac 0 (t :: r) = leaf (t :: r) := facB_leaf h40 h45
          rw [e] at k1 k2
          cases hl : leaf (t :: r) with
          | none => exact hX.2.2.2.1 _ _ _ h40 h45 hl (k2 hl)
          | some y => exact hX.2.2.1 _ y.1 y.2 _ _ _ h40 h45 hl hW (k1 _ _ hl)
  | succ l ih =>
    intro q cs W0 k hq hW hn k1 k2
    have hs : nst (W0 ++ List.replicate k 8) + o ≤ 7 := by rw [nst_app, nst_rep]; omega
    cases q with
    | nil => exact hX.2.2.2.1 _ _ _ (by decide) (by decide) rfl (k2 rfl)
    | cons t r =>
      rw [List.length_cons] at hq
      by_cases h40 : t.1 = 40
      · have e : pFac (l + 1) (t :: r) = pTok 41 (pExp (pFac l) r) := by
          show facB _ _ _ = _
          unfold facB
          dsimp only
          rw [if_pos h40]
        rw [e] at k1 k2
        refine hX.1 t r _ _ (Or.inl h40) hs ?_
        rw [if_pos h40]
        refine x_exp hX ih (by omega) (Or.inr (by rw [topW_snoc]; decide)) (by rw [nst_app, nst_app, nst_rep]; show _ + 1 + _ + _ = _; omega) (fun c r2 e2 ha hm cs2 A U hA hU he => ?_) (fun e2 => k2 (by rw [e2]; rfl))
        rw [e2] at k1 k2
        cases r2 with
        | nil => exact hX.2.2.2.2.2.2.2 _ _ _ rfl rfl (by decide) (by simp) (k2 rfl)
        | cons t2 r2 =>
          by_cases h41 : t2.1 = 41
          · rw [List.append_assoc]
            refine hX.2.2.2.2.2.2.1 t2 r2 _ W0 k (A ++ U) h41 ?_ hW ?_
            · intro x hx
              rcases hA with rfl | rfl | rfl <;> rcases hU with rfl | rfl | rfl <;> simp at hx <;> omega
            · have := k1 c r2 (by unfold pTok; dsimp only; rw [if_pos h41])
              rw [em_app, ← List.append_assoc, he]; exact this
          · refine hX.2.2.2.2.2.2.2 _ _ _ ha hm h41 (by simp) (k2 ?_)
            unfold pTok; dsimp only; rw [if_neg h41]
      · by_cases h45 : t.1 = 45
        · have e : ∀ x, pFac l r = x → pFac (l + 1) (t :: r) = (match x with | some (c, r') => some (c ++ [opr 30], r') | none => none) := by
            intro x hx
            subst hx
            show facB _ _ _ = _
            unfold facB
            dsimp only
            rw [if_neg h40, if_pos h45]
            rfl
          refine hX.1 t r _ _ (Or.inr h45) hs ?_
          rw [if_neg h40, List.append_assoc, ← List.replicate_succ']
          refine ih r cs W0 (k + 1) (by omega) hW (by omega) (fun c r2 e2 => ?_) (fun e2 => k2 (e _ e2))
          have := k1 _ _ (e _ e2)
          rw [List.replicate_succ]
          simp only [List.append_assoc, List.cons_append, List.nil_append] at this ⊢
          exact this
        · have e : pFac (l + 1) (t :: r) = leaf (t :: r) := facB_leaf h40 h45
          rw [e] at k1 k2
          cases hl : leaf (t :: r) with
          | none => exact hX.2.2.2.1 _ _ _ h40 h45 hl (k2 hl)
          | some y => exact hX.2.2.1 _ y.1 y.2 _ _ _ h40 h45 hl hW (k1 _ _ hl)
end XP
