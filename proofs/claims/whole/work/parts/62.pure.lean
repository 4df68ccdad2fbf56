/-! WHAT STEPS ARE WORTH: a stack (the top first) of numbers (NUL: no value) and truths (0 no, 1 unknown, 2 yes); a column's step names its side -/
def NUL : Int64 := 1099511627776
abbrev Evr : Type := Nat → Nat → Int64
def ar (k : Nat) : Nat := if k = 2 ∨ k = 3 ∨ k = 15 then 0 else if k = 18 ∨ k = 30 ∨ k = 31 then 1 else 2
def evL (env : Evr) (x : Op) : Int64 := if x.1 = 3 then env x.2.2 x.2.1 else if x.1 = 2 then (nI x.2.1).toInt64 else NUL
def ev1 (k : Nat) (v : Int64) : Int64 := if k = 30 then (if v = NUL then NUL else (-v.toInt32).toInt64) else if k = 31 then (if v = NUL then 2 else 0) else 2 - v
def evA (k : Nat) (x y : Int32) : Int64 := if k = 42 then (x * y).toInt64 else if k = 43 then (x + y).toInt64 else if k = 45 then (x - y).toInt64 else if y = 0 then NUL else (x / y).toInt64
def evC (k : Nat) (x y : Int64) : Int64 := if k = 61 then (if x = y then 2 else 0) else if k = 60 then (if x < y then 2 else 0) else (if y < x then 2 else 0)
def ev2 (k : Nat) (l r : Int64) : Int64 := if k = 17 then mnL l r else if k = 16 then mxL l r else if k = 61 ∨ k = 60 ∨ k = 62 then (if l = NUL ∨ r = NUL then 1 else evC k l r) else (if l = NUL ∨ r = NUL then NUL else evA k l.toInt32 r.toInt32)
def stp (env : Evr) (x : Op) (st : List Int64) : List Int64 := if ar x.1 = 0 then evL env x :: st else if ar x.1 = 1 then (match st with | v :: r => ev1 x.1 v :: r | [] => []) else (match st with | r :: l :: s => ev2 x.1 l r :: s | s => s)
def evs (env : Evr) : List Op → List Int64 → List Int64
  | [], st => st
  | x :: l, st => evs env l (stp env x st)
theorem evs_app (env : Evr) : ∀ (a b : List Op) (st : List Int64), evs env (a ++ b) st = evs env b (evs env a st)
  | [], b, st => rfl
  | x :: a, b, st => evs_app env a b (stp env x st)
/-- kinds of values: no: a number, yes: a truth -/
def ty1 (k : Nat) (T : List Bool) : Option (List Bool) :=
  if k = 2 ∨ k = 3 ∨ k = 15 then some (false :: T)
  else if k = 30 then (match T with | false :: R => some (false :: R) | _ => none)
  else if k = 31 then (match T with | false :: R => some (true :: R) | _ => none)
  else if k = 18 then (match T with | true :: R => some (true :: R) | _ => none)
  else if k = 42 ∨ k = 43 ∨ k = 45 ∨ k = 47 then (match T with | false :: false :: R => some (false :: R) | _ => none)
  else if k = 61 ∨ k = 60 ∨ k = 62 then (match T with | false :: false :: R => some (true :: R) | _ => none)
  else if k = 16 ∨ k = 17 then (match T with | true :: true :: R => some (true :: R) | _ => none)
  else none
def tys : List Op → List Bool → Option (List Bool)
  | [], T => some T
  | x :: l, T => match ty1 x.1 T with | some T' => tys l T' | none => none
theorem tys_app : ∀ (a b : List Op) (T T1 : List Bool), tys a T = some T1 → tys (a ++ b) T = tys b T1
  | [], b, T, T1, h => by cases h; rfl
  | x :: a, b, T, T1, h => by
    show (match ty1 x.1 T with | some T' => tys (a ++ b) T' | none => none) = _
    have h : (match ty1 x.1 T with | some T' => tys a T' | none => none) = some T1 := h
    cases e : ty1 x.1 T with
    | none => rw [e] at h; cases h
    | some T' => rw [e] at h; exact tys_app a b T' T1 h
/-- the steps of one E (no) or one C (yes) -/
def tyC (b : Bool) (c : List Op) : Prop := ∀ T, tys c T = some (b :: T)
theorem tyC.un {c : List Op} {b b' : Bool} {k : Nat} (h : tyC b c) (hk : ∀ T, ty1 k (b :: T) = some (b' :: T)) : tyC b' (c ++ [opr k]) := by
  intro T
  rw [tys_app _ _ _ _ (h T)]
  show (match ty1 k (b :: T) with | some T' => some T' | none => none) = _
  rw [hk T]
theorem tyC.bin {c c2 : List Op} {b b' : Bool} {k : Nat} (h : tyC b c) (h2 : tyC b c2) (hk : ∀ T, ty1 k (b :: b :: T) = some (b' :: T)) : tyC b' (c ++ c2 ++ [opr k]) := by
  intro T
  rw [List.append_assoc, tys_app _ _ _ _ (h T), tys_app _ _ _ _ (h2 (b :: T))]
  show (match ty1 k (b :: b :: T) with | some T' => some T' | none => none) = _
  rw [hk T]
def tyP (b : Bool) (f : Ps) : Prop := ∀ q c r, f q = some (c, r) → tyC b c
def tyM (g : Pm) : Prop := ∀ q c x r, g q = some (c, x, r) → tyC true c
theorem tyP_none {b : Bool} : tyP b (fun _ => none) := fun _ _ _ h => by cases h
theorem tyM_none : tyM (fun _ => none) := fun _ _ _ _ h => by cases h
theorem ty_loop {b : Bool} {f : Ps} {p : Nat → Bool} (hf : tyP b f) (hp : ∀ k, p k = true → ∀ T, ty1 k (b :: b :: T) = some (b :: T)) : ∀ (n : Nat) (acc : List Op) (q : List Tk) (c : List Op) (r : List Tk), tyC b acc → pLoop f p n acc q = some (c, r) → tyC b c
  | 0, acc, q, c, r, ha, h => by cases h; exact ha
  | n + 1, acc, [], c, r, ha, h => by cases h; exact ha
  | n + 1, acc, t :: q, c, r, ha, h => by
    unfold pLoop at h
    dsimp only at h
    split at h
    · next hk =>
      split at h
      · next c' r' e => exact ty_loop hf hp n _ _ _ _ (ha.bin (hf _ _ _ e) (hp _ hk)) h
      · cases h
    · cases h; exact ha
theorem ty_mul (k : Nat) (h : isMul k = true) (T : List Bool) : ty1 k (false :: false :: T) = some (false :: T) := by
  rcases (isMul_iff _).mp h with rfl | rfl <;> rfl
theorem ty_add (k : Nat) (h : isAdd k = true) (T : List Bool) : ty1 k (false :: false :: T) = some (false :: T) := by
  rcases (isAdd_iff _).mp h with rfl | rfl <;> rfl
theorem ty_and (k : Nat) (h : isAnd k = true) (T : List Bool) : ty1 k (true :: true :: T) = some (true :: T) := by
  have := (isAnd_iff _).mp h; subst this; rfl
theorem ty_or (k : Nat) (h : isOr k = true) (T : List Bool) : ty1 k (true :: true :: T) = some (true :: T) := by
  have := (isOr_iff _).mp h; subst this; rfl
theorem tyP_prod {f : Ps} (hf : tyP false f) : tyP false (pProd f) := by
  intro q c r h
  unfold pProd at h
  split at h
  · next c' r' e => exact ty_loop hf ty_mul _ _ _ _ _ (hf _ _ _ e) h
  · cases h
theorem tyP_exp {f : Ps} (hf : tyP false f) : tyP false (pExp f) := by
  intro q c r h
  unfold pExp at h
  split at h
  · next c' r' e => exact ty_loop (tyP_prod hf) ty_add _ _ _ _ _ (tyP_prod hf _ _ _ e) h
  · cases h
theorem tyC_leaf {x : Op} (h : x.1 = 2 ∨ x.1 = 3 ∨ x.1 = 15) : tyC false [x] := by
  intro T
  show (match ty1 x.1 T with | some T' => some T' | none => none) = _
  unfold ty1
  rw [if_pos h]
theorem tyP_col : tyP false pCol := by
  intro q c r h
  unfold pCol at h
  split at h
  · cases h
  · split at h
    · split at h
      · split at h
        · cases h; exact tyC_leaf (Or.inr (Or.inl rfl))
        · cases h
      · cases h
    · split at h
      · cases h; exact tyC_leaf (Or.inr (Or.inl rfl))
      · cases h
theorem tyP_facB {e f : Ps} (he : tyP false e) (hf : tyP false f) : tyP false (facB e f) := by
  intro q c r h
  unfold facB at h
  split at h
  · cases h
  · split at h
    · obtain ⟨t2, e2, _⟩ := pTok_inv h
      exact he _ _ _ e2
    · split at h
      · split at h
        · next c' r' e2 => cases h; exact (hf _ _ _ e2).un (fun T => rfl)
        · cases h
      · split at h
        · cases h; exact tyC_leaf (Or.inl rfl)
        · split at h
          · cases h; exact tyC_leaf (Or.inr (Or.inr rfl))
          · exact tyP_col _ _ _ h
theorem tyP_fac : ∀ l, tyP false (pFac l)
  | 0 => tyP_facB tyP_none tyP_none
  | l + 1 => tyP_facB (tyP_exp (tyP_fac l)) (tyP_fac l)
theorem tyP_ex (l : Nat) : tyP false (pEx l) := tyP_exp (tyP_fac l)
theorem cmp_inv {l : Nat} {q : List Tk} {c : List Op} {x : Option Nat} {r : List Tk} (h : pCmp l q = some (c, x, r)) : tyC true c ∧ ∀ j, x = some j → ∃ c1 c2, c = c1 ++ c2 ++ [opr 61] ∧ c1.length = j ∧ tyC false c1 ∧ tyC false c2 := by
  unfold pCmp at h
  split at h
  · cases h
  · cases h
  · next c1 t r1 e =>
    have h1 := tyP_ex l _ _ _ e
    split at h
    · cases h
      exact ⟨h1.un (fun T => rfl), fun j hj => by cases hj⟩
    · split at h
      · next h61 =>
        split at h
        · next c2 r2 e2 =>
          have h2 := tyP_ex l _ _ _ e2
          cases h
          refine ⟨?_, fun j hj => ?_⟩
          · rcases h61 with z | z | z <;> rw [z] <;> exact h1.bin h2 (fun T => rfl)
          · by_cases z : t.1 = 61
            · rw [if_pos z] at hj
              cases hj
              exact ⟨c1, c2, by rw [z], rfl, h1, h2⟩
            · rw [if_neg z] at hj; cases hj
        · cases h
      · cases h
theorem tyM_cmp (l : Nat) : tyM (pCmp l) := fun _ _ _ _ h => (cmp_inv h).1
theorem tyP_drp {g : Pm} (hg : tyM g) : tyP true (drp g) := by
  intro q c r h
  unfold drp at h
  split at h
  · next c' x r' e => cases h; exact hg _ _ _ _ e
  · cases h
theorem tyP_con {g : Pm} (hg : tyM g) : tyP true (pCon g) := by
  intro q c r h
  unfold pCon at h
  split at h
  · next c' r' e => exact ty_loop (tyP_drp hg) ty_and _ _ _ _ _ (tyP_drp hg _ _ _ e) h
  · cases h
theorem tyP_cnd {g : Pm} (hg : tyM g) : tyP true (pCnd g) := by
  intro q c r h
  unfold pCnd at h
  split at h
  · next c' r' e => exact ty_loop (tyP_con hg) ty_or _ _ _ _ _ (tyP_con hg _ _ _ e) h
  · cases h
/-- a C that may be a part: its middle is told only of E = E' itself -/
def midO (c : List Op) (x : Option Nat) : Prop := ∀ j, x = some j → ∃ c1 c2, c = c1 ++ c2 ++ [opr 61] ∧ c1.length = j ∧ tyC false c1 ∧ tyC false c2
theorem neg_inv {e : Ps} {f g : Pm} (he : tyP true e) (hf : tyM f) (hg : ∀ q c x r, g q = some (c, x, r) → tyC true c ∧ midO c x) {q : List Tk} {c : List Op} {x : Option Nat} {r : List Tk} (h : negB e f g q = some (c, x, r)) : tyC true c ∧ midO c x := by
  unfold negB at h
  split at h
  · exact hg _ _ _ _ h
  · split at h
    · split at h
      · next c' r' e2 =>
        cases h
        obtain ⟨t2, e3, _⟩ := pTok_inv e2
        exact ⟨he _ _ _ e3, fun j hj => by cases hj⟩
      · cases h
    · split at h
      · split at h
        · next c' x' r' e2 => cases h; exact ⟨(hf _ _ _ _ e2).un (fun T => rfl), fun j hj => by cases hj⟩
        · cases h
      · exact hg _ _ _ _ h
theorem ty_neg : ∀ (l : Nat) (q : List Tk) (c : List Op) (x : Option Nat) (r : List Tk), pNeg l q = some (c, x, r) → tyC true c ∧ midO c x
  | 0, q, c, x, r, h => neg_inv tyP_none tyM_none (fun _ _ _ _ h => cmp_inv h) h
  | l + 1, q, c, x, r, h => neg_inv (tyP_cnd (fun q c x r h => (ty_neg l q c x r h).1)) (fun q c x r h => (ty_neg l q c x r h).1) (fun _ _ _ _ h => cmp_inv h) h
/-- values that fit -/
def Nm (v : Int64) : Prop := v = NUL ∨ ∃ x : Int32, v = x.toInt64
def VT (b : Bool) (v : Int64) : Prop := if b = true then (v = 0 ∨ v = 1 ∨ v = 2) else Nm v
def VTs : List Bool → List Int64 → Prop
  | [], [] => True
  | b :: T, v :: st => VT b v ∧ VTs T st
  | _, _ => False
theorem VTs.len : ∀ (T : List Bool) (st : List Int64), VTs T st → T.length = st.length
  | [], [], _ => rfl
  | [], _ :: _, h => h.elim
  | _ :: _, [], h => h.elim
  | _ :: T, _ :: st, h => by rw [List.length_cons, List.length_cons, VTs.len T st h.2]
theorem Nm_i (x : Int32) : Nm x.toInt64 := Or.inr ⟨x, rfl⟩
theorem Nm_n : Nm NUL := Or.inl rfl
theorem evA_nm (k : Nat) (x y : Int32) : Nm (evA k x y) := by
  unfold evA
  split
  · exact Nm_i _
  · split
    · exact Nm_i _
    · split
      · exact Nm_i _
      · split
        · exact Nm_n
        · exact Nm_i _
theorem evC_t (k : Nat) (x y : Int64) : evC k x y = 0 ∨ evC k x y = 1 ∨ evC k x y = 2 := by
  unfold evC
  split
  · split
    · exact Or.inr (Or.inr rfl)
    · exact Or.inl rfl
  · split
    · split
      · exact Or.inr (Or.inr rfl)
      · exact Or.inl rfl
    · split
      · exact Or.inr (Or.inr rfl)
      · exact Or.inl rfl
/-- columns of the steps have values that fit -/
def EnvOk (env : Evr) (l : List Op) : Prop := ∀ x, x ∈ l → x.1 = 3 → Nm (env x.2.2 x.2.1)
theorem stp_ty {env : Evr} {x : Op} {T T' : List Bool} {st : List Int64} (he : x.1 = 3 → Nm (env x.2.2 x.2.1)) (h : ty1 x.1 T = some T') (hv : VTs T st) : VTs T' (stp env x st) := by
  unfold ty1 at h
  unfold stp
  split at h
  · next hk =>
    cases h
    have e0 : ar x.1 = 0 := by unfold ar; rw [if_pos hk]
    rw [if_pos e0]
    refine ⟨?_, hv⟩
    show Nm (evL env x)
    unfold evL
    split
    · next h3 => exact he h3
    · split
      · exact Nm_i _
      · exact Nm_n
  · next hk0 =>
    split at h
    · next hk =>
      have e1 : ar x.1 = 1 := by rw [hk]; rfl
      rw [if_neg (by rw [e1]; decide), if_pos e1]
      split at h
      · next R =>
        cases h
        cases st with
        | nil => exact hv.elim
        | cons v r =>
          refine ⟨?_, hv.2⟩
          show Nm (ev1 x.1 v)
          unfold ev1
          rw [if_pos hk]
          split
          · exact Nm_n
          · exact Nm_i _
      · cases h
    · split at h
      · next hk =>
        have e1 : ar x.1 = 1 := by rw [hk]; rfl
        rw [if_neg (by rw [e1]; decide), if_pos e1]
        split at h
        · next R =>
          cases h
          cases st with
          | nil => exact hv.elim
          | cons v r =>
            refine ⟨?_, hv.2⟩
            show ev1 x.1 v = 0 ∨ ev1 x.1 v = 1 ∨ ev1 x.1 v = 2
            rw [hk]
            unfold ev1
            rw [if_neg (by decide), if_pos rfl]
            split
            · exact Or.inr (Or.inr rfl)
            · exact Or.inl rfl
        · cases h
      · split at h
        · next hk =>
          have e1 : ar x.1 = 1 := by rw [hk]; rfl
          rw [if_neg (by rw [e1]; decide), if_pos e1]
          split at h
          · next R =>
            cases h
            cases st with
            | nil => exact hv.elim
            | cons v r =>
              refine ⟨?_, hv.2⟩
              show ev1 x.1 v = 0 ∨ ev1 x.1 v = 1 ∨ ev1 x.1 v = 2
              rw [hk]
              have hv1 : v = 0 ∨ v = 1 ∨ v = 2 := hv.1
              rcases hv1 with rfl | rfl | rfl
              · exact Or.inr (Or.inr rfl)
              · exact Or.inr (Or.inl rfl)
              · exact Or.inl rfl
          · cases h
        · have e2 : ∀ j, x.1 = j → j ≠ 2 → j ≠ 3 → j ≠ 15 → j ≠ 18 → j ≠ 30 → j ≠ 31 → ar x.1 = 2 := by
            intro j hj h1 h2 h3 h4 h5 h6
            unfold ar
            rw [hj, if_neg (by omega), if_neg (by omega)]
          split at h
          · next hk =>
            have e3 : ar x.1 = 2 := e2 x.1 rfl (by omega) (by omega) (by omega) (by omega) (by omega) (by omega)
            rw [if_neg (by rw [e3]; decide), if_neg (by rw [e3]; decide)]
            split at h
            · next R =>
              cases h
              cases st with
              | nil => exact hv.elim
              | cons v r =>
                cases r with
                | nil => exact hv.2.elim
                | cons v2 r =>
                  refine ⟨?_, hv.2.2⟩
                  show Nm (ev2 x.1 v2 v)
                  unfold ev2
                  rw [if_neg (by omega), if_neg (by omega), if_neg (by omega)]
                  split
                  · exact Nm_n
                  · exact evA_nm _ _ _
            · cases h
          · split at h
            · next hk =>
              have e3 : ar x.1 = 2 := e2 x.1 rfl (by omega) (by omega) (by omega) (by omega) (by omega) (by omega)
              rw [if_neg (by rw [e3]; decide), if_neg (by rw [e3]; decide)]
              split at h
              · next R =>
                cases h
                cases st with
                | nil => exact hv.elim
                | cons v r =>
                  cases r with
                  | nil => exact hv.2.elim
                  | cons v2 r =>
                    refine ⟨?_, hv.2.2⟩
                    show ev2 x.1 v2 v = 0 ∨ ev2 x.1 v2 v = 1 ∨ ev2 x.1 v2 v = 2
                    unfold ev2
                    rw [if_neg (by omega), if_neg (by omega), if_pos hk]
                    split
                    · exact Or.inr (Or.inl rfl)
                    · exact evC_t _ _ _
              · cases h
            · split at h
              · next hk =>
                have e3 : ar x.1 = 2 := e2 x.1 rfl (by omega) (by omega) (by omega) (by omega) (by omega) (by omega)
                rw [if_neg (by rw [e3]; decide), if_neg (by rw [e3]; decide)]
                split at h
                · next R =>
                  cases h
                  cases st with
                  | nil => exact hv.elim
                  | cons v r =>
                    cases r with
                    | nil => exact hv.2.elim
                    | cons v2 r =>
                      refine ⟨?_, hv.2.2⟩
                      show ev2 x.1 v2 v = 0 ∨ ev2 x.1 v2 v = 1 ∨ ev2 x.1 v2 v = 2
                      have w1 : v = 0 ∨ v = 1 ∨ v = 2 := hv.1
                      have w2 : v2 = 0 ∨ v2 = 1 ∨ v2 = 2 := hv.2.1
                      rcases hk with z | z
                      · rw [z]
                        rcases w1 with rfl | rfl | rfl <;> rcases w2 with rfl | rfl | rfl <;> decide
                      · rw [z]
                        rcases w1 with rfl | rfl | rfl <;> rcases w2 with rfl | rfl | rfl <;> decide
                · cases h
              · cases h
theorem evs_ty {env : Evr} : ∀ (l : List Op) (T T' : List Bool) (st : List Int64), EnvOk env l → tys l T = some T' → VTs T st → VTs T' (evs env l st)
  | [], T, T', st, _, h, hv => by cases h; exact hv
  | x :: l, T, T', st, he, h, hv => by
    have h : (match ty1 x.1 T with | some T' => tys l T' | none => none) = some T' := h
    cases e : ty1 x.1 T with
    | none => rw [e] at h; cases h
    | some T1 =>
      rw [e] at h
      exact evs_ty l T1 T' _ (fun y hy => he y (List.mem_cons_of_mem _ hy)) h (stp_ty (he x (List.mem_cons_self ..)) e hv)
/-- what one E or C is worth -/
def val (env : Evr) (c : List Op) : Int64 := (evs env c []).headD NUL
theorem val_ty {env : Evr} {c : List Op} {b : Bool} (he : EnvOk env c) (h : tyC b c) : VT b (val env c) ∧ evs env c [] = [val env c] := by
  have h1 := evs_ty c [] [b] [] he (h []) trivial
  unfold val
  cases e : evs env c [] with
  | nil => rw [e] at h1; exact h1.elim
  | cons v r =>
    rw [e] at h1
    cases r with
    | nil => exact ⟨h1.1, rfl⟩
    | cons w r => exact h1.2.elim
