/-! WHAT A READING TAKES: its tokens are of kinds that the reading knows (never 19) -/
def Tkn (q r : List Tk) : Prop := ∃ p, q = p ++ r ∧ ∀ t, t ∈ p → t.1 ≠ 19
theorem Tkn.refl (q : List Tk) : Tkn q q := ⟨[], rfl, fun t h => by cases h⟩
theorem Tkn.trans {a b c : List Tk} (h : Tkn a b) (k : Tkn b c) : Tkn a c := by
  obtain ⟨p, e, hp⟩ := h
  obtain ⟨p2, e2, hp2⟩ := k
  refine ⟨p ++ p2, by rw [e, e2, List.append_assoc], fun t ht => ?_⟩
  rcases List.mem_append.mp ht with z | z
  · exact hp t z
  · exact hp2 t z
theorem Tkn.one {t : Tk} {r : List Tk} (h : t.1 ≠ 19) : Tkn (t :: r) r := ⟨[t], rfl, fun x hx => by rw [List.mem_singleton.mp hx]; exact h⟩
theorem Tkn.cons {t : Tk} {r s : List Tk} (h : t.1 ≠ 19) (k : Tkn r s) : Tkn (t :: r) s := (Tkn.one h).trans k
def nP (f : Ps) : Prop := ∀ q c r, f q = some (c, r) → Tkn q r
def nM (g : Pm) : Prop := ∀ q c x r, g q = some (c, x, r) → Tkn q r
theorem nP_none : nP (fun _ => none) := fun _ _ _ h => by cases h
theorem nM_none : nM (fun _ => none) := fun _ _ _ _ h => by cases h
theorem n_loop {f : Ps} {p : Nat → Bool} (hf : nP f) (hp : ∀ k, p k = true → k ≠ 19) : ∀ (n : Nat) (acc : List Op) (q : List Tk) (c : List Op) (r : List Tk), pLoop f p n acc q = some (c, r) → Tkn q r
  | 0, acc, q, c, r, h => by cases h; exact Tkn.refl _
  | n + 1, acc, [], c, r, h => by cases h; exact Tkn.refl _
  | n + 1, acc, t :: q, c, r, h => by
    unfold pLoop at h
    dsimp only at h
    split at h
    · next hk =>
      split at h
      · next c' r' e => exact Tkn.cons (hp _ hk) ((hf _ _ _ e).trans (n_loop hf hp n _ _ _ _ h))
      · cases h
    · cases h; exact Tkn.refl _
theorem mul19 (k : Nat) (h : isMul k = true) : k ≠ 19 := by have := (isMul_iff _).mp h; omega
theorem add19 (k : Nat) (h : isAdd k = true) : k ≠ 19 := by have := (isAdd_iff _).mp h; omega
theorem and19 (k : Nat) (h : isAnd k = true) : k ≠ 19 := by have := (isAnd_iff _).mp h; omega
theorem or19 (k : Nat) (h : isOr k = true) : k ≠ 19 := by have := (isOr_iff _).mp h; omega
theorem nP_prod {f : Ps} (hf : nP f) : nP (pProd f) := by
  intro q c r h
  unfold pProd at h
  split at h
  · next c' r' e => exact (hf _ _ _ e).trans (n_loop hf mul19 _ _ _ _ _ h)
  · cases h
theorem nP_exp {f : Ps} (hf : nP f) : nP (pExp f) := by
  intro q c r h
  unfold pExp at h
  split at h
  · next c' r' e => exact (nP_prod hf _ _ _ e).trans (n_loop (nP_prod hf) add19 _ _ _ _ _ h)
  · cases h
theorem nP_col : nP pCol := by
  intro q c r h
  unfold pCol at h
  split at h
  · cases h
  · next t q' =>
    split at h
    · next h1 =>
      split at h
      · next a b r' =>
        split at h
        · next h2 => cases h; exact Tkn.cons (by omega) (Tkn.cons (by omega) (Tkn.one (by omega)))
        · cases h
      · cases h
    · split at h
      · next h3 => cases h; exact Tkn.one (by omega)
      · cases h
theorem nP_facB {e f : Ps} (he : nP e) (hf : nP f) : nP (facB e f) := by
  intro q c r h
  unfold facB at h
  split at h
  · cases h
  · next t q' =>
    split at h
    · next h40 =>
      obtain ⟨t2, e2, h41⟩ := pTok_inv h
      exact Tkn.cons (by omega) ((he _ _ _ e2).trans (Tkn.one (by omega)))
    · split at h
      · next h45 =>
        split at h
        · next c' r' e2 => cases h; exact Tkn.cons (by omega) (hf _ _ _ e2)
        · cases h
      · split at h
        · next h2 => cases h; exact Tkn.one (by omega)
        · split at h
          · next h15 => cases h; exact Tkn.one (by omega)
          · exact nP_col _ _ _ h
theorem nP_fac : ∀ l, nP (pFac l)
  | 0 => nP_facB nP_none nP_none
  | l + 1 => nP_facB (nP_exp (nP_fac l)) (nP_fac l)
theorem nP_ex (l : Nat) : nP (pEx l) := nP_exp (nP_fac l)
theorem nM_cmp (l : Nat) : nM (pCmp l) := by
  intro q c x r h
  unfold pCmp at h
  split at h
  · cases h
  · cases h
  · next c1 t r1 e =>
    have h1 := nP_ex l _ _ _ e
    split at h
    · next h15 => cases h; exact h1.trans (Tkn.one (by omega))
    · split at h
      · next h61 =>
        split at h
        · next c2 r2 e2 => cases h; exact h1.trans (Tkn.cons (by omega) (nP_ex l _ _ _ e2))
        · cases h
      · cases h
theorem nP_drp {g : Pm} (hg : nM g) : nP (drp g) := by
  intro q c r h
  unfold drp at h
  split at h
  · next c' x r' e => cases h; exact hg _ _ _ _ e
  · cases h
theorem nP_con {g : Pm} (hg : nM g) : nP (pCon g) := by
  intro q c r h
  unfold pCon at h
  split at h
  · next c' r' e => exact (nP_drp hg _ _ _ e).trans (n_loop (nP_drp hg) and19 _ _ _ _ _ h)
  · cases h
theorem nP_cnd {g : Pm} (hg : nM g) : nP (pCnd g) := by
  intro q c r h
  unfold pCnd at h
  split at h
  · next c' r' e => exact (nP_con hg _ _ _ e).trans (n_loop (nP_con hg) or19 _ _ _ _ _ h)
  · cases h
theorem nM_negB {e : Ps} {f g : Pm} (he : nP e) (hf : nM f) (hg : nM g) : nM (negB e f g) := by
  intro q c x r h
  unfold negB at h
  split at h
  · exact hg _ _ _ _ h
  · next t q' =>
    split at h
    · next h91 =>
      split at h
      · next c' r' e2 =>
        cases h
        obtain ⟨t2, e3, h93⟩ := pTok_inv e2
        exact Tkn.cons (by omega) ((he _ _ _ e3).trans (Tkn.one (by omega)))
      · cases h
    · split at h
      · next h18 =>
        split at h
        · next c' x' r' e2 => cases h; exact Tkn.cons (by omega) (hf _ _ _ _ e2)
        · cases h
      · exact hg _ _ _ _ h
theorem nM_neg : ∀ l, nM (pNeg l)
  | 0 => nM_negB nP_none nM_none (nM_cmp 0)
  | l + 1 => nM_negB (nP_cnd (nM_neg l)) (nM_neg l) (nM_cmp (l + 1))
def nT (p : T3 → Option T3) : Prop := ∀ s s', p s = some s' → Tkn s.1 s'.1
theorem nT_part : nT tPart := by
  intro s s' h
  unfold tPart at h
  split at h
  · next c x r e => cases h; exact nM_neg 8 _ _ _ _ e
  · cases h
theorem hdT {q : List Tk} {k : Nat} (hk : k ≠ 0) (h19 : k ≠ 19) (h : hd q = k) : Tkn q q.tail := by
  cases q with
  | nil => exact absurd h.symm hk
  | cons t r => exact Tkn.one (by rw [show t.1 = k from h]; exact h19)
theorem nT_loop {p : T3 → Option T3} {k : Nat} (hp : nT p) (hk : k ≠ 0) (h19 : k ≠ 19) : ∀ (n : Nat) (s s' : T3), tLoop p k n s = some s' → Tkn s.1 s'.1
  | 0, s, s', h => by cases h; exact Tkn.refl _
  | n + 1, s, s', h => by
    unfold tLoop at h
    split at h
    · next hh =>
      split at h
      · next s1 e => exact (hdT hk h19 hh).trans ((hp _ _ e).trans (nT_loop hp hk h19 n (s1.1, s1.2.1 ++ [opr k], s1.2.2) s' h))
      · cases h
    · cases h; exact Tkn.refl _
theorem nT_con : nT tCon := by
  intro s s' h
  unfold tCon at h
  split at h
  · next s1 e => exact (nT_part _ _ e).trans (nT_loop nT_part (by decide) (by decide) _ _ _ h)
  · cases h
theorem nT_cnd : nT tCnd := by
  intro s s' h
  unfold tCnd at h
  split at h
  · next s1 e =>
    have h1 := nT_con _ _ e
    split at h
    · next s2 e2 =>
      have h2 := nT_loop nT_con (by decide) (by decide) _ _ _ e2
      split at h
      · cases h; exact h1.trans h2
      · cases h; exact h1.trans h2
    · cases h
  · cases h
def nS (f : St → Option St) : Prop := ∀ s e, f s = some e → Tkn s.1.1 e.1.1
theorem nS_set {k f : Nat} {g : Nat → Nat} (h19 : k ≠ 19) : nS (sSet k f g) := by
  intro s e h
  unfold sSet at h
  split at h
  · next t r et =>
    split at h
    · next ek => cases h; rw [et]; exact Tkn.one (by omega)
    · cases h
  · cases h
theorem nS_tok {k : Nat} (hk : k ≠ 0) (h19 : k ≠ 19) : nS (sTok k) := by
  intro s e h
  unfold sTok at h
  split at h
  · next hh => cases h; exact hdT hk h19 hh
  · cases h
theorem nS_opt {k : Nat} {f : St → Option St} (hk : k ≠ 0) (h19 : k ≠ 19) (hf : nS f) : nS (sOpt k f) := by
  intro s e h
  unfold sOpt at h
  split at h
  · next hh => exact (hdT hk h19 hh).trans (hf _ _ h)
  · cases h; exact Tkn.refl _
theorem nS_ex : nS sEx := by
  intro s e h
  unfold sEx at h
  split at h
  · next c r e1 => cases h; exact nP_ex 8 _ _ _ e1
  · cases h
theorem nS_item : nS sItem := by
  intro s e h
  unfold sItem at h
  split at h
  · next e1 h1 => cases h; exact nS_ex s e1 h1
  · cases h
theorem nS_list : ∀ n, nS (sList n)
  | 0, s, e, h => by cases h
  | n + 1, s, e, h => by
    unfold sList at h
    split at h
    · next e1 h1 =>
      split at h
      · next hh => exact (nS_item _ _ h1).trans ((hdT (by decide) (by decide) hh).trans (nS_list n _ _ h))
      · cases h; exact nS_item _ _ h1
    · cases h
theorem nS_where : nS sWhere := by
  refine nS_opt (by decide) (by decide) (fun s e h => ?_)
  split at h
  · next e1 h1 => cases h; exact nT_cnd _ _ h1
  · cases h
theorem nS_order : nS sOrder := by
  refine nS_opt (by decide) (by decide) (fun s e h => ?_)
  split at h
  · next e1 h1 =>
    dsimp only at h
    split at h
    · next hh => cases h; exact (nS_ex s e1 h1).trans (hdT (by decide) (by decide) hh)
    · cases h; exact nS_ex s e1 h1
  · cases h
theorem nS_bnd {f g : St → Option St} (hf : nS f) (hg : nS g) : nS (fun s => bnd (f s) g) := by
  intro s e h
  dsimp only at h
  cases hx : f s with
  | none => rw [hx] at h; cases h
  | some s1 => rw [hx] at h; exact (hf _ _ hx).trans (hg _ _ h)
theorem nS_sel2 : nS sSel2 := by
  intro s e h
  unfold sSel2 at h
  split at h
  · cases h
  · exact nS_bnd (nS_tok (by decide) (by decide)) (nS_bnd (nS_set (by decide)) (nS_bnd (nS_opt (by decide) (by decide) (nS_set (by decide))) (nS_bnd nS_where (nS_bnd nS_order (nS_opt (by decide) (by decide) (nS_set (by decide))))))) s e h
theorem nS_whole : nS sWhole := by
  intro s e h
  have t0 : ∀ j, hd s.1.1 = j → j ≠ 0 → j ≠ 19 → Tkn s.1.1 s.1.1.tail := fun j h1 h2 h3 => hdT h2 h3 h1
  unfold sWhole at h
  dsimp only at h
  split at h
  · next hh => exact (t0 4 hh (by decide) (by decide)).trans (nS_bnd (nS_set (by decide)) (nS_set (by decide)) _ e h)
  · split at h
    · next hh => exact (t0 5 hh (by decide) (by decide)).trans (nS_bnd (nS_set (by decide)) (nS_set (by decide)) _ e h)
    · split at h
      · next hh => exact (t0 6 hh (by decide) (by decide)).trans (nS_bnd (nS_set (by decide)) (nS_list 80) _ e h)
      · split at h
        · next hh => exact (t0 7 hh (by decide) (by decide)).trans (nS_bnd (nS_set (by decide)) (nS_bnd (nS_set (by decide)) (nS_bnd (nS_tok (by decide) (by decide)) (nS_bnd nS_item nS_where))) _ e h)
        · split at h
          · next hh => exact (t0 8 hh (by decide) (by decide)).trans (nS_bnd (nS_set (by decide)) nS_where _ e h)
          · split at h
            · next hh => exact (t0 9 hh (by decide) (by decide)).trans (nS_bnd (nS_list 80) nS_sel2 _ e h)
            · cases h
/-- the two ways of cutting -/
theorem lx_none : ∀ (s : List Nat) (p : Nat), lxW tokA p s = none → lxW tokC p s = none
  | [], p, h => by cases h
  | c :: r, p, h => by
    have eA : lxW tokA p (c :: r) = if c = 32 ∨ goes p c = true then lxW tokA c r else (match tokA (c :: r) with
      | some t => (match lxW tokA c r with | some ts => some (t :: ts) | none => none)
      | none => none) := rfl
    have eC : lxW tokC p (c :: r) = if c = 32 ∨ goes p c = true then lxW tokC c r else (match tokC (c :: r) with
      | some t => (match lxW tokC c r with | some ts => some (t :: ts) | none => none)
      | none => none) := rfl
    rw [eA] at h
    rw [eC]
    by_cases hg : c = 32 ∨ goes p c = true
    · rw [if_pos hg] at h ⊢; exact lx_none r c h
    · rw [if_neg hg] at h ⊢
      cases ht : tokA (c :: r) with
      | none =>
        have : tokC (c :: r) = none := by unfold tokC; rw [ht]
        rw [this]
      | some t =>
        rw [ht] at h
        dsimp only at h
        have hr : lxW tokA c r = none := by
          cases hx : lxW tokA c r with
          | none => rfl
          | some ts => rw [hx] at h; cases h
        rw [lx_none r c hr]
        cases tokC (c :: r) <;> rfl
theorem lx_some : ∀ (s : List Nat) (p : Nat) (ts : List Tk), lxW tokA p s = some ts → lxW tokC p s = if (∀ t, t ∈ ts → t.1 ≠ 19) then some ts else none
  | [], p, ts, h => by
    cases h
    rw [if_pos (fun t ht => by cases ht)]; rfl
  | c :: r, p, ts, h => by
    have eA : lxW tokA p (c :: r) = if c = 32 ∨ goes p c = true then lxW tokA c r else (match tokA (c :: r) with
      | some t => (match lxW tokA c r with | some ts => some (t :: ts) | none => none)
      | none => none) := rfl
    have eC : lxW tokC p (c :: r) = if c = 32 ∨ goes p c = true then lxW tokC c r else (match tokC (c :: r) with
      | some t => (match lxW tokC c r with | some ts => some (t :: ts) | none => none)
      | none => none) := rfl
    rw [eA] at h
    rw [eC]
    by_cases hg : c = 32 ∨ goes p c = true
    · rw [if_pos hg] at h ⊢; exact lx_some r c ts h
    · rw [if_neg hg] at h ⊢
      cases ht : tokA (c :: r) with
      | none => rw [ht] at h; cases h
      | some t =>
        rw [ht] at h
        dsimp only at h
        cases hx : lxW tokA c r with
        | none => rw [hx] at h; cases h
        | some us =>
          rw [hx] at h
          cases h
          have ih := lx_some r c us hx
          have eT : tokC (c :: r) = if t.1 = 19 then none else some t := by unfold tokC; rw [ht]
          rw [eT, ih]
          by_cases h19 : t.1 = 19
          · rw [if_pos h19]
            exact (if_neg (fun z => z t (List.mem_cons_self ..) h19)).symm
          · rw [if_neg h19]
            by_cases hu : ∀ t, t ∈ us → t.1 ≠ 19
            · rw [if_pos hu, if_pos (fun x hx => by rcases List.mem_cons.mp hx with z | z; rw [z]; exact h19; exact hu x z)]
            · rw [if_neg hu, if_neg (fun z => hu (fun x hx => z x (List.mem_cons_of_mem _ hx)))]
theorem tokA_pos {s : List Nat} {t : Tk} (h : tokA s = some t) : t.1 ≠ 0 := by
  unfold tokA at h
  split at h
  · cases h
  · split at h
    · split at h
      · split at h
        · cases h; exact (by decide : (3 : Nat) ≠ 0)
        · cases h; exact (by decide : (19 : Nat) ≠ 0)
      · cases h
        intro z
        have := kw_inv (k := 0) z (by decide)
        omega
    · split at h
      · split at h
        · cases h; exact (by decide : (2 : Nat) ≠ 0)
        · cases h
      · split at h
        · cases h; exact (by decide : (1 : Nat) ≠ 0)
        · split at h
          · next hs => cases h; intro z; have := isS_iff.mp hs; dsimp only at z; omega
          · cases h
theorem lx_pos (p : Nat) : ∀ (s : List Nat) (ts : List Tk), lxW tokA p s = some ts → ∀ t, t ∈ ts → t.1 ≠ 0 := by
  intro s
  induction s generalizing p with
  | nil => intro ts h t ht; cases h; cases ht
  | cons c r ih =>
    intro ts h t ht
    have eA : lxW tokA p (c :: r) = if c = 32 ∨ goes p c = true then lxW tokA c r else (match tokA (c :: r) with
      | some t => (match lxW tokA c r with | some ts => some (t :: ts) | none => none)
      | none => none) := rfl
    rw [eA] at h
    split at h
    · exact ih c ts h t ht
    · split at h
      · next t1 e1 =>
        split at h
        · next us e2 =>
          cases h
          rcases List.mem_cons.mp ht with z | z
          · rw [z]; exact tokA_pos e1
          · exact ih c us e2 t z
        · cases h
      · cases h
/-- what the class reads is what the reference reads -/
theorem parse_ref (cl : List Nat) : parse cl = (match lxW tokA 32 cl with | some ts => chk (sWhole ((ts, [], []), sc0)) | none => none) := by
  unfold parse
  cases hA : lxW tokA 32 cl with
  | none => rw [lx_none cl 32 hA]
  | some ts =>
    rw [lx_some cl 32 ts hA]
    by_cases h : ∀ t, t ∈ ts → t.1 ≠ 19
    · rw [if_pos h]; rfl
    · rw [if_neg h]
      dsimp only
      cases hx : sWhole ((ts, [], []), sc0) with
      | none => rfl
      | some s =>
        show none = if hd s.1.1 = 0 then some s else none
        by_cases h0 : hd s.1.1 = 0
        · exfalso
          obtain ⟨p, e, hp⟩ := nS_whole _ _ hx
          have e : ts = p ++ s.1.1 := e
          cases hs : s.1.1 with
          | nil => rw [hs, List.append_nil] at e; subst e; exact h hp
          | cons t r =>
            rw [hs] at h0
            exact lx_pos 32 cl ts hA t (by rw [e, hs]; simp) h0
        · rw [if_neg h0]
