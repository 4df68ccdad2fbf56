/-! THE REFERENCE: a condition by what it holds, against the spec. G q cs H ps e bg w: tokens, steps, what is held (the last on top), parts, whether an or stood outside, where the part began, a test wanted or not -/
def unh (x : Nat) : Nat := if x = 13 then 18 else if x = 14 then 17 else if x = 15 then 16 else x
def eh (P : List Nat) : List Op := P.reverse.map (fun x => opr (unh x))
theorem eh_app (P Q : List Nat) : eh (P ++ Q) = eh Q ++ eh P := by
  unfold eh
  rw [List.reverse_append, List.map_append]
theorem eh_nil : eh [] = [] := rfl
theorem eh_one (x : Nat) : eh [x] = [opr (unh x)] := rfl
theorem eh_len (P : List Nat) : (eh P).length = P.length := by
  unfold eh
  rw [List.length_map, List.length_reverse]
/-- how many of what is held are nests -/
def nsh (H : List Nat) : Nat := (H.filter (fun x => x == 13 || x == 16)).length
theorem nsh_app (W V : List Nat) : nsh (W ++ V) = nsh W + nsh V := by
  unfold nsh
  rw [List.filter_append, List.length_append]
theorem nsh_rep (k : Nat) : nsh (List.replicate k 13) = k := by
  induction k with
  | zero => rfl
  | succ k ih =>
    have : nsh (List.replicate (k + 1) 13) = nsh (List.replicate k 13) + 1 := rfl
    rw [this, ih]
def ob (H : List Nat) (bg : Nat) (cs : List Op) : Nat := if nsh H = 0 then cs.length else bg
def psA (H : List Nat) (ps : List Pt) (x y z : Nat) : List Pt := if nsh H = 0 then ps ++ [(x, y, z)] else ps
def CC (G : List Tk → List Op → List Nat → List Pt → Nat → Nat → Nat → Prop) (B : Prop) : Prop :=
  (∀ t r cs H ps e bg, t.1 = 18 ∨ t.1 = 91 → nsh H ≤ 7 → G r cs (H ++ [if t.1 = 18 then 13 else 16]) ps e (ob H bg cs) 1 → G (t :: r) cs H ps e bg 1) ∧
  (∀ t r cs H ps e bg, t.1 = 18 ∨ t.1 = 91 → 7 < nsh H → B → G (t :: r) cs H ps e bg 1) ∧
  (∀ q c mq r cs H k ps e bg, hd q ≠ 18 → hd q ≠ 91 → pCmp (8 - nsh (H ++ List.replicate k 13)) q = some (c, mq, r) → topW H ≠ 13 → nsh (H ++ List.replicate k 13) ≤ 8 → G r (cs ++ c ++ List.replicate k (opr 18)) H (psA H ps (ob (H ++ List.replicate k 13) bg cs) (if nsh (H ++ List.replicate k 13) = 0 then mide cs.length mq else 0) (cs ++ c ++ List.replicate k (opr 18)).length) e (ob (H ++ List.replicate k 13) bg cs) 0 → G q cs (H ++ List.replicate k 13) ps e bg 1) ∧
  (∀ q cs H ps e bg, hd q ≠ 18 → hd q ≠ 91 → nsh H ≤ 8 → pCmp (8 - nsh H) q = none → B → G q cs H ps e bg 1) ∧
  (∀ t r cs H P ps e bg, t.1 = 17 → (∀ x ∈ P, x = 14) → topW H ≠ 14 → G r (cs ++ eh P) (H ++ [14]) ps e bg 1 → G (t :: r) cs (H ++ P) ps e bg 0) ∧
  (∀ t r cs H P ps e bg, t.1 = 16 → (∀ x ∈ P, x = 14 ∨ x = 15) → topW H ≠ 14 → topW H ≠ 15 → G r (cs ++ eh P) (H ++ [15]) ps (if nsh H = 0 then 1 else e) bg 1 → G (t :: r) cs (H ++ P) ps e bg 0) ∧
  (∀ t r cs H k P ps e bg, t.1 = 93 → (∀ x ∈ P, x = 14 ∨ x = 15) → topW H ≠ 13 → G r (cs ++ eh P ++ List.replicate k (opr 18)) H (psA H ps bg 0 (cs ++ eh P ++ List.replicate k (opr 18)).length) e bg 0 → G (t :: r) cs (H ++ List.replicate k 13 ++ [16] ++ P) ps e bg 0) ∧
  (∀ q cs H ps e bg, hd q ≠ 17 → hd q ≠ 16 → hd q ≠ 93 → 16 ∈ H → B → G q cs H ps e bg 0)
def okN (A : List Nat) : Prop := A = [] ∨ A = [14]
def okO (A : List Nat) : Prop := A = [] ∨ A = [15]
/-- a base: nothing or a [ on top -/
def okH (H : List Nat) : Prop := topW H = 0 ∨ topW H = 16
theorem isAnd_iff (k : Nat) : isAnd k = true ↔ k = 17 := by
  unfold isAnd; simp
theorem isOr_iff (k : Nat) : isOr k = true ↔ k = 16 := by
  unfold isOr; simp
theorem okH.top {H O : List Nat} (h : okH H) (hO : okO O) : topW (H ++ O) ≠ 13 ∧ topW (H ++ O) ≠ 14 := by
  rcases hO with rfl | rfl
  · rw [List.append_nil]; rcases h with h | h <;> omega
  · rw [topW_snoc]; decide
theorem nsh_O {O : List Nat} (h : okO O) : nsh O = 0 := by rcases h with rfl | rfl <;> rfl
theorem nsh_N {O : List Nat} (h : okN O) : nsh O = 0 := by rcases h with rfl | rfl <;> rfl
section CP
variable {G : List Tk → List Op → List Nat → List Pt → Nat → Nat → Nat → Prop} {B : Prop}
def NegL (G : List Tk → List Op → List Nat → List Pt → Nat → Nat → Nat → Prop) (B : Prop) (l : Nat) : Prop := ∀ q cs H k ps e bg, q.length ≤ 80 → topW H ≠ 13 → nsh H + k + l = 8 → (∀ c mq r, pNeg l q = some (c, mq, r) → G r (cs ++ c ++ List.replicate k (opr 18)) H (psA H ps (ob (H ++ List.replicate k 13) bg cs) (if nsh (H ++ List.replicate k 13) = 0 then mide cs.length mq else 0) (cs ++ c ++ List.replicate k (opr 18)).length) e (ob (H ++ List.replicate k 13) bg cs) 0) → (pNeg l q = none → B) → G q cs (H ++ List.replicate k 13) ps e bg 1
theorem drp_inv {g : Pm} {q : List Tk} {c : List Op} {mq : Option Nat} {r : List Tk} (h : g q = some (c, mq, r)) : drp g q = some (c, r) := by
  unfold drp; rw [h]
theorem drp_none {g : Pm} {q : List Tk} (h : g q = none) : drp g q = none := by
  unfold drp; rw [h]
/-- inside a [ -/
theorem n_and {l : Nat} (hX : CC G B) (hF : NegL G B l) {H1 O : List Nat} {cs : List Op} {ps : List Pt} {e bg : Nat} (hH : okH H1) (hO : okO O) (h1 : 0 < nsh H1) (hn : nsh H1 + l = 8) : ∀ (n : Nat) (q : List Tk) (acc cs' : List Op) (A : List Nat), q.length < n → q.length ≤ 80 → cs' ++ eh A = cs ++ acc → okN A → (∀ c r, pLoop (drp (pNeg l)) isAnd n acc q = some (c, r) → r.length ≤ q.length → hd r ≠ 17 → ∀ cs'' A', okN A' → cs'' ++ eh A' = cs ++ c → G r cs'' (H1 ++ O ++ A') ps e bg 0) → (pLoop (drp (pNeg l)) isAnd n acc q = none → B) → G q cs' (H1 ++ O ++ A) ps e bg 0 := by
  intro n
  induction n with
  | zero => intro q acc cs' A h; omega
  | succ n ih =>
    intro q acc cs' A h h80 he hA k1 k2
    cases q with
    | nil => exact k1 acc [] rfl (Nat.le_refl _) (by decide) cs' A hA he
    | cons t r =>
      rw [List.length_cons] at h h80
      by_cases ht : t.1 = 17
      · have hT := hH.top hO
        have e1 : ∀ x, drp (pNeg l) r = x → pLoop (drp (pNeg l)) isAnd (n + 1) acc (t :: r) = (match x with | some (c, r') => pLoop (drp (pNeg l)) isAnd n (acc ++ c ++ [opr t.1]) r' | none => none) := by
          intro x hx
          subst hx
          show (if isAnd t.1 = true then _ else _) = _
          rw [if_pos ((isAnd_iff _).mpr ht)]
          rfl
        refine hX.2.2.2.2.1 t r cs' (H1 ++ O) A ps e bg ht ?_ hT.2 ?_
        · rcases hA with rfl | rfl
          · intro x hx; cases hx
          · intro x hx; exact List.mem_singleton.mp hx
        · have hs : nsh (H1 ++ O ++ [14]) = nsh H1 := by rw [nsh_app, nsh_app, nsh_O hO]; rfl
          have := hF r (cs' ++ eh A) (H1 ++ O ++ [14]) 0 ps e bg (by omega) (by rw [topW_snoc]; decide) (by rw [hs]; omega) ?_ ?_
          · rw [List.replicate_zero, List.append_nil] at this; exact this
          · intro c mq r2 e2
            rw [List.replicate_zero, List.replicate_zero, List.append_nil, List.append_nil]
            have e2 := drp_inv e2
            have hl := okP_drp (okM_neg l) _ _ _ e2
            have e3 := e1 _ e2
            rw [e3] at k1 k2
            have o1 : ob (H1 ++ O ++ [14]) bg (cs' ++ eh A) = bg := if_neg (by rw [hs]; omega)
            have o2 : ∀ x y z, psA (H1 ++ O ++ [14]) ps x y z = ps := fun x y z => if_neg (by rw [hs]; omega)
            rw [o1, o2]
            refine ih r2 (acc ++ c ++ [opr t.1]) _ [14] (by omega) (by omega) ?_ (Or.inr rfl) (fun c1 r1 a1 a2 a3 => k1 c1 r1 a1 (by rw [List.length_cons]; omega) a3) k2
            rw [he, eh_one, ht, List.append_assoc, List.append_assoc, List.append_assoc]; rfl
          · intro e2
            have e3 := e1 _ (drp_none e2)
            rw [e3] at k2
            exact k2 rfl
      · have e1 : pLoop (drp (pNeg l)) isAnd (n + 1) acc (t :: r) = some (acc, t :: r) := by
          show (if isAnd t.1 = true then _ else _) = _
          rw [if_neg (fun z => ht ((isAnd_iff _).mp z))]
        exact k1 acc (t :: r) e1 (Nat.le_refl _) ht cs' A hA he
theorem n_con {l : Nat} (hX : CC G B) (hF : NegL G B l) {H1 O : List Nat} {cs : List Op} {ps : List Pt} {e bg : Nat} {q : List Tk} (hq : q.length ≤ 80) (hH : okH H1) (hO : okO O) (h1 : 0 < nsh H1) (hn : nsh H1 + l = 8)
    (k1 : ∀ c r, pCon (pNeg l) q = some (c, r) → r.length < q.length → hd r ≠ 17 → ∀ cs'' A', okN A' → cs'' ++ eh A' = cs ++ c → G r cs'' (H1 ++ O ++ A') ps e bg 0) (k2 : pCon (pNeg l) q = none → B) : G q cs (H1 ++ O) ps e bg 1 := by
  have e1 : ∀ x, drp (pNeg l) q = x → pCon (pNeg l) q = (match x with | some (c, r) => pLoop (drp (pNeg l)) isAnd 80 c r | none => none) := by
    intro x hx
    subst hx
    rfl
  have hs : nsh (H1 ++ O) = nsh H1 := by rw [nsh_app, nsh_O hO]; rfl
  have := hF q cs (H1 ++ O) 0 ps e bg hq (hH.top hO).1 (by rw [hs]; omega) ?_ ?_
  · rw [List.replicate_zero, List.append_nil] at this; exact this
  · intro c mq r e2
    have e2 := drp_inv e2
    have hl := okP_drp (okM_neg l) _ _ _ e2
    have e3 := e1 _ e2
    rw [e3] at k1 k2
    rw [List.replicate_zero, List.replicate_zero, List.append_nil, List.append_nil]
    have o1 : ob (H1 ++ O) bg cs = bg := if_neg (by rw [hs]; omega)
    have o2 : ∀ x y z, psA (H1 ++ O) ps x y z = ps := fun x y z => if_neg (by rw [hs]; omega)
    rw [o1, o2]
    have := n_and hX hF (cs := cs) (ps := ps) (e := e) (bg := bg) hH hO h1 hn 80 r c (cs ++ c) [] (by omega) (by omega) (by rw [eh_nil, List.append_nil]) (Or.inl rfl) (fun c1 r1 a1 a2 a3 => k1 c1 r1 a1 (by omega) a3) k2
    rw [List.append_nil] at this
    exact this
  · intro e2
    have e3 := e1 _ (drp_none e2)
    rw [e3] at k2
    exact k2 rfl
theorem n_or {l : Nat} (hX : CC G B) (hF : NegL G B l) {H1 : List Nat} {cs : List Op} {ps : List Pt} {e bg : Nat} (hH : okH H1) (h1 : 0 < nsh H1) (hn : nsh H1 + l = 8) : ∀ (n : Nat) (q : List Tk) (acc cs' : List Op) (O A : List Nat), q.length < n → q.length ≤ 80 → cs' ++ eh A ++ eh O = cs ++ acc → okO O → okN A → hd q ≠ 17 → (∀ c r, pLoop (pCon (pNeg l)) isOr n acc q = some (c, r) → hd r ≠ 17 → hd r ≠ 16 → ∀ cs'' O' A', okO O' → okN A' → cs'' ++ eh A' ++ eh O' = cs ++ c → G r cs'' (H1 ++ O' ++ A') ps e bg 0) → (pLoop (pCon (pNeg l)) isOr n acc q = none → B) → G q cs' (H1 ++ O ++ A) ps e bg 0 := by
  intro n
  induction n with
  | zero => intro q acc cs' O A h; omega
  | succ n ih =>
    intro q acc cs' O A h h80 he hO hA h17 k1 k2
    cases q with
    | nil => exact k1 acc [] rfl (by decide) (by decide) cs' O A hO hA he
    | cons t r =>
      rw [List.length_cons] at h h80
      by_cases ht : t.1 = 16
      · have e1 : ∀ x, pCon (pNeg l) r = x → pLoop (pCon (pNeg l)) isOr (n + 1) acc (t :: r) = (match x with | some (c, r') => pLoop (pCon (pNeg l)) isOr n (acc ++ c ++ [opr t.1]) r' | none => none) := by
          intro x hx
          subst hx
          show (if isOr t.1 = true then _ else _) = _
          rw [if_pos ((isOr_iff _).mpr ht)]
          rfl
        rw [List.append_assoc]
        refine hX.2.2.2.2.2.1 t r cs' H1 (O ++ A) ps e bg ht ?_ (by rcases hH with z | z <;> omega) (by rcases hH with z | z <;> omega) ?_
        · intro x hx
          rcases hO with rfl | rfl <;> rcases hA with rfl | rfl <;> simp at hx <;> omega
        · rw [if_neg (by omega)]
          refine n_con hX hF (by omega) hH (Or.inr rfl) h1 hn (fun c r2 e2 hl hm2 cs2 A2 hA2 he2 => ?_) (fun e2 => ?_)
          · have e3 := e1 _ e2
            rw [e3] at k1 k2
            refine ih r2 (acc ++ c ++ [opr t.1]) cs2 [15] A2 (by omega) (by omega) ?_ (Or.inr rfl) hA2 hm2 k1 k2
            rw [he2, eh_app, ← List.append_assoc, he, eh_one, ht, List.append_assoc, List.append_assoc, List.append_assoc]; rfl
          · have e3 := e1 _ e2
            rw [e3] at k2
            exact k2 rfl
      · have e1 : pLoop (pCon (pNeg l)) isOr (n + 1) acc (t :: r) = some (acc, t :: r) := by
          show (if isOr t.1 = true then _ else _) = _
          rw [if_neg (fun z => ht ((isOr_iff _).mp z))]
        exact k1 acc (t :: r) e1 h17 ht cs' O A hO hA he
theorem n_cnd {l : Nat} (hX : CC G B) (hF : NegL G B l) {H1 : List Nat} {cs : List Op} {ps : List Pt} {e bg : Nat} {q : List Tk} (hq : q.length ≤ 80) (hH : okH H1) (h1 : 0 < nsh H1) (hn : nsh H1 + l = 8)
    (k1 : ∀ c r, pCnd (pNeg l) q = some (c, r) → hd r ≠ 17 → hd r ≠ 16 → ∀ cs'' O' A', okO O' → okN A' → cs'' ++ eh A' ++ eh O' = cs ++ c → G r cs'' (H1 ++ O' ++ A') ps e bg 0) (k2 : pCnd (pNeg l) q = none → B) : G q cs H1 ps e bg 1 := by
  have e1 : ∀ x, pCon (pNeg l) q = x → pCnd (pNeg l) q = (match x with | some (c, r) => pLoop (pCon (pNeg l)) isOr 80 c r | none => none) := by
    intro x hx
    subst hx
    rfl
  have := n_con hX hF (O := []) (cs := cs) (ps := ps) (e := e) (bg := bg) hq hH (Or.inl rfl) h1 hn (fun c r e2 hl hm cs2 A2 hA2 he2 => ?_) (fun e2 => ?_)
  · rw [List.append_nil] at this; exact this
  · have e3 := e1 _ e2
    rw [e3] at k1 k2
    refine n_or hX hF hH h1 hn 80 r c cs2 [] A2 (by omega) (by omega) ?_ (Or.inl rfl) hA2 hm k1 k2
    rw [eh_nil, List.append_nil]; exact he2
  · have e3 := e1 _ e2
    rw [e3] at k2
    exact k2 rfl
theorem negB_cmp {e : Ps} {f g : Pm} {q : List Tk} (h1 : hd q ≠ 18) (h2 : hd q ≠ 91) : negB e f g q = g q := by
  cases q with
  | nil => rfl
  | cons t r =>
    have h1 : t.1 ≠ 18 := h1
    have h2 : t.1 ≠ 91 := h2
    unfold negB
    dsimp only
    rw [if_neg h2, if_neg h1]
theorem x_neg (hX : CC G B) : ∀ l, NegL G B l := by
  intro l
  induction l with
  | zero =>
    intro q cs H k ps e bg hq hH hn k1 k2
    have hs : nsh (H ++ List.replicate k 13) = 8 := by rw [nsh_app, nsh_rep]; omega
    by_cases h18 : hd q = 18
    · cases q with
      | nil => cases h18
      | cons t r =>
        have h18 : t.1 = 18 := h18
        refine hX.2.1 t r _ _ _ _ _ (Or.inl h18) (by omega) (k2 ?_)
        show negB _ _ _ _ = none
        unfold negB
        dsimp only
        rw [if_neg (by omega), if_pos h18]
    · by_cases h91 : hd q = 91
      · cases q with
        | nil => cases h91
        | cons t r =>
          have h91 : t.1 = 91 := h91
          refine hX.2.1 t r _ _ _ _ _ (Or.inr h91) (by omega) (k2 ?_)
          show negB _ _ _ _ = none
          unfold negB
          dsimp only
          rw [if_pos h91]; rfl
      · have e0 : pNeg 0 q = pCmp 0 q := negB_cmp h18 h91
        rw [e0] at k1 k2
        have e8 : pCmp (8 - nsh (H ++ List.replicate k 13)) q = pCmp 0 q := by rw [hs]
        cases hl : pCmp 0 q with
        | none => exact hX.2.2.2.1 _ _ _ _ _ _ h18 h91 (by omega) (e8.trans hl) (k2 hl)
        | some y => exact hX.2.2.1 _ y.1 y.2.1 y.2.2 _ _ _ _ _ _ h18 h91 (e8.trans hl) hH (by omega) (k1 _ _ _ hl)
  | succ l ih =>
    intro q cs H k ps e bg hq hH hn k1 k2
    have hs : nsh (H ++ List.replicate k 13) + (l + 1) = 8 := by rw [nsh_app, nsh_rep]; omega
    by_cases h18 : hd q = 18
    · cases q with
      | nil => cases h18
      | cons t r =>
        rw [List.length_cons] at hq
        have h18 : t.1 = 18 := h18
        have e0 : ∀ x, pNeg l r = x → pNeg (l + 1) (t :: r) = (match x with | some (c, _, r') => some (c ++ [opr 18], none, r') | none => none) := by
          intro x hx
          subst hx
          show negB _ _ _ _ = _
          unfold negB
          dsimp only
          rw [if_neg (by omega), if_pos h18]
          rfl
        refine hX.1 t r _ _ _ _ _ (Or.inl h18) (by omega) ?_
        rw [if_pos h18, List.append_assoc, ← List.replicate_succ']
        refine ih r cs H (k + 1) ps e _ (by omega) hH (by omega) (fun c mq r2 e2 => ?_) (fun e2 => k2 (e0 _ e2))
        have hs1 : nsh (H ++ List.replicate (k + 1) 13) ≠ 0 := by rw [nsh_app, nsh_rep]; omega
        have o1 : ob (H ++ List.replicate (k + 1) 13) (ob (H ++ List.replicate k 13) bg cs) cs = ob (H ++ List.replicate k 13) bg cs := if_neg hs1
        rw [o1, if_neg hs1]
        have := k1 _ _ _ (e0 _ e2)
        have e5 : cs ++ (c ++ [opr 18]) ++ List.replicate k (opr 18) = cs ++ c ++ List.replicate (k + 1) (opr 18) := by
          rw [List.replicate_succ]
          simp only [List.append_assoc, List.cons_append, List.nil_append]
        rw [e5] at this
        have e6 : (if nsh (H ++ List.replicate k 13) = 0 then mide cs.length none else 0) = 0 := by split <;> rfl
        rw [e6] at this
        exact this
    · by_cases h91 : hd q = 91
      · cases q with
        | nil => cases h91
        | cons t r =>
          rw [List.length_cons] at hq
          have h91 : t.1 = 91 := h91
          have e0 : ∀ x, pTok 93 (pCnd (pNeg l) r) = x → pNeg (l + 1) (t :: r) = (match x with | some (c, r') => some (c, none, r') | none => none) := by
            intro x hx
            subst hx
            show negB _ _ _ _ = _
            unfold negB
            dsimp only
            rw [if_pos h91]
            rfl
          refine hX.1 t r _ _ _ _ _ (Or.inr h91) (by omega) ?_
          rw [if_neg (by omega)]
          have hs2 : nsh (H ++ List.replicate k 13 ++ [16]) = nsh (H ++ List.replicate k 13) + 1 := by rw [nsh_app]; rfl
          refine n_cnd hX ih (by omega) (Or.inr (by rw [topW_snoc])) (by omega) (by omega) (fun c r2 e2 h17 h16 cs2 O A hO hA he => ?_) (fun e2 => k2 (e0 none (by rw [e2]; rfl)))
          cases r2 with
          | nil =>
            exact hX.2.2.2.2.2.2.2 _ _ _ _ _ _ (by decide) (by decide) (by decide) (by simp) (k2 (e0 none (by rw [e2]; rfl)))
          | cons t2 r2 =>
            by_cases h93 : t2.1 = 93
            · rw [List.append_assoc]
              refine hX.2.2.2.2.2.2.1 t2 r2 _ H k (O ++ A) ps e _ h93 ?_ hH ?_
              · intro x hx
                rcases hO with rfl | rfl <;> rcases hA with rfl | rfl <;> simp at hx <;> omega
              · have := k1 c none r2 (e0 (some (c, r2)) (by rw [e2]; unfold pTok; dsimp only; rw [if_pos h93]))
                rw [eh_app, ← List.append_assoc, he]
                have e6 : (if nsh (H ++ List.replicate k 13) = 0 then mide cs.length none else 0) = 0 := by split <;> rfl
                rw [e6] at this
                exact this
            · refine hX.2.2.2.2.2.2.2 _ _ _ _ _ _ h17 h16 h93 (by simp) (k2 (e0 none ?_))
              rw [e2]; unfold pTok; dsimp only; rw [if_neg h93]
      · have e0 : pNeg (l + 1) q = pCmp (l + 1) q := negB_cmp h18 h91
        rw [e0] at k1 k2
        have e8 : pCmp (8 - nsh (H ++ List.replicate k 13)) q = pCmp (l + 1) q := by rw [show 8 - nsh (H ++ List.replicate k 13) = l + 1 by omega]
        cases hl : pCmp (l + 1) q with
        | none => exact hX.2.2.2.1 _ _ _ _ _ _ h18 h91 (by omega) (e8.trans hl) (k2 hl)
        | some y => exact hX.2.2.1 _ y.1 y.2.1 y.2.2 _ _ _ _ _ _ h18 h91 (e8.trans hl) hH (by omega) (k1 _ _ _ hl)
end CP
