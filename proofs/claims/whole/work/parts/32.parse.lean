/-! THE CLASS'S PARSER reads as the spec does: E -/
def TN (m : Mm) (N : Nat) (q : List Tk) : Prop := q.length ≤ N ∧ TR m (N - q.length) q
theorem TN.fr {S : List Nat} {m m1 : Mm} {N : Nat} {q : List Tk} (h : TN m N q) (k : Fr S m m1) (h1 : 26 ∉ S) (h2 : 27 ∉ S) (h3 : 28 ∉ S) : TN m1 N q := ⟨h.1, h.2.fr k h1 h2 h3⟩
theorem TN.le {m : Mm} {N : Nat} {q : List Tk} (h : TN m N q) : N ≤ 80 := by have h1 := h.1; have h2 := h.2.le; omega
/-- the token ahead is taken -/
theorem c_accN {d : Nat} {m : Mm} {K : Option Value → Mm → Prop} {N n : Nat} {q : List Tk} (hL : Len m) (h : TN m N q) (hn : 0 < n) (hn2 : n < 1000)
    (k1 : ∀ t r, q = t :: r → t.1 = n → ∀ m', TN m' N r → Fr [26] m m' → m'.F 26 3 = nI (N - q.length + 1) → (m'.A 28).getD (N - q.length) 0 = nI t.2 → t.2 < 2 ^ 30 → K (some (.int (nI 1))) m') (k2 : hd q ≠ n → K (some (.int (nI 0))) m) : WP d 71 [.ref 26, .int (nI n)] m K := by
  refine c_acc hL h.2 hn hn2 ?_
  split
  · next e =>
    cases q with
    | nil => exact absurd e (by show 0 ≠ n; omega)
    | cons t r =>
      have h0 := h.1
      have h1 := h.2.head
      simp only [List.length_cons] at h0
      refine k1 t r rfl e _ ⟨by omega, ?_⟩ (Fr.uF (Fr.refl _ m) (by decide) _ _) rfl h1.2.1 h1.2.2.2.2
      have h2 := h.2.next
      simp only [List.length_cons] at h2
      rw [show N - r.length = N - (r.length + 1) + 1 by omega]
      exact h2
  · next e => exact k2 e
def SX : List Nat := [17, 18, 19, 20, 21, 26]
/-- what must hold behind a reading -/
def PPost (S : List Nat) (m : Mm) (N : Nat) (cs : List Op) (x : Option (List Op × List Tk)) (K : Option Value → Mm → Prop) : Prop := match x with
  | some (c, r) => ∀ m', TN m' N r → CD m' (cs ++ c) → Fr S m m' → K (some (.int (nI 1))) m'
  | none => ∀ m', Fr S m m' → K (some (.int (nI 0))) m'
theorem PPost.fr {S : List Nat} {m m1 : Mm} {N : Nat} {cs : List Op} {x : Option (List Op × List Tk)} {K : Option Value → Mm → Prop} (h : PPost S m N cs x K) (k : Fr S m m1) : PPost S m1 N cs x K := by
  cases x with
  | none => exact fun m' f => h m' (k.trans f)
  | some y =>
    obtain ⟨c, r⟩ := y
    exact fun m' h1 h2 f => h m' h1 h2 (k.trans f)
/-- a method that reads -/
def CPs (S : List Nat) (d M : Nat) (a : Int32) (f : Ps) : Prop := ∀ (m : Mm) (K : Option Value → Mm → Prop) (N : Nat) (q : List Tk) (cs : List Op), Len m → TN m N q → CD m cs → cs.length + q.length ≤ N → PPost S m N cs (f q) K → WP d M [.ref 25, .int a] m K
theorem CPs.up {S : List Nat} {d d' M : Nat} {a : Int32} {f : Ps} (h : CPs S d M a f) (hd : d ≤ d') : CPs S d' M a f := fun m K N q cs h1 h2 h3 h4 h5 => (h m K N q cs h1 h2 h3 h4 h5).up hd
theorem c_addN {d : Nat} {m : Mm} {K : Option Value → Mm → Prop} {cs : List Op} {x y o : Nat} (hL : Len m) (h : CD m cs) (hl : cs.length < 80) (k : ∀ m', CD m' (cs ++ [(x, y, o)]) → Fr SX m m' → (∀ N q, TN m N q → TN m' N q) → K none m') : WP d 47 [.ref 17, .int (nI x), .int (nI y), .int (ow o)] m K := c_add hL h hl (fun m' h1 h2 => k m' h1 (h2.mono (by decide)) (fun N q h3 => h3.fr h2 (by decide) (by decide) (by decide)))
theorem c_addOpN {d : Nat} {m : Mm} {K : Option Value → Mm → Prop} {cs : List Op} {x : Nat} (hL : Len m) (h : CD m cs) (hl : cs.length < 80) (k : ∀ m', CD m' (cs ++ [opr x]) → Fr SX m m' → (∀ N q, TN m N q → TN m' N q) → K none m') : WP (d + 1) 46 [.ref 17, .int (nI x)] m K := c_addOp hL h hl (fun m' h1 h2 => k m' h1 (h2.mono (by decide)) (fun N q h3 => h3.fr h2 (by decide) (by decide) (by decide)))
theorem Fr26 {m m1 : Mm} (h : Fr [26] m m1) : Fr SX m m1 := h.mono (by decide)
theorem CD26 {m m1 : Mm} {cs : List Op} (h : CD m cs) (k : Fr [26] m m1) : CD m1 cs := h.fr k (by decide) (by decide) (by decide) (by decide)
theorem c_col {d : Nat} {m : Mm} {K : Option Value → Mm → Prop} {N : Nat} {q : List Tk} {cs : List Op} (hL : Len m) (hT : TN m N q) (hC : CD m cs) (hc : cs.length + q.length ≤ N) (k : PPost SX m N cs (pCol q) K) : WP (d + 1) 99 [.ref 25] m K := by
  have hN := hT.le
  refine sp_99 ?_
  refine c_accN hL hT (by decide) (by decide) (fun t r e e1 m1 hT1 f1 a1 a2 a3 => ⟨_, rfl, ?_⟩) (fun e => ⟨_, rfl, ?_⟩)
  · subst e
    rw [if_neg (by decide)]
    simp only [List.length_cons] at *
    refine c_taken (hL.fr f1) a1 (by omega) a2 ⟨_, rfl, ?_⟩
    refine c_accN (hL.fr f1) hT1 (by decide) (by decide) (fun t2 r2 e e2 m2 hT2 f2 b1 b2 b3 => ⟨_, rfl, ?_⟩) (fun e => ⟨_, rfl, ?_⟩)
    · subst e
      rw [if_neg (by decide)]
      simp only [List.length_cons] at *
      refine c_accN ((hL.fr f1).fr f2) hT2 (by decide) (by decide) (fun t3 r3 e e3 m3 hT3 f3 c1 c2 c3 => ⟨_, rfl, ?_⟩) (fun e => ⟨_, rfl, ?_⟩)
      · subst e
        rw [if_neg (by decide)]
        simp only [List.length_cons] at *
        have g := (f1.trans f2).trans f3
        refine c_taken (hL.fr g) c1 (by omega) c2 ⟨_, rfl, ?_⟩
        refine c_addN (x := 3) (y := t3.2) (o := t.2 + 1) (hL.fr g) (CD26 hC g) (by omega) (fun m4 hC4 f4 hT4 => ⟨rfl, ?_⟩)
        have e0 : pCol (t :: t2 :: t3 :: r3) = some ([(3, t3.2, t.2 + 1)], r3) := by
          unfold pCol
          dsimp only
          rw [if_pos e1, if_pos ⟨e2, e3⟩]
        rw [e0] at k
        exact k m4 (hT4 _ _ hT3) hC4 ((Fr26 g).trans f4)
      · rw [if_pos rfl]
        have e0 : pCol (t :: t2 :: r2) = none := by
          unfold pCol
          dsimp only
          rw [if_pos e1]
          cases r2 with
          | nil => rfl
          | cons t3 r3 => exact if_neg (fun q => e q.2)
        rw [e0] at k
        exact k m2 (Fr26 (f1.trans f2))
    · rw [if_pos rfl]
      have e0 : pCol (t :: r) = none := by
        unfold pCol
        dsimp only
        rw [if_pos e1]
        cases r with
        | nil => rfl
        | cons t2 r2 =>
          cases r2 with
          | nil => rfl
          | cons t3 r3 => exact if_neg (fun q => e q.1)
      rw [e0] at k
      exact k m1 (Fr26 f1)
  · rw [if_pos rfl]
    refine c_accN hL hT (by decide) (by decide) (fun t r e2 e1 m1 hT1 f1 a1 a2 a3 => ⟨_, rfl, ?_⟩) (fun e2 => ⟨_, rfl, ?_⟩)
    · subst e2
      rw [if_neg (by decide)]
      simp only [List.length_cons] at *
      refine c_taken (hL.fr f1) a1 (by omega) a2 ⟨_, rfl, ?_⟩
      refine c_addN (x := 3) (y := t.2) (o := 0) (hL.fr f1) (CD26 hC f1) (by omega) (fun m4 hC4 f4 hT4 => ⟨rfl, ?_⟩)
      have e0 : pCol (t :: r) = some ([(3, t.2, 0)], r) := by
        unfold pCol
        dsimp only
        rw [if_neg (show ¬ t.1 = 1 from e), if_pos e1]
      rw [e0] at k
      exact k m4 (hT4 _ _ hT1) hC4 ((Fr26 f1).trans f4)
    · rw [if_pos rfl]
      have e0 : pCol q = none := by
        cases q with
        | nil => rfl
        | cons t r =>
          unfold pCol
          dsimp only
          rw [if_neg (show ¬ t.1 = 1 from e), if_neg (show ¬ t.1 = 3 from e2)]
      rw [e0] at k
      exact k m (Fr.refl _ m)
/-- the body of a loop over operators -/
theorem c_body {d Ms : Nat} {a : Int32} {f : Ps} (hs : CPs SX (d + 1) Ms a f) {m : Mm} {K : Option Value → Mm → Prop} {W : Int32 → Mm → Prop} {N : Nat} {t : Tk} {r : List Tk} {cs : List Op} (hL : Len m) (hT : TN m N (t :: r)) (hC : CD m cs) (hc : cs.length + (t :: r).length ≤ N) (hf : okP f) (h0 : 0 < t.1) (h1 : t.1 < 1000)
    (k1 : f r = none → ∀ m', Fr SX m m' → K (some (.int (nI 0))) m')
    (k2 : ∀ c r', f r = some (c, r') → ∀ m', TN m' N r' → CD m' (cs ++ (c ++ [opr t.1])) → Fr SX m m' → (cs ++ (c ++ [opr t.1])).length + r'.length ≤ N → W (nI (hd r')) m') :
    WP (d + 1) 71 [.ref 26, .int (nI t.1)] m (fun v m3 => ∃ w4, v = some (.int w4) ∧ WP (d + 1) Ms [.ref 25, .int a] m3 (fun v m5 => ∃ w6, v = some (.int w6) ∧ (if w6 = (nI 0) then K (some (.int (nI 0))) m5 else WP (d + 1) 46 [.ref 17, .int (nI t.1)] m5 (fun v m8 => v = none ∧ WP (d + 1) 70 [.ref 26] m8 (fun v m9 => ∃ w10, v = some (.int w10) ∧ W w10 m9))))) := by
  have hN := hT.le
  refine c_accN hL hT h0 h1 (fun t' r' e e1 m1 hT1 f1 a1 a2 a3 => ⟨_, rfl, ?_⟩) (fun e => absurd rfl e)
  cases e
  simp only [List.length_cons] at hc
  refine hs m1 _ N r cs (hL.fr f1) hT1 (CD26 hC f1) (by omega) ?_
  cases hx : f r with
  | none => exact fun m' f2 => ⟨_, rfl, by rw [if_pos rfl]; exact k1 hx m' ((Fr26 f1).trans f2)⟩
  | some y =>
    obtain ⟨c, r'⟩ := y
    intro m' hT2 hC2 f2
    have hl := hf _ _ _ hx
    have g := (Fr26 f1).trans f2
    refine ⟨_, rfl, ?_⟩
    rw [if_neg (by decide)]
    refine c_addOpN (hL.fr g) hC2 (by rw [List.length_append]; omega) (fun m4 hC4 f4 hT4 => ⟨rfl, ?_⟩)
    refine c_next ((hL.fr g).fr f4) (hT4 _ _ hT2).2 ⟨_, rfl, ?_⟩
    refine k2 c r' hx m4 (hT4 _ _ hT2) ?_ (g.trans f4) ?_
    · rw [← List.append_assoc]; exact hC4
    · simp only [List.length_append, List.length_cons, List.length_nil]; omega
theorem lp_97 {d n : Nat} {f : Ps} (hs : CPs SX (d + 1) 98 (nI n) f) (hf : okP f) : ∀ (j : Nat), j ≤ 80 → ∀ (m : Mm) (K : Option Value → Mm → Prop) (N : Nat) (q : List Tk) (cs acc : List Op), Len m → TN m N q → CD m (cs ++ acc) → (cs ++ acc).length + q.length ≤ N → PPost SX m N cs (pLoop f isMul j acc q) K → WH (d + 2) 97 20 [(0, .ref 25), (1, .int (nI n)), (2, .int (nI (hd q))), (3, .int (nI (80 - j)))] [] m K := by
  intro j
  induction j with
  | zero =>
    intro hj m K N q cs acc hL hT hC hc k
    refine sg_97_20 _ _ _ ?_
    simp (disch := omega) only [nIle]
    rw [if_pos (by omega)]
    exact k m hT hC (Fr.refl _ m)
  | succ j ih =>
    intro hj m K N q cs acc hL hT hC hc k
    refine sg_97_20 _ _ _ ?_
    simp (disch := omega) only [nIle]
    rw [if_neg (by omega)]
    cases q with
    | nil =>
      rw [show hd [] = 0 from rfl, if_neg (by decide), if_neg (by decide)]
      exact k m hT hC (Fr.refl _ m)
    | cons t r =>
      have h1 := hT.2.head
      show if nI t.1 = nI 42 then _ else _
      simp (disch := omega) only [nIeq, show hd (t :: r) = t.1 from rfl, nI_add]
      have B : isMul t.1 = true → ∀ W : Int32 → Mm → Prop, (∀ c r', f r = some (c, r') → ∀ m', TN m' N r' → CD m' (cs ++ (acc ++ c ++ [opr t.1])) → Fr SX m m' → (cs ++ (acc ++ c ++ [opr t.1])).length + r'.length ≤ N → W (nI (hd r')) m') → WP (d + 1) 71 [.ref 26, .int (nI t.1)] m (fun v m3 => ∃ w4, v = some (.int w4) ∧ WP (d + 1) 98 [.ref 25, .int (nI n)] m3 (fun v m5 => ∃ w6, v = some (.int w6) ∧ (if w6 = (nI 0) then K (some (.int (nI 0))) m5 else WP (d + 1) 46 [.ref 17, .int (nI t.1)] m5 (fun v m8 => v = none ∧ WP (d + 1) 70 [.ref 26] m8 (fun v m9 => ∃ w10, v = some (.int w10) ∧ W w10 m9))))) := by
        intro ht W hW
        refine c_body hs hL hT hC hc hf h1.2.2.2.1 h1.2.2.1 (fun e m' f1 => ?_) (fun c r' e m' a1 a2 a3 a4 => ?_)
        · unfold pLoop at k
          simp only [ht, if_true, e] at k
          exact k m' f1
        · rw [List.append_assoc, ← List.append_assoc acc] at a2 a4
          exact hW c r' e m' a1 a2 a3 a4
      have B2 : isMul t.1 = true → ∀ c r', f r = some (c, r') → ∀ m', TN m' N r' → CD m' (cs ++ (acc ++ c ++ [opr t.1])) → Fr SX m m' → (cs ++ (acc ++ c ++ [opr t.1])).length + r'.length ≤ N → WH (d + 2) 97 20 [(0, .ref 25), (1, .int (nI n)), (2, .int (nI (hd r'))), (3, .int (nI (80 - (j + 1) + 1)))] [] m' K := by
        intro ht c r' e m' a1 a2 a3 a4
        rw [show 80 - (j + 1) + 1 = 80 - j by omega]
        refine ih (by omega) m' K N r' cs _ (hL.fr a3) a1 a2 a4 ?_
        unfold pLoop at k
        simp only [ht, if_true, e] at k
        exact k.fr a3
      split
      · next e => exact B (by rw [e]; rfl) _ (B2 (by rw [e]; rfl))
      · split
        · next e => exact B (by rw [e]; rfl) _ (B2 (by rw [e]; rfl))
        · next e1 e2 =>
          have ht : isMul t.1 = false := by
            unfold isMul
            rw [beq_false_of_ne e1, beq_false_of_ne e2]; rfl
          unfold pLoop at k
          simp only [ht] at k
          exact k m hT hC (Fr.refl _ m)
theorem c_prod {d n : Nat} {f : Ps} (hs : CPs SX (d + 1) 98 (nI n) f) (hf : okP f) : CPs SX (d + 2) 97 (nI n) (pProd f) := by
  intro m K N q cs hL hT hC hc k
  refine sp_97 _ ?_
  refine hs m _ N q cs hL hT hC hc ?_
  unfold pProd at k
  cases hx : f q with
  | none =>
    rw [hx] at k
    exact fun m' f2 => ⟨_, rfl, by rw [if_pos rfl]; exact k m' f2⟩
  | some y =>
    obtain ⟨c, r⟩ := y
    rw [hx] at k
    intro m' hT2 hC2 f2
    have hl := hf _ _ _ hx
    refine ⟨_, rfl, ?_⟩
    rw [if_neg (by decide)]
    refine c_next (hL.fr f2) hT2.2 ⟨_, rfl, ?_⟩
    exact lp_97 hs hf 80 (by omega) m' K N r cs c (hL.fr f2) hT2 hC2 (by rw [List.length_append]; omega) (PPost.fr k f2)
/-- E over any P -/
def pExpO (f : Ps) : Ps := fun ts => match f ts with | some (c, r) => pLoop f isAdd 80 c r | none => none
theorem lp_96 {d n : Nat} {f : Ps} (hs : CPs SX (d + 1) 97 (nI n) f) (hf : okP f) : ∀ (j : Nat), j ≤ 80 → ∀ (m : Mm) (K : Option Value → Mm → Prop) (N : Nat) (q : List Tk) (cs acc : List Op), Len m → TN m N q → CD m (cs ++ acc) → (cs ++ acc).length + q.length ≤ N → PPost SX m N cs (pLoop f isAdd j acc q) K → WH (d + 2) 96 20 [(0, .ref 25), (1, .int (nI n)), (2, .int (nI (hd q))), (3, .int (nI (80 - j)))] [] m K := by
  intro j
  induction j with
  | zero =>
    intro hj m K N q cs acc hL hT hC hc k
    refine sg_96_20 _ _ _ ?_
    simp (disch := omega) only [nIle]
    rw [if_pos (by omega)]
    exact k m hT hC (Fr.refl _ m)
  | succ j ih =>
    intro hj m K N q cs acc hL hT hC hc k
    refine sg_96_20 _ _ _ ?_
    simp (disch := omega) only [nIle]
    rw [if_neg (by omega)]
    cases q with
    | nil =>
      rw [show hd [] = 0 from rfl, if_neg (by decide), if_neg (by decide)]
      exact k m hT hC (Fr.refl _ m)
    | cons t r =>
      have h1 := hT.2.head
      show if nI t.1 = nI 43 then _ else _
      simp (disch := omega) only [nIeq, show hd (t :: r) = t.1 from rfl, nI_add]
      have B : isAdd t.1 = true → ∀ W : Int32 → Mm → Prop, (∀ c r', f r = some (c, r') → ∀ m', TN m' N r' → CD m' (cs ++ (acc ++ c ++ [opr t.1])) → Fr SX m m' → (cs ++ (acc ++ c ++ [opr t.1])).length + r'.length ≤ N → W (nI (hd r')) m') → WP (d + 1) 71 [.ref 26, .int (nI t.1)] m (fun v m3 => ∃ w4, v = some (.int w4) ∧ WP (d + 1) 97 [.ref 25, .int (nI n)] m3 (fun v m5 => ∃ w6, v = some (.int w6) ∧ (if w6 = (nI 0) then K (some (.int (nI 0))) m5 else WP (d + 1) 46 [.ref 17, .int (nI t.1)] m5 (fun v m8 => v = none ∧ WP (d + 1) 70 [.ref 26] m8 (fun v m9 => ∃ w10, v = some (.int w10) ∧ W w10 m9))))) := by
        intro ht W hW
        refine c_body hs hL hT hC hc hf h1.2.2.2.1 h1.2.2.1 (fun e m' f1 => ?_) (fun c r' e m' a1 a2 a3 a4 => ?_)
        · unfold pLoop at k
          simp only [ht, if_true, e] at k
          exact k m' f1
        · rw [List.append_assoc, ← List.append_assoc acc] at a2 a4
          exact hW c r' e m' a1 a2 a3 a4
      have B2 : isAdd t.1 = true → ∀ c r', f r = some (c, r') → ∀ m', TN m' N r' → CD m' (cs ++ (acc ++ c ++ [opr t.1])) → Fr SX m m' → (cs ++ (acc ++ c ++ [opr t.1])).length + r'.length ≤ N → WH (d + 2) 96 20 [(0, .ref 25), (1, .int (nI n)), (2, .int (nI (hd r'))), (3, .int (nI (80 - (j + 1) + 1)))] [] m' K := by
        intro ht c r' e m' a1 a2 a3 a4
        rw [show 80 - (j + 1) + 1 = 80 - j by omega]
        refine ih (by omega) m' K N r' cs _ (hL.fr a3) a1 a2 a4 ?_
        unfold pLoop at k
        simp only [ht, if_true, e] at k
        exact k.fr a3
      split
      · next e => exact B (by rw [e]; rfl) _ (B2 (by rw [e]; rfl))
      · split
        · next e => exact B (by rw [e]; rfl) _ (B2 (by rw [e]; rfl))
        · next e1 e2 =>
          have ht : isAdd t.1 = false := by
            unfold isAdd
            rw [beq_false_of_ne e1, beq_false_of_ne e2]; rfl
          unfold pLoop at k
          simp only [ht] at k
          exact k m hT hC (Fr.refl _ m)
theorem c_exp {d n : Nat} {f : Ps} (hs : CPs SX (d + 1) 97 (nI n) f) (hf : okP f) : CPs SX (d + 2) 96 (nI n) (pExpO f) := by
  intro m K N q cs hL hT hC hc k
  refine sp_96 _ ?_
  refine hs m _ N q cs hL hT hC hc ?_
  unfold pExpO at k
  cases hx : f q with
  | none =>
    rw [hx] at k
    exact fun m' f2 => ⟨_, rfl, by rw [if_pos rfl]; exact k m' f2⟩
  | some y =>
    obtain ⟨c, r⟩ := y
    rw [hx] at k
    intro m' hT2 hC2 f2
    have hl := hf _ _ _ hx
    refine ⟨_, rfl, ?_⟩
    rw [if_neg (by decide)]
    refine c_next (hL.fr f2) hT2.2 ⟨_, rfl, ?_⟩
    exact lp_96 hs hf 80 (by omega) m' K N r cs c (hL.fr f2) hT2 hC2 (by rw [List.length_append]; omega) (PPost.fr k f2)
