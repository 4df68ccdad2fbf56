/-! THE CLASS'S PARSER: F, N, K, C (in nests) -/
theorem PPost.imp {S : List Nat} {m : Mm} {N : Nat} {cs : List Op} {x : Option (List Op × List Tk)} {K K' : Option Value → Mm → Prop} (h : PPost S m N cs x K) (h1 : ∀ m', K (some (.int (nI 1))) m' → K' (some (.int (nI 1))) m') (h0 : ∀ m', K (some (.int (nI 0))) m' → K' (some (.int (nI 0))) m') : PPost S m N cs x K' := by
  cases x with
  | none => exact fun m' f => h0 m' (h m' f)
  | some y =>
    obtain ⟨c, r⟩ := y
    exact fun m' a1 a2 f => h1 m' (h m' a1 a2 f)
theorem c_facT {d : Nat} {m : Mm} {K : Option Value → Mm → Prop} {N : Nat} {q : List Tk} {cs : List Op} {e f : Ps} (hL : Len m) (hT : TN m N q) (hC : CD m cs) (hc : cs.length + q.length ≤ N) (k : PPost SX m N cs (facB e f q) K) (h40 : hd q ≠ 40) (h45 : hd q ≠ 45) :
    WP (d + 1) 71 [.ref 26, .int (nI 2)] m (fun v m7 => ∃ w8, v = some (.int w8) ∧ (if w8 = (nI 0) then WP (d + 1) 71 [.ref 26, .int (nI 15)] m7 (fun v m10 => ∃ w11, v = some (.int w11) ∧ (if w11 = (nI 0) then WP (d + 1) 99 [.ref 25] m10 (fun v m13 => ∃ w14, v = some (.int w14) ∧ isB w14 ∧ K (some (.int w14)) m13) else WP (d + 1) 47 [.ref 17, .int (nI 15), .int (nI 0), .int (-1)] m10 (fun v m16 => v = none ∧ K (some (.int (nI 1))) m16))) else WP (d + 1) 72 [.ref 26] m7 (fun v m17 => ∃ w18, v = some (.int w18) ∧ WP (d + 1) 47 [.ref 17, .int (nI 2), .int w18, .int (-1)] m17 (fun v m19 => v = none ∧ K (some (.int (nI 1))) m19)))) := by
  have hN := hT.le
  refine c_accN hL hT (by decide) (by decide) (fun t r e e1 m1 hT1 f1 a1 a2 a3 => ⟨_, rfl, ?_⟩) (fun e2 => ⟨_, rfl, ?_⟩)
  · subst e
    rw [if_neg (by decide)]
    simp only [List.length_cons] at *
    refine c_taken (hL.fr f1) a1 (by omega) a2 ⟨_, rfl, ?_⟩
    refine c_addN (x := 2) (y := t.2) (o := 0) (hL.fr f1) (CD26 hC f1) (by omega) (fun m4 hC4 f4 hT4 => ⟨rfl, ?_⟩)
    have e0 : facB e f (t :: r) = some ([(2, t.2, 0)], r) := by
      unfold facB
      dsimp only
      rw [if_neg (show ¬ t.1 = 40 from h40), if_neg (show ¬ t.1 = 45 from h45), if_pos e1]
    rw [e0] at k
    exact k m4 (hT4 _ _ hT1) hC4 ((Fr26 f1).trans f4)
  · rw [if_pos rfl]
    refine c_accN hL hT (by decide) (by decide) (fun t r e e1 m1 hT1 f1 a1 a2 a3 => ⟨_, rfl, ?_⟩) (fun e3 => ⟨_, rfl, ?_⟩)
    · subst e
      rw [if_neg (by decide)]
      simp only [List.length_cons] at *
      refine c_addN (x := 15) (y := 0) (o := 0) (hL.fr f1) (CD26 hC f1) (by omega) (fun m4 hC4 f4 hT4 => ⟨rfl, ?_⟩)
      have e0 : facB e f (t :: r) = some ([(15, 0, 0)], r) := by
        unfold facB
        dsimp only
        rw [if_neg (show ¬ t.1 = 40 from h40), if_neg (show ¬ t.1 = 45 from h45), if_neg (show ¬ t.1 = 2 from e2), if_pos e1]
      rw [e0] at k
      exact k m4 (hT4 _ _ hT1) hC4 ((Fr26 f1).trans f4)
    · rw [if_pos rfl]
      refine c_col hL hT hC hc ?_
      have e0 : facB e f q = pCol q := by
        cases q with
        | nil => rfl
        | cons t r =>
          unfold facB
          dsimp only
          rw [if_neg (show ¬ t.1 = 40 from h40), if_neg (show ¬ t.1 = 45 from h45), if_neg (show ¬ t.1 = 2 from e2), if_neg (show ¬ t.1 = 15 from e3)]
      rw [e0] at k
      exact k.imp (fun m' h => ⟨_, rfl, isB_1, h⟩) (fun m' h => ⟨_, rfl, isB_0, h⟩)
theorem c_fac0 {d : Nat} : CPs SX (d + 2) 98 (nI 8) (pFac 0) := by
  intro m K N q cs hL hT hC hc k
  refine sp_98 _ ?_
  refine c_accN hL hT (by decide) (by decide) (fun t r e e1 m1 hT1 f1 a1 a2 a3 => ⟨_, rfl, ?_⟩) (fun e2 => ⟨_, rfl, ?_⟩)
  · subst e
    rw [if_neg (by decide), if_pos (by decide)]
    have e0 : pFac 0 (t :: r) = none := by
      show facB _ _ (t :: r) = none
      unfold facB
      dsimp only
      rw [if_pos e1]; rfl
    rw [e0] at k
    exact k m1 (Fr26 f1)
  · rw [if_pos rfl]
    refine c_accN hL hT (by decide) (by decide) (fun t r e e1 m1 hT1 f1 a1 a2 a3 => ⟨_, rfl, ?_⟩) (fun e3 => ⟨_, rfl, ?_⟩)
    · subst e
      rw [if_neg (by decide), if_pos (by decide)]
      have e0 : pFac 0 (t :: r) = none := by
        show facB _ _ (t :: r) = none
        unfold facB
        dsimp only
        rw [if_neg (show ¬ t.1 = 40 from e2), if_pos e1]
      rw [e0] at k
      exact k m1 (Fr26 f1)
    · rw [if_pos rfl]
      exact c_facT hL hT hC hc k e2 e3
theorem c_facS {d n : Nat} {e f : Ps} (hn : n ≤ 7) (he : CPs SX (d + 1) 96 (nI (n + 1)) e) (hf : CPs SX (d + 1) 98 (nI (n + 1)) f) (oe : okP e) (of : okP f) : CPs SX (d + 2) 98 (nI n) (facB e f) := by
  intro m K N q cs hL hT hC hc k
  have hN := hT.le
  refine sp_98 _ ?_
  refine c_accN hL hT (by decide) (by decide) (fun t r e e1 m1 hT1 f1 a1 a2 a3 => ⟨_, rfl, ?_⟩) (fun e2 => ⟨_, rfl, ?_⟩)
  · subst e
    simp (disch := omega) only [nIlt, nI_add]
    rw [if_neg (by decide), if_neg (by omega)]
    simp only [List.length_cons] at hc
    refine he m1 _ N r cs (hL.fr f1) hT1 (CD26 hC f1) (by omega) ?_
    unfold facB at k
    dsimp only at k
    rw [if_pos e1] at k
    cases hx : e r with
    | none =>
      rw [hx] at k
      exact fun m' f2 => ⟨_, rfl, by rw [if_pos rfl]; exact k m' ((Fr26 f1).trans f2)⟩
    | some y =>
      obtain ⟨c, r'⟩ := y
      rw [hx] at k
      intro m' hT2 hC2 f2
      have g := (Fr26 f1).trans f2
      refine ⟨_, rfl, ?_⟩
      rw [if_neg (by decide)]
      refine c_accN (hL.fr g) hT2 (by decide) (by decide) (fun t2 r2 e e2 m3 hT3 f3 a1 a2 a3 => ⟨_, rfl, ?_⟩) (fun e2 => ⟨_, rfl, ?_⟩)
      · subst e
        rw [if_neg (by decide)]
        simp only [pTok, e2, if_true] at k
        exact k m3 hT3 (CD26 hC2 f3) (g.trans (Fr26 f3))
      · rw [if_pos rfl]
        have e0 : pTok 41 (some (c, r')) = none := by
          cases r' with
          | nil => rfl
          | cons t2 r2 => exact if_neg e2
        rw [e0] at k
        exact k m' g
  · rw [if_pos rfl]
    refine c_accN hL hT (by decide) (by decide) (fun t r e e1 m1 hT1 f1 a1 a2 a3 => ⟨_, rfl, ?_⟩) (fun e3 => ⟨_, rfl, ?_⟩)
    · subst e
      simp (disch := omega) only [nIlt, nI_add]
      rw [if_neg (by decide), if_neg (by omega)]
      simp only [List.length_cons] at hc
      refine hf m1 _ N r cs (hL.fr f1) hT1 (CD26 hC f1) (by omega) ?_
      unfold facB at k
      dsimp only at k
      rw [if_neg (show ¬ t.1 = 40 from e2), if_pos e1] at k
      cases hx : f r with
      | none =>
        rw [hx] at k
        exact fun m' f2 => ⟨_, rfl, by rw [if_pos rfl]; exact k m' ((Fr26 f1).trans f2)⟩
      | some y =>
        obtain ⟨c, r'⟩ := y
        rw [hx] at k
        have hl := of _ _ _ hx
        intro m' hT2 hC2 f2
        have g := (Fr26 f1).trans f2
        refine ⟨_, rfl, ?_⟩
        rw [if_neg (by decide)]
        refine c_addOpN (hL.fr g) hC2 (by rw [List.length_append]; omega) (fun m4 hC4 f4 hT4 => ⟨rfl, ?_⟩)
        rw [List.append_assoc] at hC4
        exact k m4 (hT4 _ _ hT2) hC4 (g.trans f4)
    · rw [if_pos rfl]
      exact c_facT hL hT hC hc k e2 e3
/-- F and E in nests: l more may be begun -/
theorem c_fac : ∀ (l : Nat), l ≤ 8 → CPs SX (3 * l + 2) 98 (nI (8 - l)) (pFac l) ∧ CPs SX (3 * l + 4) 96 (nI (8 - l)) (pEx l)
  | 0, _ => ⟨c_fac0 (d := 0), c_exp (d := 2) (c_prod (d := 1) ((c_fac0 (d := 0)).up (by omega)) (okP_fac 0)) (okP_prod (okP_fac 0))⟩
  | l + 1, h => by
    obtain ⟨i1, i2⟩ := c_fac l (by omega)
    have e1 : 8 - l = 8 - (l + 1) + 1 := by omega
    rw [e1] at i1 i2
    have j1 : CPs SX (3 * (l + 1) + 2) 98 (nI (8 - (l + 1))) (pFac (l + 1)) := c_facS (d := 3 * l + 3) (by omega) (i2.up (by omega)) (i1.up (by omega)) (okP_ex l) (okP_fac l)
    exact ⟨j1, c_exp (d := 3 * (l + 1) + 2) (c_prod (d := 3 * (l + 1) + 1) (j1.up (by omega)) (okP_fac _)) (okP_prod (okP_fac _))⟩
theorem c_ex {l d : Nat} (hl : l ≤ 8) (hdp : 3 * l + 4 ≤ d) : CPs SX d 96 (nI (8 - l)) (pEx l) := (c_fac l hl).2.up (by omega)
/-! N -/
def SM : List Nat := [17, 18, 19, 20, 21, 25, 26]
theorem SXM {m m1 : Mm} (h : Fr SX m m1) : Fr SM m m1 := h.mono (by decide)
def midV (n : Nat) (q : Option Nat) : Int32 := match q with | none => -1 | some j => nI (n + j)
def MPost (S : List Nat) (m : Mm) (N : Nat) (cs : List Op) (x : Option (List Op × Option Nat × List Tk)) (K : Option Value → Mm → Prop) : Prop := match x with
  | some (c, q, r) => ∀ m', TN m' N r → CD m' (cs ++ c) → m'.F 25 3 = midV cs.length q → Fr S m m' → K (some (.int (nI 1))) m'
  | none => ∀ m', Fr S m m' → K (some (.int (nI 0))) m'
def CPm (S : List Nat) (d M : Nat) (a : Int32) (f : Pm) : Prop := ∀ (m : Mm) (K : Option Value → Mm → Prop) (N : Nat) (q : List Tk) (cs : List Op), Len m → TN m N q → CD m cs → cs.length + q.length ≤ N → MPost S m N cs (f q) K → WP d M [.ref 25, .int a] m K
theorem CPm.up {S : List Nat} {d d' M : Nat} {a : Int32} {f : Pm} (h : CPm S d M a f) (hd : d ≤ d') : CPm S d' M a f := fun m K N q cs h1 h2 h3 h4 h5 => (h m K N q cs h1 h2 h3 h4 h5).up hd
theorem c_cmpB {d : Nat} {a : Int32} {f : Ps} (hs : CPs SX (d + 1) 96 a f) (of : okP f) {m m0 : Mm} {K : Option Value → Mm → Prop} {N : Nat} {t : Tk} {r : List Tk} {cs c : List Op} (hL : Len m) (hT : TN m N (t :: r)) (hC : CD m (cs ++ c)) (hc : (cs ++ c).length + (t :: r).length ≤ N) (f0 : Fr SM m0 m) (hm : m.F 25 3 = -1) {E : Mm → Prop} {n : Nat} (hn : t.1 = n) (h0 : 0 < n) (h1 : n < 1000) {u : Int32} (hu : u = nI (cs ++ c).length)
    (k : MPost SM m0 N cs (match f r with | some (c', r') => some (c ++ c' ++ [opr n], if n = 61 then some c.length else none, r') | none => none) K) :
    WP (d + 1) 71 [.ref 26, .int (nI n)] m (fun v m36 => ∃ w37, v = some (.int w37) ∧ (if w37 = (nI 0) then E m36 else WP (d + 1) 96 [.ref 25, .int a] m36 (fun v m39 => ∃ w40, v = some (.int w40) ∧ (if w40 = (nI 0) then K (some (.int (nI 0))) m39 else WP (d + 1) 46 [.ref 17, .int (nI n)] m39 (fun v m42 => v = none ∧ (if nI n = (nI 61) then K (some (.int (nI 1))) (m42.uF 25 3 u) else K (some (.int (nI 1))) m42)))))) := by
  have hN := hT.le
  refine c_accN hL hT h0 h1 (fun t' r' e e1 m1 hT1 f1 a1 a2 a3 => ⟨_, rfl, ?_⟩) (fun e => absurd hn e)
  cases e
  rw [if_neg (by decide)]
  simp only [List.length_cons] at hc
  refine hs m1 _ N r (cs ++ c) (hL.fr f1) hT1 (CD26 hC f1) (by omega) ?_
  cases hx : f r with
  | none =>
    rw [hx] at k
    exact fun m' f2 => ⟨_, rfl, by rw [if_pos rfl]; exact k m' (f0.trans (SXM ((Fr26 f1).trans f2)))⟩
  | some y =>
    obtain ⟨c', r'⟩ := y
    rw [hx] at k
    have hl := of _ _ _ hx
    intro m' hT2 hC2 f2
    have g := (Fr26 f1).trans f2
    refine ⟨_, rfl, ?_⟩
    rw [if_neg (by decide)]
    refine c_addOpN (hL.fr g) hC2 (by rw [List.length_append]; omega) (fun m4 hC4 f4 hT4 => ⟨rfl, ?_⟩)
    rw [List.append_assoc, List.append_assoc, ← List.append_assoc c] at hC4
    have g2 := g.trans f4
    simp (disch := omega) only [nIeq]
    split
    · next e =>
      subst e
      refine k _ ⟨(hT4 _ _ hT2).1, ?_⟩ ?_ ?_ (Fr.uF (f0.trans (SXM g2)) (by decide) _ _)
      · exact ((hT4 _ _ hT2).2).fr (Fr.uF (Fr.refl [25] m4) (by decide) _ _) (by decide) (by decide) (by decide)
      · exact hC4.fr (Fr.uF (Fr.refl [25] m4) (by decide) _ _) (by decide) (by decide) (by decide) (by decide)
      · rw [mF_F, if_pos ⟨rfl, rfl⟩, hu, List.length_append]; rfl
    · next e =>
      refine k m4 (hT4 _ _ hT2) hC4 ?_ (f0.trans (SXM g2))
      rw [if_neg e, g2.f (by decide), hm]; rfl
theorem c_cmp {d n l : Nat} (hn : n = 8 - l) (hl : l ≤ 8) (hdp : 3 * l + 4 ≤ d) : CPm SM (d + 1) 104 (nI n) (pCmp l) := by
  subst hn
  obtain ⟨d, rfl⟩ : ∃ d0, d = d0 + 1 := ⟨d - 1, by omega⟩
  have hs : CPs SX (d + 1) 96 (nI (8 - l)) (pEx l) := c_ex hl hdp
  intro m K N q cs hL hT hC hc k
  have hN := hT.le
  refine sp_104 _ ?_
  have f0 : Fr [25] m (m.uF 25 3 (-1)) := Fr.uF (Fr.refl _ m) (by decide) _ _
  have f0' : Fr SM m (m.uF 25 3 (-1)) := f0.mono (by decide)
  refine hs _ _ N q cs (hL.fr f0) (hT.fr f0 (by decide) (by decide) (by decide)) (hC.fr f0 (by decide) (by decide) (by decide) (by decide)) hc ?_
  unfold pCmp at k
  cases hx : pEx l q with
  | none =>
    rw [hx] at k
    exact fun m' f2 => ⟨_, rfl, by rw [if_pos rfl]; exact k m' (f0'.trans (SXM f2))⟩
  | some y =>
    obtain ⟨c, r⟩ := y
    rw [hx] at k
    have hlen := okP_ex l _ _ _ hx
    intro m1 hT1 hC1 f1
    have g1 : Fr SM m m1 := f0'.trans (SXM f1)
    have hL1 := hL.fr g1
    have hm1 : m1.F 25 3 = -1 := by rw [f1.f (by decide)]; rfl
    refine ⟨_, rfl, ?_⟩
    rw [if_neg (by decide)]
    have hu : m1.F 17 5 = nI (cs ++ c).length := hC1.1
    refine c_accN hL1 hT1 (by decide) (by decide) (fun t r' e e1 m2 hT2 f2 a1 a2 a3 => ⟨_, rfl, ?_⟩) (fun e2 => ⟨_, rfl, ?_⟩)
    · subst e
      simp only [List.length_cons] at hlen
      dsimp only at k
      rw [if_pos e1] at k
      rw [if_neg (by decide)]
      refine c_addOpN (hL1.fr f2) (CD26 hC1 f2) (by rw [List.length_append]; omega) (fun m4 hC4 f4 hT4 => ⟨rfl, ?_⟩)
      rw [List.append_assoc] at hC4
      refine k m4 (hT4 _ _ hT2) hC4 ?_ (g1.trans (SXM ((Fr26 f2).trans f4)))
      rw [((Fr26 f2).trans f4).f (by decide), hm1]; rfl
    · rw [if_pos rfl]
      refine c_next hL1 hT1.2 ⟨_, rfl, ?_⟩
      cases r with
      | nil =>
        refine c_accN hL1 hT1 (by decide) (by decide) (fun t r' e => by cases e) (fun e3 => ⟨_, rfl, ?_⟩)
        rw [if_pos rfl]
        refine c_accN hL1 hT1 (by decide) (by decide) (fun t r' e => by cases e) (fun e3 => ⟨_, rfl, ?_⟩)
        rw [if_pos rfl]
        refine c_accN hL1 hT1 (by decide) (by decide) (fun t r' e => by cases e) (fun e3 => ⟨_, rfl, ?_⟩)
        rw [if_pos rfl]
        exact k m1 g1
      | cons t r =>
        dsimp only at k
        rw [if_neg (show ¬ t.1 = 15 from e2)] at k
        simp only [List.length_cons] at hlen
        have hcc : (cs ++ c).length + (t :: r).length ≤ N := by simp only [List.length_append, List.length_cons]; omega
        by_cases h61 : t.1 = 61
        · rw [if_pos (Or.inl h61)] at k
          rw [show hd (t :: r) = 61 from h61]
          rw [h61] at k
          exact c_cmpB hs (okP_ex l) hL1 hT1 hC1 hcc g1 hm1 h61 (by decide) (by decide) hu k
        · refine c_accN hL1 hT1 (by decide) (by decide) (fun t r' e e1 => by cases e; exact absurd e1 h61) (fun e3 => ⟨_, rfl, ?_⟩)
          rw [if_pos rfl]
          by_cases h60 : t.1 = 60
          · rw [if_pos (Or.inr (Or.inl h60))] at k
            rw [show hd (t :: r) = 60 from h60]
            rw [h60] at k
            exact c_cmpB hs (okP_ex l) hL1 hT1 hC1 hcc g1 hm1 h60 (by decide) (by decide) hu k
          · refine c_accN hL1 hT1 (by decide) (by decide) (fun t r' e e1 => by cases e; exact absurd e1 h60) (fun e3 => ⟨_, rfl, ?_⟩)
            rw [if_pos rfl]
            by_cases h62 : t.1 = 62
            · rw [if_pos (Or.inr (Or.inr h62))] at k
              rw [show hd (t :: r) = 62 from h62]
              rw [h62] at k
              exact c_cmpB hs (okP_ex l) hL1 hT1 hC1 hcc g1 hm1 h62 (by decide) (by decide) hu k
            · refine c_accN hL1 hT1 (by decide) (by decide) (fun t r' e e1 => by cases e; exact absurd e1 h62) (fun e3 => ⟨_, rfl, ?_⟩)
              rw [if_pos rfl]
              rw [if_neg (by omega)] at k
              exact k m1 g1
/-! K and C in nests -/
theorem CD25 {m m1 : Mm} {cs : List Op} (h : CD m cs) (k : Fr [25] m m1) : CD m1 cs := h.fr k (by decide) (by decide) (by decide) (by decide)
theorem TN25 {m m1 : Mm} {N : Nat} {q : List Tk} (h : TN m N q) (k : Fr [25] m m1) : TN m1 N q := h.fr k (by decide) (by decide) (by decide)
theorem c_partN {d n : Nat} {g : Pm} (hn : 0 < n) (hn2 : n < 100) (hs : CPm SM d 103 (nI n) g) : CPs SM (d + 1) 102 (nI n) (drp g) := by
  intro m K N q cs hL hT hC hc k
  refine sp_102 _ ?_
  refine hs m _ N q cs hL hT hC hc ?_
  unfold drp at k
  cases hx : g q with
  | none =>
    rw [hx] at k
    exact fun m' f2 => ⟨_, rfl, by rw [if_pos rfl]; exact k m' f2⟩
  | some y =>
    obtain ⟨c, q', r⟩ := y
    rw [hx] at k
    intro m' hT2 hC2 _ f2
    refine ⟨_, rfl, ?_⟩
    simp (disch := omega) only [nIeq]
    rw [if_neg (by decide), if_neg (by omega)]
    exact k m' hT2 hC2 f2
theorem lp_101 {d n : Nat} {f : Ps} (hs : CPs SM (d + 1) 102 (nI n) f) (hf : okP f) : ∀ (j : Nat), j ≤ 80 → ∀ (m : Mm) (K : Option Value → Mm → Prop) (N : Nat) (q : List Tk) (cs acc : List Op), Len m → TN m N q → CD m (cs ++ acc) → (cs ++ acc).length + q.length ≤ N → PPost SM m N cs (pLoop f isAnd j acc q) K → WH (d + 2) 101 12 [(0, .ref 25), (1, .int (nI n)), (2, .int (nI (80 - j)))] [] m K := by
  intro j
  induction j with
  | zero =>
    intro hj m K N q cs acc hL hT hC hc k
    refine sg_101_12 _ _ ?_
    simp (disch := omega) only [nIle]
    rw [if_pos (by omega)]
    exact k m hT hC (Fr.refl _ m)
  | succ j ih =>
    intro hj m K N q cs acc hL hT hC hc k
    have hN := hT.le
    refine sg_101_12 _ _ ?_
    simp (disch := omega) only [nIle, nI_add]
    rw [if_neg (by omega)]
    refine c_accN hL hT (by decide) (by decide) (fun t r e e1 m1 hT1 f1 a1 a2 a3 => ⟨_, rfl, ?_⟩) (fun e2 => ⟨_, rfl, ?_⟩)
    · subst e
      rw [if_neg (by decide)]
      have ht : isAnd t.1 = true := by rw [e1]; rfl
      unfold pLoop at k
      simp only [ht, if_true] at k
      simp only [List.length_cons] at hc
      refine hs m1 _ N r (cs ++ acc) (hL.fr f1) hT1 (CD26 hC f1) (by omega) ?_
      cases hx : f r with
      | none =>
        simp only [hx] at k
        exact fun m' f2 => ⟨_, rfl, by rw [if_pos rfl]; exact k m' ((SXM (Fr26 f1)).trans f2)⟩
      | some y =>
        obtain ⟨c, r'⟩ := y
        simp only [hx] at k
        have hl := hf _ _ _ hx
        intro m2 hT2 hC2 f2
        have g := (SXM (Fr26 f1)).trans f2
        refine ⟨_, rfl, ?_⟩
        rw [if_neg (by decide)]
        refine c_addOpN (hL.fr g) hC2 (by rw [List.length_append]; omega) (fun m4 hC4 f4 hT4 => ⟨rfl, ?_⟩)
        have g2 := g.trans (SXM f4)
        rw [show 80 - (j + 1) + 1 = 80 - j by omega]
        rw [List.append_assoc, List.append_assoc, ← List.append_assoc acc] at hC4
        rw [e1] at k
        refine ih (by omega) m4 K N r' cs _ (hL.fr g2) (hT4 _ _ hT2) hC4 ?_ (k.fr g2)
        simp only [List.length_append, List.length_cons, List.length_nil] at *; omega
    · rw [if_pos rfl]
      have e0 : pLoop f isAnd (j + 1) acc q = some (acc, q) := by
        cases q with
        | nil => rfl
        | cons t r =>
          have ht : isAnd t.1 = false := beq_false_of_ne e2
          unfold pLoop
          simp only [ht]; rfl
      rw [e0] at k
      exact k m hT hC (Fr.refl _ m)
theorem c_con {d n : Nat} {g : Pm} (hs : CPs SM (d + 1) 102 (nI n) (drp g)) (hg : okM g) : CPs SM (d + 2) 101 (nI n) (pCon g) := by
  intro m K N q cs hL hT hC hc k
  refine sp_101 _ ?_
  refine hs m _ N q cs hL hT hC hc ?_
  unfold pCon at k
  cases hx : drp g q with
  | none =>
    rw [hx] at k
    exact fun m' f2 => ⟨_, rfl, by rw [if_pos rfl]; exact k m' f2⟩
  | some y =>
    obtain ⟨c, r⟩ := y
    rw [hx] at k
    intro m' hT2 hC2 f2
    have hl := okP_drp hg _ _ _ hx
    refine ⟨_, rfl, ?_⟩
    rw [if_neg (by decide)]
    exact lp_101 hs (okP_drp hg) 80 (by omega) m' K N r cs c (hL.fr f2) hT2 hC2 (by rw [List.length_append]; omega) (PPost.fr k f2)
theorem lp_100 {d n : Nat} {f : Ps} (hn : 0 < n) (hn2 : n < 100) (hs : CPs SM (d + 1) 101 (nI n) f) (hf : okP f) (x2 : Int32) : ∀ (j : Nat), j ≤ 80 → ∀ (x3 : Int32) (m : Mm) (K : Option Value → Mm → Prop) (N : Nat) (q : List Tk) (cs acc : List Op), Len m → TN m N q → CD m (cs ++ acc) → (cs ++ acc).length + q.length ≤ N → PPost SM m N cs (pLoop f isOr j acc q) K → WH (d + 2) 100 23 [(0, .ref 25), (1, .int (nI n)), (2, .int x2), (3, .int x3), (4, .int (nI (80 - j)))] [] m K := by
  intro j
  induction j with
  | zero =>
    intro hj x3 m K N q cs acc hL hT hC hc k
    refine sg_100_23 _ _ _ _ ?_
    simp (disch := omega) only [nIle, nIeq]
    rw [if_pos (by omega), if_neg (by omega)]
    exact k m hT hC (Fr.refl _ m)
  | succ j ih =>
    intro hj x3 m K N q cs acc hL hT hC hc k
    have hN := hT.le
    refine sg_100_23 _ _ _ _ ?_
    simp (disch := omega) only [nIle, nIeq, nI_add]
    rw [if_neg (by omega)]
    refine c_accN hL hT (by decide) (by decide) (fun t r e e1 m1 hT1 f1 a1 a2 a3 => ⟨_, rfl, ?_⟩) (fun e2 => ⟨_, rfl, ?_⟩)
    · subst e
      rw [if_neg (by decide)]
      have ht : isOr t.1 = true := by rw [e1]; rfl
      unfold pLoop at k
      simp only [ht, if_true] at k
      simp only [List.length_cons] at hc
      refine hs m1 _ N r (cs ++ acc) (hL.fr f1) hT1 (CD26 hC f1) (by omega) ?_
      cases hx : f r with
      | none =>
        simp only [hx] at k
        exact fun m' f2 => ⟨_, rfl, by rw [if_pos rfl]; exact k m' ((SXM (Fr26 f1)).trans f2)⟩
      | some y =>
        obtain ⟨c, r'⟩ := y
        simp only [hx] at k
        have hl := hf _ _ _ hx
        intro m2 hT2 hC2 f2
        have g := (SXM (Fr26 f1)).trans f2
        refine ⟨_, rfl, ?_⟩
        rw [if_neg (by decide)]
        refine c_addOpN (hL.fr g) hC2 (by rw [List.length_append]; omega) (fun m4 hC4 f4 hT4 => ⟨rfl, ?_⟩)
        have g2 := g.trans (SXM f4)
        rw [show 80 - (j + 1) + 1 = 80 - j by omega]
        rw [List.append_assoc, List.append_assoc, ← List.append_assoc acc] at hC4
        rw [e1] at k
        refine ih (by omega) _ m4 K N r' cs _ (hL.fr g2) (hT4 _ _ hT2) hC4 ?_ (k.fr g2)
        simp only [List.length_append, List.length_cons, List.length_nil] at *; omega
    · rw [if_pos rfl, if_neg (by omega)]
      have e0 : pLoop f isOr (j + 1) acc q = some (acc, q) := by
        cases q with
        | nil => rfl
        | cons t r =>
          have ht : isOr t.1 = false := beq_false_of_ne e2
          unfold pLoop
          simp only [ht]; rfl
      rw [e0] at k
      exact k m hT hC (Fr.refl _ m)
theorem c_cnd {d n : Nat} {g : Pm} (hn : 0 < n) (hn2 : n < 100) (hs : CPs SM (d + 1) 101 (nI n) (pCon g)) (hg : okM g) : CPs SM (d + 2) 100 (nI n) (pCnd g) := by
  intro m K N q cs hL hT hC hc k
  refine sp_100 _ ?_
  refine hs m _ N q cs hL hT hC hc ?_
  unfold pCnd at k
  cases hx : pCon g q with
  | none =>
    rw [hx] at k
    exact fun m' f2 => ⟨_, rfl, by rw [if_pos rfl]; exact k m' f2⟩
  | some y =>
    obtain ⟨c, r⟩ := y
    rw [hx] at k
    intro m' hT2 hC2 f2
    have hl := okP_con hg _ _ _ hx
    refine ⟨_, rfl, ?_⟩
    rw [if_neg (by decide)]
    exact lp_100 hn hn2 hs (okP_con hg) _ 80 (by omega) _ m' K N r cs c (hL.fr f2) hT2 hC2 (by rw [List.length_append]; omega) (PPost.fr k f2)
theorem c_negT {d n : Nat} {g : Pm} (hg : CPm SM (d + 1) 104 (nI n) g) {m : Mm} {K : Option Value → Mm → Prop} {N : Nat} {q : List Tk} {cs : List Op} (hL : Len m) (hT : TN m N q) (hC : CD m cs) (hc : cs.length + q.length ≤ N) (k : MPost SM m N cs (g q) K) : WP (d + 1) 104 [.ref 25, .int (nI n)] m (fun v m7 => ∃ w8, v = some (.int w8) ∧ isB w8 ∧ K (some (.int w8)) m7) := by
  refine hg m _ N q cs hL hT hC hc ?_
  cases hx : g q with
  | none =>
    rw [hx] at k
    exact fun m' f2 => ⟨_, rfl, isB_0, k m' f2⟩
  | some y =>
    obtain ⟨c, q', r⟩ := y
    rw [hx] at k
    exact fun m' a1 a2 a3 f2 => ⟨_, rfl, isB_1, k m' a1 a2 a3 f2⟩
theorem negB_g {e : Ps} {f g : Pm} {q : List Tk} (h1 : hd q ≠ 91) (h2 : hd q ≠ 18) : negB e f g q = g q := by
  cases q with
  | nil => rfl
  | cons t r =>
    unfold negB
    dsimp only
    rw [if_neg (show ¬ t.1 = 91 from h1), if_neg (show ¬ t.1 = 18 from h2)]
theorem c_neg0 {d : Nat} (hdp : 4 ≤ d) : CPm SM (d + 2) 103 (nI 8) (pNeg 0) := by
  intro m K N q cs hL hT hC hc k
  refine sp_103 _ ?_
  refine c_accN hL hT (by decide) (by decide) (fun t r e e1 m1 hT1 f1 a1 a2 a3 => ⟨_, rfl, ?_⟩) (fun e2 => ⟨_, rfl, ?_⟩)
  · subst e
    rw [if_neg (by decide), if_pos (by decide)]
    have e0 : pNeg 0 (t :: r) = none := by
      show negB _ _ _ (t :: r) = none
      unfold negB
      dsimp only
      rw [if_pos e1]; rfl
    rw [e0] at k
    exact k _ (Fr.uF (SXM (Fr26 f1)) (by decide) _ _)
  · rw [if_pos rfl]
    refine c_accN hL hT (by decide) (by decide) (fun t r e e1 m1 hT1 f1 a1 a2 a3 => ⟨_, rfl, ?_⟩) (fun e3 => ⟨_, rfl, ?_⟩)
    · subst e
      rw [if_neg (by decide), if_pos (by decide)]
      have e0 : pNeg 0 (t :: r) = none := by
        show negB _ _ _ (t :: r) = none
        unfold negB
        dsimp only
        rw [if_neg (show ¬ t.1 = 91 from e2), if_pos e1]
      rw [e0] at k
      exact k m1 (SXM (Fr26 f1))
    · rw [if_pos rfl]
      have k2 : MPost SM m N cs (pCmp 0 q) K := by
        rw [← negB_g (e := fun _ => none) (f := fun _ => none) (g := pCmp 0) e2 e3]; exact k
      exact c_negT (c_cmp (n := 8) rfl (by omega) hdp) hL hT hC hc k2
theorem c_negS {d n : Nat} {e : Ps} {f g : Pm} (hn : n ≤ 7) (he : CPs SM (d + 1) 100 (nI (n + 1)) e) (hf : CPm SM (d + 1) 103 (nI (n + 1)) f) (hg : CPm SM (d + 1) 104 (nI n) g) (oe : okP e) (of : okM f) : CPm SM (d + 2) 103 (nI n) (negB e f g) := by
  intro m K N q cs hL hT hC hc k
  have hN := hT.le
  refine sp_103 _ ?_
  refine c_accN hL hT (by decide) (by decide) (fun t r e e1 m1 hT1 f1 a1 a2 a3 => ⟨_, rfl, ?_⟩) (fun e2 => ⟨_, rfl, ?_⟩)
  · subst e
    simp (disch := omega) only [nIlt, nI_add]
    rw [if_neg (by decide), if_neg (by omega)]
    simp only [List.length_cons] at hc
    refine he m1 _ N r cs (hL.fr f1) hT1 (CD26 hC f1) (by omega) ?_
    unfold negB at k
    dsimp only at k
    rw [if_pos e1] at k
    cases hx : e r with
    | none =>
      rw [hx] at k
      exact fun m' f2 => ⟨_, rfl, by rw [if_pos rfl]; exact k _ (Fr.uF ((SXM (Fr26 f1)).trans f2) (by decide) _ _)⟩
    | some y =>
      obtain ⟨c, r'⟩ := y
      rw [hx] at k
      intro m' hT2 hC2 f2
      have g := (SXM (Fr26 f1)).trans f2
      refine ⟨_, rfl, ?_⟩
      rw [if_neg (by decide)]
      refine c_accN (hL.fr g) hT2 (by decide) (by decide) (fun t2 r2 e e2 m3 hT3 f3 a1 a2 a3 => ⟨_, rfl, ?_⟩) (fun e2 => ⟨_, rfl, ?_⟩)
      · subst e
        rw [if_neg (by decide)]
        simp only [pTok, e2, if_true] at k
        have f5 : Fr [25] m3 (m3.uF 25 3 (-1)) := Fr.uF (Fr.refl _ m3) (by decide) _ _
        refine k _ (TN25 hT3 f5) (CD25 (CD26 hC2 f3) f5) rfl (Fr.uF (g.trans (SXM (Fr26 f3))) (by decide) _ _)
      · rw [if_pos rfl]
        have e0 : pTok 93 (some (c, r')) = none := by
          cases r' with
          | nil => rfl
          | cons t2 r2 => exact if_neg e2
        rw [e0] at k
        exact k _ (Fr.uF g (by decide) _ _)
  · rw [if_pos rfl]
    refine c_accN hL hT (by decide) (by decide) (fun t r e e1 m1 hT1 f1 a1 a2 a3 => ⟨_, rfl, ?_⟩) (fun e3 => ⟨_, rfl, ?_⟩)
    · subst e
      simp (disch := omega) only [nIlt, nI_add]
      rw [if_neg (by decide), if_neg (by omega)]
      simp only [List.length_cons] at hc
      refine hf m1 _ N r cs (hL.fr f1) hT1 (CD26 hC f1) (by omega) ?_
      unfold negB at k
      dsimp only at k
      rw [if_neg (show ¬ t.1 = 91 from e2), if_pos e1] at k
      cases hx : f r with
      | none =>
        rw [hx] at k
        exact fun m' f2 => ⟨_, rfl, by rw [if_pos rfl]; exact k m' ((SXM (Fr26 f1)).trans f2)⟩
      | some y =>
        obtain ⟨c, q', r'⟩ := y
        rw [hx] at k
        have hl := of _ _ _ _ hx
        intro m' hT2 hC2 _ f2
        have g := (SXM (Fr26 f1)).trans f2
        refine ⟨_, rfl, ?_⟩
        rw [if_neg (by decide)]
        refine c_addOpN (hL.fr g) hC2 (by rw [List.length_append]; omega) (fun m4 hC4 f4 hT4 => ⟨rfl, ?_⟩)
        rw [List.append_assoc] at hC4
        have f5 : Fr [25] m4 (m4.uF 25 3 (-1)) := Fr.uF (Fr.refl _ m4) (by decide) _ _
        exact k _ (TN25 (hT4 _ _ hT2) f5) (CD25 hC4 f5) rfl (Fr.uF (g.trans (SXM f4)) (by decide) _ _)
    · rw [if_pos rfl]
      rw [negB_g e2 e3] at k
      exact c_negT hg hL hT hC hc k
theorem c_neg : ∀ (l : Nat), l ≤ 8 → CPm SM (4 * l + 7) 103 (nI (8 - l)) (pNeg l)
  | 0, _ => c_neg0 (d := 5) (by omega)
  | l + 1, h => by
    have i1 := c_neg l (by omega)
    have e1 : 8 - l = 8 - (l + 1) + 1 := by omega
    rw [e1] at i1
    have j1 := c_partN (n := 8 - (l + 1) + 1) (by omega) (by omega) i1
    have j2 := c_con (d := 4 * l + 7) j1 (okM_neg l)
    have j3 := c_cnd (d := 4 * l + 8) (by omega) (by omega) j2 (okM_neg l)
    exact c_negS (d := 4 * l + 9) (by omega) j3 (i1.up (by omega)) ((c_cmp (d := 4 * l + 9) (l := l + 1) rfl h (by omega)).up (by omega)) (okP_cnd (okM_neg l)) (okM_neg l)
