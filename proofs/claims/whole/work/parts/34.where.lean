/-! THE TEXT'S MEANING, C at the top: its parts (from, where E' begins + 1 or 0, to); and the class's parser there -/
abbrev Pt : Type := Nat × Nat × Nat
abbrev T3 : Type := List Tk × List Op × List Pt
def mide (n : Nat) (q : Option Nat) : Nat := match q with | none => 0 | some j => n + j + 1
theorem ow_mide (n : Nat) (q : Option Nat) : ow (mide n q) = midV n q := by cases q <;> rfl
def tPart (s : T3) : Option T3 := match pNeg 8 s.1 with
  | some (c, q, r) => some (r, s.2.1 ++ c, s.2.2 ++ [(s.2.1.length, mide s.2.1.length q, (s.2.1 ++ c).length)])
  | none => none
def tLoop (p : T3 → Option T3) (k : Nat) : Nat → T3 → Option T3
  | 0, s => some s
  | n + 1, s => if hd s.1 = k then (match p (s.1.tail, s.2) with | some s' => tLoop p k n (s'.1, s'.2.1 ++ [opr k], s'.2.2) | none => none) else some s
def tCon (s : T3) : Option T3 := match tPart s with | some s' => tLoop tPart 17 80 s' | none => none
def tCnd (s : T3) : Option T3 := match tCon s with
  | some s' => (match tLoop tCon 16 80 s' with
    | some e => if hd s'.1 = 16 then some (e.1, e.2.1, [(s.2.1.length, 0, e.2.1.length)]) else some e
    | none => none)
  | none => none
def PA (m : Mm) (ps : List Pt) : Prop := m.F 12 16 = nI ps.length ∧ ∀ i, i < ps.length → (m.A 14).getD i 0 = nI (ps.getD i (0, 0, 0)).1 ∧ (m.A 15).getD i 0 = ow (ps.getD i (0, 0, 0)).2.1 ∧ (m.A 16).getD i 0 = nI (ps.getD i (0, 0, 0)).2.2
theorem PA.fr {S : List Nat} {m m1 : Mm} {ps : List Pt} (h : PA m ps) (k : Fr S m m1) (h1 : 12 ∉ S) (h2 : 14 ∉ S) (h3 : 15 ∉ S) (h4 : 16 ∉ S) : PA m1 ps := by
  obtain ⟨a, e⟩ := h
  refine ⟨by rw [k.f h1]; exact a, ?_⟩
  rw [k.a h2, k.a h3, k.a h4]; exact e
theorem getD_snoc {α : Type} (l : List α) (x z : α) (i : Nat) : (l ++ [x]).getD i z = if i = l.length then x else l.getD i z := by
  rw [List.getD_eq_getElem?_getD, List.getD_eq_getElem?_getD]
  by_cases h : i = l.length
  · subst h
    rw [if_pos rfl, List.getElem?_append_right (Nat.le_refl _), Nat.sub_self]; rfl
  · rw [if_neg h]
    by_cases h2 : i < l.length
    · rw [List.getElem?_append_left h2]
    · rw [List.getElem?_eq_none (by rw [List.length_append, List.length_cons, List.length_nil]; omega), List.getElem?_eq_none (by omega)]
def SW : List Nat := [12, 14, 15, 16]
theorem c_addPart {d : Nat} {m : Mm} {K : Option Value → Mm → Prop} {ps : List Pt} {x y z : Nat} (hL : Len m) (h : PA m ps) (hl : ps.length < 80) (k : ∀ m', PA m' (ps ++ [(x, y, z)]) → Fr SW m m' → (∀ f, f ≠ 16 → m'.F 12 f = m.F 12 f) → K none m') : WP d 63 [.ref 12, .int (nI x), .int (ow y), .int (nI z)] m K := by
  have l1 : (m.A 14).length = 80 := hL.a (by decide) rfl
  have l2 : (m.A 15).length = 80 := hL.a (by decide) rfl
  have l3 : (m.A 16).length = 80 := hL.a (by decide) rfl
  obtain ⟨a, e⟩ := h
  refine sp_63 _ _ _ ?_
  simp (disch := omega) only [a, nIle, ix_nI, nI_add, l1, l2, l3]
  rw [if_neg (by omega)]
  have ho : ok 80 (nI ps.length) := ok_nI (by omega) (by decide)
  refine ⟨ho, ho, ho, k _ ⟨?_, ?_⟩ ?_ ?_⟩
  · rw [List.length_append]; rfl
  · intro i hi
    rw [List.length_append, List.length_cons, List.length_nil] at hi
    show ((m.A 14).set ps.length (nI x)).getD i 0 = _ ∧ ((m.A 15).set ps.length (ow y)).getD i 0 = _ ∧ ((m.A 16).set ps.length (nI z)).getD i 0 = _
    rw [getD_set _ _ _ _ _ (by omega), getD_set _ _ _ _ _ (by omega), getD_set _ _ _ _ _ (by omega), getD_snoc]
    by_cases hi2 : i = ps.length
    · rw [if_pos hi2, if_pos hi2, if_pos hi2, if_pos hi2]
      exact ⟨rfl, rfl, rfl⟩
    · rw [if_neg hi2, if_neg hi2, if_neg hi2, if_neg hi2]
      exact e i (by omega)
  · refine Fr.uF (Fr.uA (Fr.uA (Fr.uA (Fr.refl _ m) (by decide) ?_) (by decide) ?_) (by decide) ?_) (by decide) _ _
    · rw [List.length_set]
    · rw [List.length_set]; rfl
    · rw [List.length_set]; rfl
  · intro f hf
    rw [mF_F, if_neg (fun q => hf q.2)]
    rfl
def ST : List Nat := [12, 14, 15, 16, 17, 18, 19, 20, 21, 25, 26]
def F12 (m m' : Mm) : Prop := ∀ f, f ≠ 16 → m'.F 12 f = m.F 12 f
theorem F12.refl (m : Mm) : F12 m m := fun _ _ => rfl
theorem F12.trans {m m1 m2 : Mm} (h : F12 m m1) (h2 : F12 m1 m2) : F12 m m2 := fun f hf => (h2 f hf).trans (h f hf)
theorem F12.fr {S : List Nat} {m m1 : Mm} (k : Fr S m m1) (h : 12 ∉ S) : F12 m m1 := fun f _ => k.f h f
/-- tokens, steps and parts as they stand -/
def R3 (m : Mm) (N : Nat) (s : T3) : Prop := Len m ∧ TN m N s.1 ∧ CD m s.2.1 ∧ PA m s.2.2 ∧ s.2.1.length + s.1.length ≤ N ∧ s.2.2.length + s.1.length ≤ N
def TPost (m : Mm) (N : Nat) (x : Option T3) (K : Option Value → Mm → Prop) : Prop := match x with
  | some s => ∀ m', R3 m' N s → Fr ST m m' → F12 m m' → K (some (.int (nI 1))) m'
  | none => ∀ m', Fr ST m m' → K (some (.int (nI 0))) m'
theorem TPost.fr {m m1 : Mm} {N : Nat} {x : Option T3} {K : Option Value → Mm → Prop} (h : TPost m N x K) (k : Fr ST m m1) (k2 : F12 m m1) : TPost m1 N x K := by
  cases x with
  | none => exact fun m' f => h m' (k.trans f)
  | some s => exact fun m' a f g => h m' a (k.trans f) (k2.trans g)
def CPt (d M : Nat) (f : T3 → Option T3) : Prop := ∀ (m : Mm) (K : Option Value → Mm → Prop) (N : Nat) (s : T3), R3 m N s → TPost m N (f s) K → WP d M [.ref 25, .int (nI 0)] m K
theorem CPt.up {d d' M : Nat} {f : T3 → Option T3} (h : CPt d M f) (hd : d ≤ d') : CPt d' M f := fun m K N s h1 h2 => (h m K N s h1 h2).up hd
theorem SMT {m m1 : Mm} (h : Fr SM m m1) : Fr ST m m1 := h.mono (by decide)
theorem SWT {m m1 : Mm} (h : Fr SW m m1) : Fr ST m m1 := h.mono (by decide)
theorem c_tPart : CPt 41 102 tPart := by
  intro m K N s hR k
  obtain ⟨hL, hT, hC, hP, hc, hp⟩ := hR
  have hN := hT.le
  refine sp_102 _ ?_
  refine (c_neg 8 (by omega)).up (d' := 40) (by omega) m _ N s.1 s.2.1 hL hT hC hc ?_
  unfold tPart at k
  cases hx : pNeg 8 s.1 with
  | none =>
    rw [hx] at k
    exact fun m' f2 => ⟨_, rfl, by rw [if_pos rfl]; exact k m' (SMT f2)⟩
  | some y =>
    obtain ⟨c, q, r⟩ := y
    rw [hx] at k
    have hl := okM_neg 8 _ _ _ _ hx
    intro m1 hT1 hC1 hm1 f1
    refine ⟨_, rfl, ?_⟩
    rw [if_neg (by decide), if_pos rfl, hC.1, hC1.1, hm1, ← ow_mide]
    refine c_addPart (hL.fr f1) (hP.fr f1 (by decide) (by decide) (by decide) (by decide)) (by omega) (fun m2 hP2 f2 g2 => ⟨rfl, ?_⟩)
    refine k m2 ⟨(hL.fr f1).fr f2, hT1.fr f2 (by decide) (by decide) (by decide), hC1.fr f2 (by decide) (by decide) (by decide) (by decide), hP2, ?_, ?_⟩ ((SMT f1).trans (SWT f2)) ((F12.fr f1 (by decide)).trans g2)
    · dsimp only; rw [List.length_append]; omega
    · dsimp only; rw [List.length_append, List.length_cons, List.length_nil]; omega
theorem hd_tail {q : List Tk} {t : Tk} {r : List Tk} (e : q = t :: r) : q.tail = r := by rw [e]; rfl
theorem lp_t101 {d : Nat} (hs : CPt (d + 1) 102 tPart) : ∀ (j : Nat), j ≤ 80 → ∀ (m : Mm) (K : Option Value → Mm → Prop) (N : Nat) (s : T3), R3 m N s → TPost m N (tLoop tPart 17 j s) K → WH (d + 2) 101 12 [(0, .ref 25), (1, .int (nI 0)), (2, .int (nI (80 - j)))] [] m K := by
  intro j
  induction j with
  | zero =>
    intro hj m K N s hR k
    refine sg_101_12 _ _ ?_
    simp (disch := omega) only [nIle]
    rw [if_pos (by omega)]
    exact k m hR (Fr.refl _ m) (F12.refl m)
  | succ j ih =>
    intro hj m K N s hR k
    have hR0 := hR
    obtain ⟨hL, hT, hC, hP, hc, hp⟩ := hR
    obtain ⟨q, cs, ps⟩ := s
    dsimp only at hT hC hP hc hp
    have hN := hT.le
    refine sg_101_12 _ _ ?_
    simp (disch := omega) only [nIle, nI_add]
    rw [if_neg (by omega)]
    unfold tLoop at k
    dsimp only at k
    refine c_accN hL hT (by decide) (by decide) (fun t r e e1 m1 hT1 f1 a1 a2 a3 => ⟨_, rfl, ?_⟩) (fun e2 => ⟨_, rfl, ?_⟩)
    · subst e
      rw [if_neg (by decide)]
      rw [if_pos (show hd (t :: r) = 17 from e1)] at k
      simp only [List.length_cons] at hc hp
      have g1 : Fr ST m m1 := f1.mono (by decide)
      refine hs m1 _ N (r, cs, ps) ⟨hL.fr f1, hT1, CD26 hC f1, hP.fr f1 (by decide) (by decide) (by decide) (by decide), by dsimp only; omega, by dsimp only; omega⟩ ?_
      cases hx : tPart (r, cs, ps) with
      | none =>
        simp only [List.tail_cons, hx] at k
        exact fun m' f2 => ⟨_, rfl, by rw [if_pos rfl]; exact k m' (g1.trans f2)⟩
      | some s' =>
        simp only [List.tail_cons, hx] at k
        intro m2 hR2 f2 i2
        refine ⟨_, rfl, ?_⟩
        rw [if_neg (by decide)]
        obtain ⟨hL2, hT2, hC2, hP2, hc2, hp2⟩ := hR2
        have hpl : s'.2.1.length + s'.1.length + 1 ≤ N := by
          unfold tPart at hx
          dsimp only at hx
          split at hx
          · next c q r' e =>
            cases hx
            have := okM_neg 8 _ _ _ _ e
            dsimp only
            rw [List.length_append]; omega
          · cases hx
        have hpp : s'.2.2.length + s'.1.length + 1 ≤ N := by
          unfold tPart at hx
          dsimp only at hx
          split at hx
          · next c q r' e =>
            cases hx
            have := okM_neg 8 _ _ _ _ e
            dsimp only
            rw [List.length_append, List.length_cons, List.length_nil]; omega
          · cases hx
        refine c_addOpN hL2 hC2 (by omega) (fun m4 hC4 f4 hT4 => ⟨rfl, ?_⟩)
        rw [show 80 - (j + 1) + 1 = 80 - j by omega]
        have g4 : Fr ST m m4 := (g1.trans f2).trans (f4.mono (by decide))
        have i4 : F12 m m4 := ((F12.fr f1 (by decide)).trans i2).trans (F12.fr f4 (by decide))
        refine ih (by omega) m4 K N (s'.1, s'.2.1 ++ [opr 17], s'.2.2) ⟨hL2.fr f4, hT4 _ _ hT2, hC4, hP2.fr f4 (by decide) (by decide) (by decide) (by decide), ?_, ?_⟩ (k.fr g4 i4)
        · dsimp only; rw [List.length_append, List.length_cons, List.length_nil]; omega
        · dsimp only; omega
    · rw [if_pos rfl]
      rw [if_neg e2] at k
      exact k m hR0 (Fr.refl _ m) (F12.refl m)
theorem c_tCon : CPt 42 101 tCon := by
  intro m K N s hR k
  refine sp_101 _ ?_
  refine c_tPart m _ N s hR ?_
  unfold tCon at k
  cases hx : tPart s with
  | none =>
    rw [hx] at k
    exact fun m' f2 => ⟨_, rfl, by rw [if_pos rfl]; exact k m' f2⟩
  | some s' =>
    rw [hx] at k
    intro m1 hR1 f1 i1
    refine ⟨_, rfl, ?_⟩
    rw [if_neg (by decide)]
    exact lp_t101 (d := 40) c_tPart 80 (by omega) m1 K N s' hR1 (k.fr f1 i1)
/-- what C's readings take -/
def okT (f : T3 → Option T3) : Prop := ∀ s s', f s = some s' → s'.2.1.length + s'.1.length ≤ s.2.1.length + s.1.length ∧ s'.2.2.length + s'.1.length ≤ s.2.2.length + s.1.length ∧ s'.1.length < s.1.length ∧ s.2.1.length < s'.2.1.length
theorem okT_part : okT tPart := by
  intro s s' h
  unfold tPart at h
  split at h
  · next c q r e =>
    cases h
    have := okM_neg 8 _ _ _ _ e
    dsimp only
    simp only [List.length_append, List.length_cons, List.length_nil]
    omega
  · cases h
theorem tLoop_len {p : T3 → Option T3} (hp : okT p) (k : Nat) (hk : 0 < k) : ∀ (n : Nat) (s s' : T3), tLoop p k n s = some s' → s'.2.1.length + s'.1.length ≤ s.2.1.length + s.1.length ∧ s'.2.2.length + s'.1.length ≤ s.2.2.length + s.1.length ∧ s'.1.length ≤ s.1.length ∧ s.2.1.length ≤ s'.2.1.length
  | 0, s, s', h => by cases h; omega
  | n + 1, s, s', h => by
    unfold tLoop at h
    split at h
    · next e =>
      split at h
      · next s1 e1 =>
        have h1 := hp _ _ e1
        have h2 := tLoop_len hp k hk n _ _ h
        obtain ⟨q, cs, ps⟩ := s
        cases q with
        | nil => exact absurd e (by show 0 ≠ k; omega)
        | cons t r =>
          simp only [List.tail_cons, List.length_append, List.length_cons, List.length_nil] at *
          omega
      · cases h
    · cases h; omega
theorem okT_con : okT tCon := by
  intro s s' h
  unfold tCon at h
  split at h
  · next s1 e =>
    have h1 := okT_part _ _ e
    have h2 := tLoop_len okT_part 17 (by decide) _ _ _ h
    omega
  · cases h
theorem c_setOnly {d : Nat} {m : Mm} {K : Option Value → Mm → Prop} {x z : Nat} (hL : Len m) (k : ∀ m', PA m' [(x, 0, z)] → Fr SW m m' → F12 m m' → K none m') : WP (d + 1) 64 [.ref 12, .int (nI x), .int (nI z)] m K := by
  refine sp_64 _ _ ?_
  have f0 : Fr SW m (m.uF 12 16 (nI 0)) := Fr.uF (Fr.refl _ m) (by decide) _ _
  refine c_addPart (ps := []) (x := x) (y := 0) (z := z) (hL.fr f0) ⟨rfl, fun i hi => absurd hi (Nat.not_lt_zero i)⟩ (by decide) (fun m' h1 h2 h3 => ⟨rfl, k m' h1 (f0.trans h2) ?_⟩)
  intro f hf
  rw [h3 f hf, mF_F, if_neg (fun q => hf q.2)]
def tFix (n : Nat) (e : T3) : T3 := (e.1, e.2.1, [(n, 0, e.2.1.length)])
def tFixO (n : Nat) (x : Option T3) : Option T3 := match x with | some e => some (tFix n e) | none => none
theorem c_fix {d n N : Nat} {m m0 : Mm} {K : Option Value → Mm → Prop} {s : T3} (hR : R3 m N s) (h0 : 0 < s.2.1.length) (f0 : Fr ST m0 m) (i0 : F12 m0 m) (k : TPost m0 N (some (tFix n s)) K) {x : Int32} (hx : x = nI s.2.1.length) : WP (d + 1) 64 [.ref 12, .int (nI n), .int x] m (fun v m4 => v = none ∧ K (some (.int (nI 1))) m4) := by
  subst hx
  obtain ⟨hL, hT, hC, hP, hc, hp⟩ := hR
  refine c_setOnly hL (fun m' h1 h2 h3 => ⟨rfl, k m' ⟨hL.fr h2, hT.fr h2 (by decide) (by decide) (by decide), hC.fr h2 (by decide) (by decide) (by decide) (by decide), h1, hc, ?_⟩ (f0.trans (SWT h2)) (i0.trans h3)⟩)
  show 1 + s.1.length ≤ N
  omega
theorem lp_t100 {d n : Nat} (hs : CPt (d + 1) 101 tCon) : ∀ (j : Nat), j ≤ 80 → ∀ (m : Mm) (K : Option Value → Mm → Prop) (N : Nat) (s : T3), R3 m N s → 0 < s.2.1.length → TPost m N (tFixO n (tLoop tCon 16 j s)) K → WH (d + 2) 100 23 [(0, .ref 25), (1, .int (nI 0)), (2, .int (nI n)), (3, .int (nI 0)), (4, .int (nI (80 - j)))] [] m K := by
  intro j
  induction j with
  | zero =>
    intro hj m K N s hR h0 k
    refine sg_100_23 _ _ _ _ ?_
    simp (disch := omega) only [nIle]
    rw [if_pos (by omega), if_pos trivial, if_pos trivial]
    exact c_fix hR h0 (Fr.refl _ m) (F12.refl m) k hR.2.2.1.1
  | succ j ih =>
    intro hj m K N s hR h0 k
    have hR0 := hR
    obtain ⟨hL, hT, hC, hP, hc, hp⟩ := hR
    have hN := hT.le
    refine sg_100_23 _ _ _ _ ?_
    simp (disch := omega) only [nIle, nI_add]
    rw [if_neg (by omega)]
    unfold tLoop at k
    refine c_accN hL hT (by decide) (by decide) (fun t r e e1 m1 hT1 f1 a1 a2 a3 => ⟨_, rfl, ?_⟩) (fun e2 => ⟨_, rfl, ?_⟩)
    · rw [if_neg (by decide)]
      rw [if_pos (by rw [e]; exact e1), hd_tail e] at k
      rw [e] at hc hp
      simp only [List.length_cons] at hc hp
      have g1 : Fr ST m m1 := f1.mono (by decide)
      refine hs m1 _ N (r, s.2) ⟨hL.fr f1, hT1, CD26 hC f1, hP.fr f1 (by decide) (by decide) (by decide) (by decide), by dsimp only; omega, by dsimp only; omega⟩ ?_
      cases hx : tCon (r, s.2) with
      | none =>
        simp only [hx] at k
        exact fun m' f2 => ⟨_, rfl, by rw [if_pos rfl]; exact k m' (g1.trans f2)⟩
      | some s' =>
        simp only [hx] at k
        have hl := okT_con _ _ hx
        dsimp only at hl
        intro m2 hR2 f2 i2
        refine ⟨_, rfl, ?_⟩
        rw [if_neg (by decide)]
        obtain ⟨hL2, hT2, hC2, hP2, hc2, hp2⟩ := hR2
        refine c_addOpN hL2 hC2 (by omega) (fun m4 hC4 f4 hT4 => ⟨rfl, ?_⟩)
        rw [show 80 - (j + 1) + 1 = 80 - j by omega]
        have g4 : Fr ST m m4 := (g1.trans f2).trans (f4.mono (by decide))
        have i4 : F12 m m4 := ((F12.fr f1 (by decide)).trans i2).trans (F12.fr f4 (by decide))
        refine ih (by omega) m4 K N (s'.1, s'.2.1 ++ [opr 16], s'.2.2) ⟨hL2.fr f4, hT4 _ _ hT2, hC4, hP2.fr f4 (by decide) (by decide) (by decide) (by decide), ?_, ?_⟩ ?_ (k.fr g4 i4)
        · dsimp only; rw [List.length_append, List.length_cons, List.length_nil]; omega
        · dsimp only; omega
        · dsimp only; rw [List.length_append]; omega
    · rw [if_pos rfl, if_pos trivial, if_pos trivial]
      rw [if_neg e2] at k
      exact c_fix hR0 h0 (Fr.refl _ m) (F12.refl m) k hC.1
theorem c_tCnd : CPt 44 100 tCnd := by
  intro m K N s hR k
  refine sp_100 _ ?_
  refine (c_tCon.up (d' := 43) (by omega)) m _ N s hR ?_
  unfold tCnd at k
  cases hx : tCon s with
  | none =>
    rw [hx] at k
    exact fun m' f2 => ⟨_, rfl, by rw [if_pos rfl]; exact k m' f2⟩
  | some s' =>
    rw [hx] at k
    have hl := okT_con _ _ hx
    intro m1 hR1 f1 i1
    refine ⟨_, rfl, ?_⟩
    rw [if_neg (by decide), hR.2.2.1.1]
    have k0 := k.fr f1 i1
    have hR10 := hR1
    obtain ⟨hL, hT, hC, hP, hc, hp⟩ := hR1
    have hN := hT.le
    refine sg_100_23 _ _ _ _ ?_
    simp (disch := omega) only [nIle, nI_add]
    rw [if_neg (by omega)]
    refine c_accN hL hT (by decide) (by decide) (fun t r e e1 m2 hT2 f2 a1 a2 a3 => ⟨_, rfl, ?_⟩) (fun e2 => ⟨_, rfl, ?_⟩)
    · rw [if_neg (by decide)]
      have h16 : hd s'.1 = 16 := by rw [e]; exact e1
      have k1 : TPost m1 N (tFixO s.2.1.length (tLoop tCon 16 80 s')) K := by
        simp only [h16, if_true] at k0
        exact k0
      have k2 : tLoop tCon 16 80 s' = (match tCon (s'.1.tail, s'.2) with | some s1 => tLoop tCon 16 79 (s1.1, s1.2.1 ++ [opr 16], s1.2.2) | none => none) := if_pos h16
      rw [k2, hd_tail e] at k1
      rw [e] at hc hp
      simp only [List.length_cons] at hc hp
      have g1 : Fr ST m1 m2 := f2.mono (by decide)
      refine (c_tCon.up (d' := 43) (by omega)) m2 _ N (r, s'.2) ⟨hL.fr f2, hT2, CD26 hC f2, hP.fr f2 (by decide) (by decide) (by decide) (by decide), by dsimp only; omega, by dsimp only; omega⟩ ?_
      cases hx2 : tCon (r, s'.2) with
      | none =>
        simp only [hx2] at k1
        exact fun m' f3 => ⟨_, rfl, by rw [if_pos rfl]; exact k1 m' (g1.trans f3)⟩
      | some s2 =>
        simp only [hx2] at k1
        have hl2 := okT_con _ _ hx2
        dsimp only at hl2
        intro m3 hR3 f3 i3
        refine ⟨_, rfl, ?_⟩
        rw [if_neg (by decide)]
        obtain ⟨hL3, hT3, hC3, hP3, hc3, hp3⟩ := hR3
        refine c_addOpN hL3 hC3 (by omega) (fun m4 hC4 f4 hT4 => ⟨rfl, ?_⟩)
        have g4 : Fr ST m1 m4 := (g1.trans f3).trans (f4.mono (by decide))
        have i4 : F12 m1 m4 := ((F12.fr f2 (by decide)).trans i3).trans (F12.fr f4 (by decide))
        refine lp_t100 (d := 42) (c_tCon.up (by omega)) 79 (by omega) m4 K N (s2.1, s2.2.1 ++ [opr 16], s2.2.2) ⟨hL3.fr f4, hT4 _ _ hT3, hC4, hP3.fr f4 (by decide) (by decide) (by decide) (by decide), ?_, ?_⟩ ?_ (k1.fr g4 i4)
        · dsimp only; rw [List.length_append, List.length_cons, List.length_nil]; omega
        · dsimp only; omega
        · dsimp only; rw [List.length_append]; omega
    · rw [if_pos rfl, if_pos trivial, if_neg (by decide)]
      have k2 : tLoop tCon 16 80 s' = some s' := if_neg e2
      simp only [k2, e2, if_false] at k0
      exact k0 m1 hR10 (Fr.refl _ m1) (F12.refl m1)
theorem okT_cnd {s s' : T3} (h : tCnd s = some s') : s'.2.1.length + s'.1.length ≤ s.2.1.length + s.1.length ∧ s'.1.length < s.1.length ∧ s.2.1.length < s'.2.1.length := by
  unfold tCnd at h
  split at h
  · next s1 e =>
    have h1 := okT_con _ _ e
    split at h
    · next e1 e2 =>
      have h2 := tLoop_len okT_con 16 (by decide) _ _ _ e2
      split at h
      · cases h; dsimp only; omega
      · cases h; omega
    · cases h
  · cases h
