/-! THE TEXT'S MEANING, the statement: scalars by the number of the class's field (6: second table + 1, 15: limit + 1), the ends of the list -/
abbrev Sc : Type := (Nat → Nat) × List Nat
abbrev St : Type := T3 × Sc
def upS (c : Sc) (f n : Nat) : Sc := (fun g => if g = f then n else c.1 g, c.2)
def sSet (k f : Nat) (g : Nat → Nat) (s : St) : Option St := match s.1.1 with
  | t :: r => if t.1 = k then some ((r, s.1.2), upS s.2 f (g t.2)) else none
  | [] => none
def sTok (k : Nat) (s : St) : Option St := if hd s.1.1 = k then some ((s.1.1.tail, s.1.2), s.2) else none
def sOpt (k : Nat) (f : St → Option St) (s : St) : Option St := if hd s.1.1 = k then f ((s.1.1.tail, s.1.2), s.2) else some s
def sTwo : St → Option St := sOpt 44 (sSet 1 6 (fun n => n + 1))
def sLim : St → Option St := sOpt 14 (sSet 2 15 (fun n => n + 1))
def sEx (s : St) : Option St := match pEx 8 s.1.1 with | some (c, r) => some ((r, s.1.2.1 ++ c, s.1.2.2), s.2) | none => none
def sItem (s : St) : Option St := match sEx s with | some e => some (e.1, e.2.1, e.2.2 ++ [e.1.2.1.length]) | none => none
def sList : Nat → St → Option St
  | 0, _ => none
  | n + 1, s => match sItem s with
    | some e => if hd e.1.1 = 44 then sList n ((e.1.1.tail, e.1.2), e.2) else some e
    | none => none
def sWhere : St → Option St := sOpt 11 (fun s => match tCnd s.1 with | some e => some (e, upS (upS s.2 10 s.1.2.1.length) 11 e.2.1.length) | none => none)
def sOrder : St → Option St := sOpt 12 (fun s => match sEx s with
  | some e => let c := upS (upS s.2 12 s.1.2.1.length) 13 e.1.2.1.length
    if hd e.1.1 = 13 then some ((e.1.1.tail, e.1.2), upS c 14 1) else some (e.1, upS c 14 0)
  | none => none)
def lim (n : Nat) : Int32 := match n with | 0 => nI 2147483647 | n + 1 => nI n
def sv (f n : Nat) : Int32 := if f = 6 then ow n else if f = 15 then lim n else nI n
def sF (f : Nat) : Bool := f == 4 || f == 5 || f == 6 || f == 7 || f == 8 || f == 10 || f == 11 || f == 12 || f == 13 || f == 14 || f == 15
def SR (m : Mm) (c : Sc) : Prop := (∀ f, sF f = true → m.F 12 f = sv f (c.1 f)) ∧ m.F 12 9 = nI c.2.length ∧ ∀ i, i < c.2.length → (m.A 13).getD i 0 = nI (c.2.getD i 0)
theorem SR.fr {S : List Nat} {m m1 : Mm} {c : Sc} (h : SR m c) (k : Fr S m m1) (h1 : 13 ∉ S) (h2 : F12 m m1) : SR m1 c := by
  obtain ⟨a, b, e⟩ := h
  refine ⟨fun f hf => ?_, ?_, ?_⟩
  · rw [h2 f (by rintro rfl; exact absurd hf (by decide))]; exact a f hf
  · rw [h2 9 (by decide)]; exact b
  · rw [k.a h1]; exact e
theorem SR.up {m : Mm} {c : Sc} (h : SR m c) {f n : Nat} {x : Int32} (hf : sF f = true) (hx : x = sv f n) : SR (m.uF 12 f x) (upS c f n) := by
  obtain ⟨a, b, e⟩ := h
  have f9 : f ≠ 9 := by rintro rfl; exact absurd hf (by decide)
  refine ⟨fun g hg => ?_, ?_, e⟩
  · rw [mF_F]
    show _ = sv g (if g = f then n else c.1 g)
    by_cases h1 : g = f
    · rw [if_pos ⟨rfl, h1⟩, if_pos h1, hx, h1]
    · rw [if_neg (fun q => h1 q.2), if_neg h1]; exact a g hg
  · rw [mF_F, if_neg (fun q => f9 q.2.symm)]; exact b
def SZ : List Nat := [12, 13, 14, 15, 16, 17, 18, 19, 20, 21, 25, 26]
def R4 (m : Mm) (N : Nat) (s : St) : Prop := R3 m N s.1 ∧ SR m s.2 ∧ s.2.2.length + s.1.1.length ≤ N
def SPost (m : Mm) (N : Nat) (x : Option St) (K : Option Value → Mm → Prop) : Prop := match x with
  | some s => ∀ m', R4 m' N s → Fr SZ m m' → K (some (.int (nI 1))) m'
  | none => ∀ m', Fr SZ m m' → K (some (.int (nI 0))) m'
theorem SPost.fr {m m1 : Mm} {N : Nat} {x : Option St} {K : Option Value → Mm → Prop} (h : SPost m N x K) (k : Fr SZ m m1) : SPost m1 N x K := by
  cases x with
  | none => exact fun m' f => h m' (k.trans f)
  | some s => exact fun m' a f => h m' a (k.trans f)
def CSt (d M : Nat) (f : St → Option St) : Prop := ∀ (m : Mm) (K : Option Value → Mm → Prop) (N : Nat) (s : St), R4 m N s → SPost m N (f s) K → WP d M [.ref 25] m K
theorem R4.fr26 {m m1 : Mm} {N : Nat} {t : Tk} {r : List Tk} {s : St} (h : R4 m N s) (e : s.1.1 = t :: r) (f : Fr [26] m m1) (hT : TN m1 N r) : R4 m1 N ((r, s.1.2), s.2) := by
  obtain ⟨⟨hL, _, hC, hP, hc, hp⟩, hS, he⟩ := h
  rw [e] at hc hp he
  simp only [List.length_cons] at hc hp he
  exact ⟨⟨hL.fr f, hT, CD26 hC f, hP.fr f (by decide) (by decide) (by decide) (by decide), by dsimp only; omega, by dsimp only; omega⟩, hS.fr f (by decide) (F12.fr f (by decide)), by dsimp only; omega⟩
theorem R4.up {m : Mm} {N : Nat} {s : St} (h : R4 m N s) {f n : Nat} {x : Int32} (hf : sF f = true) (hx : x = sv f n) : R4 (m.uF 12 f x) N (s.1, upS s.2 f n) := by
  obtain ⟨⟨hL, hT, hC, hP, hc, hp⟩, hS, he⟩ := h
  have f1 : Fr [12] m (m.uF 12 f x) := Fr.uF (Fr.refl _ m) (by decide) _ _
  have f16 : f ≠ 16 := by rintro rfl; exact absurd hf (by decide)
  refine ⟨⟨hL.fr f1, hT.fr f1 (by decide) (by decide) (by decide), hC.fr f1 (by decide) (by decide) (by decide) (by decide), ⟨?_, hP.2⟩, hc, hp⟩, hS.up hf hx, he⟩
  rw [mF_F, if_neg (fun q => f16 q.2.symm)]; exact hP.1
theorem b_set {d k f : Nat} {g : Nat → Nat} (hk : 0 < k) (hk2 : k < 1000) (hf : sF f = true) (hg : ∀ n, sv f (g n) = nI n) {m m0 : Mm} {K : Option Value → Mm → Prop} {N : Nat} {s : St} (hR : R4 m N s) (f0 : Fr SZ m0 m) (k0 : SPost m0 N (sSet k f g s) K) : WP d 71 [.ref 26, .int (nI k)] m (fun v m1 => ∃ w2, v = some (.int w2) ∧ (if w2 = (nI 0) then K (some (.int (nI 0))) m1 else WP d 72 [.ref 26] m1 (fun v m4 => ∃ w5, v = some (.int w5) ∧ K (some (.int (nI 1))) (m4.uF 12 f w5)))) := by
  have hT := hR.1.2.1
  have hN := hT.le
  refine c_accN hR.1.1 hT hk hk2 (fun t r e e1 m1 hT1 f1 a1 a2 a3 => ⟨_, rfl, ?_⟩) (fun e2 => ⟨_, rfl, ?_⟩)
  · rw [if_neg (by simp (disch := omega) only [nIeq]; omega)]
    have hl := hT.1
    rw [e] at hl a1 a2
    simp only [List.length_cons] at hl a1 a2
    refine c_taken (hR.1.1.fr f1) a1 (by omega) a2 ⟨_, rfl, ?_⟩
    have e0 : sSet k f g s = some ((r, s.1.2), upS s.2 f (g t.2)) := by
      unfold sSet
      rw [e]
      exact if_pos e1
    rw [e0] at k0
    exact k0 _ ((hR.fr26 e f1 hT1).up hf (hg _).symm) (Fr.uF (f0.trans (f1.mono (by decide))) (by decide) _ _)
  · rw [if_pos rfl]
    have e0 : sSet k f g s = none := by
      unfold sSet
      split
      · next t r e => exact if_neg (by rw [e] at e2; exact e2)
      · rfl
    rw [e0] at k0
    exact k0 m f0
theorem c_87 {d : Nat} : CSt (d + 1) 87 (sSet 1 5 (fun n => n)) := fun m K N s hR k => sp_87 (b_set (by decide) (by decide) rfl (fun _ => rfl) hR (Fr.refl _ m) k)
theorem c_89 {d : Nat} : CSt (d + 1) 89 (sSet 2 8 (fun n => n)) := fun m K N s hR k => sp_89 (b_set (by decide) (by decide) rfl (fun _ => rfl) hR (Fr.refl _ m) k)
theorem c_90 {d : Nat} : CSt (d + 1) 90 (sSet 3 7 (fun n => n)) := fun m K N s hR k => sp_90 (b_set (by decide) (by decide) rfl (fun _ => rfl) hR (Fr.refl _ m) k)
theorem c_88 {d : Nat} : CSt (d + 1) 88 sTwo := by
  intro m K N s hR k
  refine sp_88 ?_
  unfold sTwo sOpt at k
  refine c_accN hR.1.1 hR.1.2.1 (by decide) (by decide) (fun t r e e1 m1 hT1 f1 a1 a2 a3 => ⟨_, rfl, ?_⟩) (fun e2 => ⟨_, rfl, ?_⟩)
  · rw [if_neg (by decide)]
    rw [if_pos (by rw [e]; exact e1), hd_tail e] at k
    exact b_set (by decide) (by decide) rfl (fun _ => rfl) (hR.fr26 e f1 hT1) (f1.mono (by decide)) k
  · rw [if_pos rfl]
    rw [if_neg e2] at k
    exact k m hR (Fr.refl _ m)
theorem c_95 {d : Nat} : CSt (d + 1) 95 sLim := by
  intro m K N s hR k
  refine sp_95 ?_
  unfold sLim sOpt at k
  refine c_accN hR.1.1 hR.1.2.1 (by decide) (by decide) (fun t r e e1 m1 hT1 f1 a1 a2 a3 => ⟨_, rfl, ?_⟩) (fun e2 => ⟨_, rfl, ?_⟩)
  · rw [if_neg (by decide)]
    rw [if_pos (by rw [e]; exact e1), hd_tail e] at k
    exact b_set (by decide) (by decide) rfl (fun _ => rfl) (hR.fr26 e f1 hT1) (f1.mono (by decide)) k
  · rw [if_pos rfl]
    rw [if_neg e2] at k
    exact k m hR (Fr.refl _ m)
theorem R4.ex {m m1 : Mm} {N : Nat} {s : St} (h : R4 m N s) {c : List Op} {r : List Tk} (e : pEx 8 s.1.1 = some (c, r)) (hT : TN m1 N r) (hC : CD m1 (s.1.2.1 ++ c)) (f : Fr SX m m1) : R4 m1 N ((r, s.1.2.1 ++ c, s.1.2.2), s.2) ∧ r.length + 1 + s.2.2.length ≤ N ∧ s.1.2.1.length < (s.1.2.1 ++ c).length := by
  have hl := okP_ex 8 _ _ _ e
  obtain ⟨⟨hL, _, _, hP, hc, hp⟩, hS, he⟩ := h
  refine ⟨⟨⟨hL.fr f, hT, hC, hP.fr f (by decide) (by decide) (by decide) (by decide), ?_, ?_⟩, hS.fr f (by decide) (F12.fr f (by decide)), ?_⟩, ?_, ?_⟩
  · dsimp only; rw [List.length_append]; omega
  · dsimp only; omega
  · dsimp only; omega
  · omega
  · rw [List.length_append]; omega
theorem c_92 {d : Nat} (hdp : 28 ≤ d) : CSt (d + 1) 92 sItem := by
  intro m K N s hR k
  have hN := hR.1.2.1.le
  refine sp_92 ?_
  refine c_ex (l := 8) (by omega) (by omega) m _ N s.1.1 s.1.2.1 hR.1.1 hR.1.2.1 hR.1.2.2.1 hR.1.2.2.2.2.1 ?_
  unfold sItem sEx at k
  cases hx : pEx 8 s.1.1 with
  | none =>
    rw [hx] at k
    exact fun m' f2 => ⟨_, rfl, by rw [if_pos rfl]; exact k m' (f2.mono (by decide))⟩
  | some y =>
    obtain ⟨c, r⟩ := y
    rw [hx] at k
    intro m1 hT1 hC1 f1
    refine ⟨_, rfl, ?_⟩
    obtain ⟨hR1, hr1, _⟩ := hR.ex hx hT1 hC1 f1
    obtain ⟨⟨hL, hT, hC, hP, hc, hp⟩, hS, he⟩ := hR1
    have l1 : (m1.A 13).length = 80 := hL.a (by decide) rfl
    rw [if_neg (by decide)]
    refine sp_60 _ ?_
    have h9 : m1.F 12 9 = nI s.2.2.length := hS.2.1
    simp (disch := omega) only [h9, nIle, ix_nI, l1, nI_add]
    rw [if_neg (by omega)]
    refine ⟨ok_nI (by omega) (by decide), trivial, ?_⟩
    have f2 : Fr [12, 13] m1 ((m1.uA 13 ((m1.A 13).set s.2.2.length (m1.F 17 5))).uF 12 9 (nI (s.2.2.length + 1))) := Fr.uF (Fr.uA (Fr.refl _ m1) (by decide) (by rw [List.length_set])) (by decide) _ _
    refine k _ ⟨⟨hL.fr f2, hT.fr f2 (by decide) (by decide) (by decide), hC.fr f2 (by decide) (by decide) (by decide) (by decide), ⟨hP.1, hP.2⟩, hc, hp⟩, ⟨?_, ?_, ?_⟩, ?_⟩ ((f1.mono (by decide)).trans (f2.mono (by decide)))
    · intro f hf
      rw [mF_F, if_neg (by rintro ⟨_, rfl⟩; exact absurd hf (by decide))]
      exact hS.1 f hf
    · rw [mF_F, if_pos ⟨rfl, rfl⟩]
      dsimp only
      rw [List.length_append]; rfl
    · intro i hi
      dsimp only at hi ⊢
      rw [List.length_append, List.length_cons, List.length_nil] at hi
      show ((m1.A 13).set s.2.2.length (m1.F 17 5)).getD i 0 = _
      rw [getD_set _ _ _ _ _ (by omega), getD_snoc]
      by_cases h1 : i = s.2.2.length
      · rw [if_pos h1, if_pos h1, hC.1]
      · rw [if_neg h1, if_neg h1]; exact hS.2.2 i (by dsimp only; omega)
    · dsimp only
      rw [List.length_append, List.length_cons, List.length_nil]; omega
theorem lp_91 {d : Nat} (hdp : 28 ≤ d) : ∀ (j : Nat), j ≤ 80 → ∀ (m : Mm) (K : Option Value → Mm → Prop) (N : Nat) (s : St), R4 m N s → SPost m N (sList j s) K → WH (d + 2) 91 2 [(0, .ref 25), (1, .int (nI (80 - j)))] [] m K := by
  intro j
  induction j with
  | zero =>
    intro hj m K N s hR k
    refine sg_91_2 _ ?_
    simp (disch := omega) only [nIle]
    rw [if_pos (by omega)]
    exact k m (Fr.refl _ m)
  | succ j ih =>
    intro hj m K N s hR k
    refine sg_91_2 _ ?_
    simp (disch := omega) only [nIle, nI_add]
    rw [if_neg (by omega)]
    refine c_92 hdp m _ N s hR ?_
    unfold sList at k
    cases hx : sItem s with
    | none =>
      rw [hx] at k
      exact fun m' f2 => ⟨_, rfl, by rw [if_pos rfl]; exact k m' f2⟩
    | some e =>
      rw [hx] at k
      dsimp only at k
      intro m1 hR1 f1
      refine ⟨_, rfl, ?_⟩
      rw [if_neg (by decide)]
      refine c_accN hR1.1.1 hR1.1.2.1 (by decide) (by decide) (fun t r e e1 m2 hT2 f2 a1 a2 a3 => ⟨_, rfl, ?_⟩) (fun e2 => ⟨_, rfl, ?_⟩)
      · rw [if_neg (by decide), show 80 - (j + 1) + 1 = 80 - j by omega]
        rw [if_pos (by rw [e]; exact e1), hd_tail e] at k
        exact ih (by omega) m2 K N _ (hR1.fr26 e f2 hT2) (k.fr (f1.trans (f2.mono (by decide))))
      · rw [if_pos rfl]
        rw [if_neg e2] at k
        exact k m1 hR1 f1
theorem c_91 {d : Nat} (hdp : 28 ≤ d) : CSt (d + 2) 91 (sList 80) := fun m K N s hR k => sp_91 (lp_91 hdp 80 (by omega) m K N s hR k)
theorem c_93 {d : Nat} (hdp : 44 ≤ d) : CSt (d + 1) 93 sWhere := by
  intro m K N s hR k
  refine sp_93 ?_
  unfold sWhere sOpt at k
  refine c_accN hR.1.1 hR.1.2.1 (by decide) (by decide) (fun t r e e1 m1 hT1 f1 a1 a2 a3 => ⟨_, rfl, ?_⟩) (fun e2 => ⟨_, rfl, ?_⟩)
  · rw [if_neg (by decide)]
    rw [if_pos (by rw [e]; exact e1), hd_tail e] at k
    have hR1 := hR.fr26 e f1 hT1
    have hR2 := hR1.up (f := 10) (n := s.1.2.1.length) (x := m1.F 17 5) rfl hR1.1.2.2.1.1
    have g1 : Fr SZ m (m1.uF 12 10 (m1.F 17 5)) := Fr.uF (f1.mono (by decide)) (by decide) _ _
    refine (c_tCnd.up hdp) _ _ N _ hR2.1 ?_
    dsimp only at k ⊢
    cases hx : tCnd (r, s.1.2) with
    | none =>
      rw [hx] at k
      exact fun m' f2 => ⟨_, rfl, by rw [if_pos rfl]; exact k m' (g1.trans (f2.mono (by decide)))⟩
    | some e' =>
      rw [hx] at k
      have hl := okT_cnd hx
      intro m3 hR3 f3 i3
      refine ⟨_, rfl, ?_⟩
      rw [if_neg (by decide)]
      have hS3 := hR2.2.1.fr f3 (by decide) i3
      have hR4 : R4 m3 N (e', upS s.2 10 s.1.2.1.length) := ⟨hR3, hS3, by have := hR2.2.2; dsimp only at *; omega⟩
      exact k _ (hR4.up (f := 11) (n := e'.2.1.length) rfl hR3.2.2.1.1) (Fr.uF (g1.trans (f3.mono (by decide))) (by decide) _ _)
  · rw [if_pos rfl]
    rw [if_neg e2] at k
    exact k m hR (Fr.refl _ m)
theorem c_94 {d : Nat} (hdp : 28 ≤ d) : CSt (d + 1) 94 sOrder := by
  intro m K N s hR k
  refine sp_94 ?_
  unfold sOrder sOpt at k
  refine c_accN hR.1.1 hR.1.2.1 (by decide) (by decide) (fun t r e e1 m1 hT1 f1 a1 a2 a3 => ⟨_, rfl, ?_⟩) (fun e2 => ⟨_, rfl, ?_⟩)
  · rw [if_neg (by decide)]
    rw [if_pos (by rw [e]; exact e1), hd_tail e] at k
    have hR1 := hR.fr26 e f1 hT1
    have hR2 := hR1.up (f := 12) (n := s.1.2.1.length) (x := m1.F 17 5) rfl hR1.1.2.2.1.1
    have g1 : Fr SZ m (m1.uF 12 12 (m1.F 17 5)) := Fr.uF (f1.mono (by decide)) (by decide) _ _
    refine c_ex (l := 8) (by omega) (by omega) _ _ N r s.1.2.1 hR2.1.1 hR2.1.2.1 hR2.1.2.2.1 hR2.1.2.2.2.2.1 ?_
    dsimp only at k ⊢
    unfold sEx at k
    cases hx : pEx 8 r with
    | none =>
      simp only [hx] at k
      exact fun m' f2 => ⟨_, rfl, by rw [if_pos rfl]; exact k m' (g1.trans (f2.mono (by decide)))⟩
    | some y =>
      obtain ⟨c, r'⟩ := y
      simp only [hx] at k
      intro m3 hT3 hC3 f3
      refine ⟨_, rfl, ?_⟩
      rw [if_neg (by decide)]
      obtain ⟨hR3, _⟩ := hR2.ex hx hT3 hC3 f3
      have hR4 := hR3.up (f := 13) (n := (s.1.2.1 ++ c).length) (x := m3.F 17 5) rfl hC3.1
      have g4 : Fr SZ m (m3.uF 12 13 (m3.F 17 5)) := Fr.uF (g1.trans (f3.mono (by decide))) (by decide) _ _
      refine c_accN hR4.1.1 hR4.1.2.1 (by decide) (by decide) (fun t2 r2 e3 e4 m5 hT5 f5 b1 b2 b3 => ⟨_, rfl, isB_1, ?_⟩) (fun e4 => ⟨_, rfl, isB_0, ?_⟩)
      · have e5 : r' = t2 :: r2 := e3
        rw [if_pos (by rw [e5]; exact e4), e5] at k
        have hR5 := (hR4.fr26 e3 f5 hT5).up (f := 14) (n := 1) (x := nI 1) rfl rfl
        exact k _ hR5 (Fr.uF (g4.trans (f5.mono (by decide))) (by decide) _ _)
      · rw [if_neg e4] at k
        exact k _ (hR4.up (f := 14) (n := 0) (x := nI 0) rfl rfl) (Fr.uF g4 (by decide) _ _)
  · rw [if_pos rfl]
    rw [if_neg e2] at k
    exact k m hR (Fr.refl _ m)
