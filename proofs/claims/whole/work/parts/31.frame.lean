/-! FRAMES: what a method may change; the lengths of all arrays -/
theorem getD_set {α : Type} (l : List α) (n i : Nat) (x z : α) (h : n < l.length) : (l.set n x).getD i z = if i = n then x else l.getD i z := by
  rw [List.getD_eq_getElem?_getD, List.getD_eq_getElem?_getD, List.getElem?_set]
  by_cases e : n = i
  · subst e
    rw [if_pos rfl, if_pos rfl, if_pos h]; rfl
  · rw [if_neg e, if_neg (fun q => e q.symm)]
def Fr (S : List Nat) (m m' : Mm) : Prop := (∀ c, c ∉ S → (∀ f, m'.F c f = m.F c f) ∧ m'.A c = m.A c ∧ m'.B c = m.B c ∧ (∀ f, m'.R c f = m.R c f)) ∧ ∀ c, (m'.A c).length = (m.A c).length ∧ (m'.B c).length = (m.B c).length
section FR
variable {S S' : List Nat} {m m1 m2 : Mm}
theorem Fr.refl (S : List Nat) (m : Mm) : Fr S m m := ⟨fun _ _ => ⟨fun _ => rfl, rfl, rfl, fun _ => rfl⟩, fun _ => ⟨rfl, rfl⟩⟩
theorem Fr.trans (h1 : Fr S m m1) (h2 : Fr S m1 m2) : Fr S m m2 := ⟨fun c hc => ⟨fun f => ((h2.1 c hc).1 f).trans ((h1.1 c hc).1 f), (h2.1 c hc).2.1.trans (h1.1 c hc).2.1, (h2.1 c hc).2.2.1.trans (h1.1 c hc).2.2.1, fun f => ((h2.1 c hc).2.2.2 f).trans ((h1.1 c hc).2.2.2 f)⟩, fun c => ⟨(h2.2 c).1.trans (h1.2 c).1, (h2.2 c).2.trans (h1.2 c).2⟩⟩
theorem Fr.mono (h : Fr S m m1) (hs : ∀ c, c ∈ S → c ∈ S') : Fr S' m m1 := ⟨fun c hc => h.1 c (fun q => hc (hs c q)), h.2⟩
theorem Fr.f (h : Fr S m m1) {c : Nat} (hc : c ∉ S) (f : Nat) : m1.F c f = m.F c f := (h.1 c hc).1 f
theorem Fr.a (h : Fr S m m1) {c : Nat} (hc : c ∉ S) : m1.A c = m.A c := (h.1 c hc).2.1
theorem Fr.b (h : Fr S m m1) {c : Nat} (hc : c ∉ S) : m1.B c = m.B c := (h.1 c hc).2.2.1
theorem Fr.r (h : Fr S m m1) {c : Nat} (hc : c ∉ S) (f : Nat) : m1.R c f = m.R c f := (h.1 c hc).2.2.2 f
theorem Fr.uF (h : Fr S m m1) {c : Nat} (hc : c ∈ S) (f : Nat) (v : Int32) : Fr S m (m1.uF c f v) := by
  refine ⟨fun x hx => ⟨fun y => ?_, h.a hx, h.b hx, h.r hx⟩, h.2⟩
  rw [mF_F, if_neg (fun (q : x = c ∧ y = f) => hx (by rw [q.1]; exact hc))]
  exact h.f hx y
theorem Fr.uR (h : Fr S m m1) {c : Nat} (hc : c ∈ S) (f v : Nat) : Fr S m (m1.uR c f v) := by
  refine ⟨fun x hx => ⟨h.f hx, h.a hx, h.b hx, fun y => ?_⟩, h.2⟩
  rw [mR_R, if_neg (fun (q : x = c ∧ y = f) => hx (by rw [q.1]; exact hc))]
  exact h.r hx y
theorem Fr.uA (h : Fr S m m1) {c : Nat} (hc : c ∈ S) {l : List Int32} (hl : l.length = (m1.A c).length) : Fr S m (m1.uA c l) := by
  refine ⟨fun x hx => ⟨h.f hx, ?_, h.b hx, h.r hx⟩, fun x => ⟨?_, (h.2 x).2⟩⟩
  · rw [mA_A, if_neg (fun (q : x = c) => hx (by rw [q]; exact hc))]; exact h.a hx
  · rw [mA_A]
    by_cases e : x = c
    · rw [if_pos e, hl, e]; exact (h.2 c).1
    · rw [if_neg e]; exact (h.2 x).1
theorem Fr.uB (h : Fr S m m1) {c : Nat} (hc : c ∈ S) {l : List Int64} (hl : l.length = (m1.B c).length) : Fr S m (m1.uB c l) := by
  refine ⟨fun x hx => ⟨h.f hx, h.a hx, ?_, h.r hx⟩, fun x => ⟨(h.2 x).1, ?_⟩⟩
  · show (m1.uB c l).B x = _
    rw [mB_B, if_neg (fun (q : x = c) => hx (by rw [q]; exact hc))]; exact h.b hx
  · show ((m1.uB c l).B x).length = _
    rw [mB_B]
    by_cases e : x = c
    · rw [if_pos e, hl, e]; exact (h.2 c).2
    · rw [if_neg e]; exact (h.2 x).2
end FR
def lA (c : Nat) : Nat := ([0, 80, 0, 0, 0, 4, 0, 0, 4, 0, 0, 4, 0, 80, 80, 80, 80, 0, 80, 80, 80, 80, 0, 0, 2, 0, 0, 80, 80, 0, 0, 20, 20, 0, 60, 60, 0, 0, 0, 0, 0, 0, 0, 100, 101, 101, 110, 110, 101, 101, 2, 4, 4, 40, 40, 40, 3, 3, 0, 12, 3, 0, 0, 20, 60, 60, 0, 60, 0] : List Nat).getD c 0
def lB (c : Nat) : Nat := ([0, 0, 0, 0, 80, 0, 0, 80, 0, 0, 80, 0, 0, 0, 0, 0, 0, 0, 0, 0, 0, 0, 80, 0, 0, 0, 0, 0, 0, 0, 0, 0, 0, 60, 0, 0, 0, 0, 0, 0, 180, 20, 0, 0, 0, 0, 0, 0, 0, 0, 0, 0, 0, 0, 0, 0, 0, 0, 240, 0, 0, 110, 20, 0, 0, 0, 60, 0, 180] : List Nat).getD c 0
def Len (m : Mm) : Prop := ∀ c, c < 69 → (m.A c).length = lA c ∧ (m.B c).length = lB c
theorem Len.fr {S : List Nat} {m m1 : Mm} (h : Len m) (k : Fr S m m1) : Len m1 := fun c hc => ⟨(k.2 c).1.trans (h c hc).1, (k.2 c).2.trans (h c hc).2⟩
theorem Len.a {m : Mm} (h : Len m) {c n : Nat} (hc : c < 69) (hn : lA c = n) : (m.A c).length = n := (h c hc).1.trans hn
theorem Len.b {m : Mm} (h : Len m) {c n : Nat} (hc : c < 69) (hn : lB c = n) : (m.B c).length = n := (h c hc).2.trans hn
/-! the class's tokens and steps -/
def hd (q : List Tk) : Nat := match q with | [] => 0 | t :: _ => t.1
/-- the tokens q are still to be taken, p have been -/
def TR (m : Mm) (p : Nat) (q : List Tk) : Prop := m.F 26 3 = nI p ∧ m.F 26 2 = nI (p + q.length) ∧ p + q.length ≤ 80 ∧ ∀ i, i < q.length → (m.A 27).getD (p + i) 0 = nI (q.getD i (0, 0)).1 ∧ (m.A 28).getD (p + i) 0 = nI (q.getD i (0, 0)).2 ∧ (q.getD i (0, 0)).1 < 1000 ∧ 0 < (q.getD i (0, 0)).1 ∧ (q.getD i (0, 0)).2 < 2 ^ 30
def ow (o : Nat) : Int32 := match o with | 0 => -1 | n + 1 => nI n
def CD (m : Mm) (cs : List Op) : Prop := m.F 17 5 = nI cs.length ∧ cs.length ≤ 80 ∧ ∀ i, i < cs.length → (m.A 18).getD i 0 = nI (cs.getD i (0, 0, 0)).1 ∧ (m.A 19).getD i 0 = nI (cs.getD i (0, 0, 0)).2.1 ∧ (m.A 20).getD i 0 = ow (cs.getD i (0, 0, 0)).2.2
theorem TR.fr {S : List Nat} {m m1 : Mm} {p : Nat} {q : List Tk} (h : TR m p q) (k : Fr S m m1) (h1 : 26 ∉ S) (h2 : 27 ∉ S) (h3 : 28 ∉ S) : TR m1 p q := by
  obtain ⟨a, b, c, e⟩ := h
  refine ⟨by rw [k.f h1]; exact a, by rw [k.f h1]; exact b, c, ?_⟩
  rw [k.a h2, k.a h3]; exact e
theorem CD.fr {S : List Nat} {m m1 : Mm} {cs : List Op} (h : CD m cs) (k : Fr S m m1) (h1 : 17 ∉ S) (h2 : 18 ∉ S) (h3 : 19 ∉ S) (h4 : 20 ∉ S) : CD m1 cs := by
  obtain ⟨a, b, e⟩ := h
  refine ⟨by rw [k.f h1]; exact a, b, ?_⟩
  rw [k.a h2, k.a h3, k.a h4]; exact e
theorem TR.head {m : Mm} {p : Nat} {t : Tk} {q : List Tk} (h : TR m p (t :: q)) : (m.A 27).getD p 0 = nI t.1 ∧ (m.A 28).getD p 0 = nI t.2 ∧ t.1 < 1000 ∧ 0 < t.1 ∧ t.2 < 2 ^ 30 := h.2.2.2 0 (Nat.succ_pos _)
theorem TR.next {m : Mm} {p : Nat} {t : Tk} {q : List Tk} (h : TR m p (t :: q)) : TR (m.uF 26 3 (nI (p + 1))) (p + 1) q := by
  obtain ⟨a, b, c, e⟩ := h
  simp only [List.length_cons] at b c e
  refine ⟨rfl, ?_, by omega, fun i hi => ?_⟩
  · rw [mF_F, if_neg (by decide), b]; congr 1; omega
  · have e1 := e (i + 1) (by omega)
    rw [show p + 1 + i = p + (i + 1) by omega]
    exact e1
theorem TR.le {m : Mm} {p : Nat} {q : List Tk} (h : TR m p q) : p + q.length ≤ 80 := h.2.2.1
theorem c_next {d : Nat} {m : Mm} {K : Option Value → Mm → Prop} {p : Nat} {q : List Tk} (hL : Len m) (h : TR m p q) (k : K (some (.int (nI (hd q)))) m) : WP d 70 [.ref 26] m K := by
  have l1 : (m.A 27).length = 80 := hL.a (by decide) rfl
  have hh := h
  obtain ⟨a, b, c, e⟩ := h
  refine sp_70 ?_
  simp (disch := omega) only [a, b, nIle]
  cases q with
  | nil => rw [if_pos (by simp only [List.length_nil]; omega)]; exact k
  | cons t q =>
    simp only [List.length_cons] at *
    rw [if_neg (by omega), ix_nI (by omega), hh.head.1]
    exact ⟨by rw [l1]; exact ok_nI (by omega) (by decide), k⟩
theorem c_acc {d : Nat} {m : Mm} {K : Option Value → Mm → Prop} {p n : Nat} {q : List Tk} (hL : Len m) (h : TR m p q) (hn : 0 < n) (hn2 : n < 1000) (k : if hd q = n then K (some (.int (nI 1))) (m.uF 26 3 (nI (p + 1))) else K (some (.int (nI 0))) m) : WP d 71 [.ref 26, .int (nI n)] m K := by
  have l1 : (m.A 27).length = 80 := hL.a (by decide) rfl
  have hh := h
  obtain ⟨a, b, c, e⟩ := h
  refine sp_71 _ ?_
  simp (disch := omega) only [a, b, nIle]
  cases q with
  | nil =>
    rw [if_pos (by simp only [List.length_nil]; omega)]
    rw [if_neg (by show ¬ 0 = n; omega)] at k
    exact k
  | cons t q =>
    have h1 := hh.head
    simp only [List.length_cons] at *
    rw [if_neg (by omega), ix_nI (by omega), h1.1]
    refine ⟨by rw [l1]; exact ok_nI (by omega) (by decide), ?_⟩
    simp (disch := omega) only [nIeq, nI_add]
    exact k
theorem c_taken {d : Nat} {m : Mm} {K : Option Value → Mm → Prop} {p : Nat} {x : Int32} (hL : Len m) (h : m.F 26 3 = nI (p + 1)) (hp : p < 80) (hx : (m.A 28).getD p 0 = x) (k : K (some (.int x)) m) : WP d 72 [.ref 26] m K := by
  have l1 : (m.A 28).length = 80 := hL.a (by decide) rfl
  refine sp_72 ?_
  simp (disch := omega) only [h, nIle, nIsub, Nat.add_sub_cancel, ix_nI]
  rw [if_neg (by omega), hx]
  exact ⟨by rw [l1]; exact ok_nI (by omega) (by decide), k⟩
theorem c_add {d : Nat} {m : Mm} {K : Option Value → Mm → Prop} {cs : List Op} {x y o : Nat} (hL : Len m) (h : CD m cs) (hl : cs.length < 80) (k : ∀ m', CD m' (cs ++ [(x, y, o)]) → Fr [17, 18, 19, 20, 21] m m' → K none m') : WP d 47 [.ref 17, .int (nI x), .int (nI y), .int (ow o)] m K := by
  have l1 : (m.A 18).length = 80 := hL.a (by decide) rfl
  have l2 : (m.A 19).length = 80 := hL.a (by decide) rfl
  have l3 : (m.A 20).length = 80 := hL.a (by decide) rfl
  have l4 : (m.A 21).length = 80 := hL.a (by decide) rfl
  obtain ⟨a, b, e⟩ := h
  refine sp_47 _ _ _ ?_
  simp (disch := omega) only [a, nIle, ix_nI, nI_add, l1, l2, l3, l4]
  rw [if_neg (by omega)]
  have ho : ok 80 (nI cs.length) := ok_nI (by omega) (by decide)
  refine ⟨ho, ho, ho, ho, k _ ⟨?_, ?_, ?_⟩ ?_⟩
  · rw [List.length_append]; rfl
  · rw [List.length_append]; exact hl
  · intro i hi
    rw [List.length_append] at hi
    simp only [mA_A, mA_F]
    simp only [List.length_cons, List.length_nil] at hi
    show ((m.A 18).set cs.length (nI x)).getD i 0 = _ ∧ ((m.A 19).set cs.length (nI y)).getD i 0 = _ ∧ ((m.A 20).set cs.length (ow o)).getD i 0 = _
    rw [getD_set _ _ _ _ _ (by omega), getD_set _ _ _ _ _ (by omega), getD_set _ _ _ _ _ (by omega)]
    by_cases hi2 : i = cs.length
    · subst hi2
      have e0 : (cs ++ [(x, y, o)]).getD cs.length (0, 0, 0) = (x, y, o) := by
        rw [List.getD_eq_getElem?_getD, List.getElem?_append_right (Nat.le_refl _), Nat.sub_self]; rfl
      rw [e0, if_pos rfl, if_pos rfl, if_pos rfl]
      exact ⟨rfl, rfl, rfl⟩
    · have e0 : (cs ++ [(x, y, o)]).getD i (0, 0, 0) = cs.getD i (0, 0, 0) := by
        rw [List.getD_eq_getElem?_getD, List.getElem?_append_left (by omega), List.getD_eq_getElem?_getD]
      rw [e0, if_neg hi2, if_neg hi2, if_neg hi2]
      exact e i (by omega)
  · refine Fr.uF (Fr.uA (Fr.uA (Fr.uA (Fr.uA (Fr.refl _ m) (by decide) ?_) (by decide) ?_) (by decide) ?_) (by decide) ?_) (by decide) _ _
    · rw [List.length_set]
    · rw [List.length_set]; rfl
    · rw [List.length_set]; rfl
    · rw [List.length_set]; rfl
theorem c_addOp {d : Nat} {m : Mm} {K : Option Value → Mm → Prop} {cs : List Op} {x : Nat} (hL : Len m) (h : CD m cs) (hl : cs.length < 80) (k : ∀ m', CD m' (cs ++ [opr x]) → Fr [17, 18, 19, 20, 21] m m' → K none m') : WP (d + 1) 46 [.ref 17, .int (nI x)] m K := by
  refine sp_46 _ ?_
  exact c_add (x := x) (y := 0) (o := 0) hL h hl (fun m' h1 h2 => ⟨rfl, k m' h1 h2⟩)
