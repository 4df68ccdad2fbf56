/-! LEXING: the text's meaning as tokens; the class cuts it so (by program in part, wip/whole/gen37.py) -/
def isL (c : Nat) : Bool := decide (97 ≤ c ∧ c ≤ 122)
def isD (c : Nat) : Bool := decide (48 ≤ c ∧ c ≤ 57)
def isS (c : Nat) : Bool := decide ((40 ≤ c ∧ c ≤ 47) ∨ c = 91 ∨ c = 93 ∨ c = 61 ∨ c = 60 ∨ c = 62)
def W0 : List Nat := [99, 114, 101, 97, 116, 101]
def W1 : List Nat := [105, 110, 100, 101, 120]
def W2 : List Nat := [105, 110, 115, 101, 114, 116]
def W3 : List Nat := [117, 112, 100, 97, 116, 101]
def W4 : List Nat := [100, 101, 108, 101, 116, 101]
def W5 : List Nat := [115, 101, 108, 101, 99, 116]
def W6 : List Nat := [102, 114, 111, 109]
def W7 : List Nat := [119, 104, 101, 114, 101]
def W8 : List Nat := [111, 114, 100, 101, 114]
def W9 : List Nat := [100, 101, 115, 99]
def W10 : List Nat := [108, 105, 109, 105, 116]
def W11 : List Nat := [110, 117, 108, 108]
def W12 : List Nat := [111, 114]
def W13 : List Nat := [97, 110, 100]
def W14 : List Nat := [110, 111, 116]
def kw (w : List Nat) : Nat := if w = W0 then 4 else if w = W1 then 5 else if w = W2 then 6 else if w = W3 then 7 else if w = W4 then 8 else if w = W5 then 9 else if w = W6 then 10 else if w = W7 then 11 else if w = W8 then 12 else if w = W9 then 13 else if w = W10 then 14 else if w = W11 then 15 else if w = W12 then 16 else if w = W13 then 17 else if w = W14 then 18 else 19
def kv (w : List Nat) : Int32 := if w = W0 then nI 4 else if w = W1 then nI 5 else if w = W2 then nI 6 else if w = W3 then nI 7 else if w = W4 then nI 8 else if w = W5 then nI 9 else -1
def ki (w : List Nat) : Int32 := if w = W6 then nI 10 else if w = W7 then nI 11 else if w = W8 then nI 12 else if w = W9 then nI 13 else if w = W10 then nI 14 else if w = W11 then nI 15 else if w = W12 then nI 16 else if w = W13 then nI 17 else if w = W14 then nI 18 else -1
def dvl (a : Nat) (ds : List Nat) : Nat := ds.foldl (fun a c => a * 10 + (c - 48)) a
def tokA (s : List Nat) : Option Tk := match s with
  | [] => none
  | c :: r => if isL c = true then (if ((c :: r).takeWhile isL).length = 1 then (if c ≤ 100 then some (3, c - 97) else some (19, 0)) else some (kw ((c :: r).takeWhile isL), 0))
    else if isD c = true then (if ((c :: r).takeWhile isD).length ≤ 9 then some (2, dvl 0 ((c :: r).takeWhile isD)) else none)
    else if 65 ≤ c ∧ c ≤ 67 then some (1, c - 65)
    else if isS c = true then some (c, 0) else none
def tokC (s : List Nat) : Option Tk := match tokA s with | some t => if t.1 = 19 then none else some t | none => none
def goes (p c : Nat) : Bool := (isL c && isL p) || (isD c && isD p)
def lxW (f : List Nat → Option Tk) : Nat → List Nat → Option (List Tk)
  | _, [] => some []
  | p, c :: r => if c = 32 ∨ goes p c = true then lxW f c r else (match f (c :: r) with
    | some t => (match lxW f c r with | some ts => some (t :: ts) | none => none)
    | none => none)
/-- the text that has been typed -/
def TX (q : Nat) (m : Mm) (cl : List Nat) : Prop := cl.length ≤ 80 ∧ (∀ i, i < cl.length → (m.A q).getD i 0 = nI (cl.getD i 0)) ∧ ∀ c, c ∈ cl → 32 ≤ c ∧ c ≤ 126
theorem getD_mem {cl : List Nat} {i : Nat} (h : i < cl.length) : cl.getD i 0 ∈ cl := by
  rw [List.getD_eq_getElem?_getD, List.getElem?_eq_getElem h]
  exact List.getElem_mem h
theorem TX.lt {q : Nat} {m : Mm} {cl : List Nat} (h : TX q m cl) (i : Nat) : cl.getD i 0 < 65536 := by
  by_cases hi : i < cl.length
  · have := h.2.2 _ (getD_mem hi); omega
  · rw [List.getD_eq_getElem?_getD, List.getElem?_eq_none (by omega)]; decide
theorem drop_cons {cl r : List Nat} {n c : Nat} (h : cl.drop n = c :: r) : n < cl.length ∧ cl.getD n 0 = c ∧ cl.drop (n + 1) = r ∧ n + r.length + 1 = cl.length := by
  have hl : cl.length - n = r.length + 1 := by rw [← List.length_drop, h]; rfl
  have hn : n < cl.length := by omega
  refine ⟨hn, ?_, ?_, by omega⟩
  · have h1 : (cl.drop n)[0]? = some c := by rw [h]; rfl
    rw [List.getElem?_drop, Nat.add_zero] at h1
    rw [List.getD_eq_getElem?_getD, h1]; rfl
  · rw [← List.drop_drop, h]; rfl
theorem drop_nil {cl : List Nat} {n : Nat} (h : cl.drop n = []) (hn : n ≤ cl.length) : n = cl.length := by
  have hl : cl.length - n = 0 := by rw [← List.length_drop, h]; rfl
  omega
theorem TX.at {m : Mm} {q : Nat} {cl r : List Nat} {n c : Nat} (h : TX q m cl) (e : cl.drop n = c :: r) : (m.A q).getD n 0 = nI c ∧ 32 ≤ c ∧ c ≤ 126 := by
  obtain ⟨h1, h2, _⟩ := drop_cons e
  refine ⟨by rw [h.2.1 n h1, h2], ?_⟩
  rw [← h2]
  exact h.2.2 _ (getD_mem h1)
theorem c_let {d : Nat} {m : Mm} {K : Option Value → Mm → Prop} {c : Nat} (hc : c < 65536) (k : K (some (.int (bI (isL c = true)))) m) : WP d 73 [.int (nI c)] m K := by
  refine sp_73 _ ?_
  simp (disch := omega) only [nIlt]
  unfold isL at k
  split
  · rw [bI_f (by rw [decide_eq_true_eq]; omega)] at k; exact k
  · split
    · rw [bI_f (by rw [decide_eq_true_eq]; omega)] at k; exact k
    · rw [bI_t (by rw [decide_eq_true_eq]; omega)] at k; exact k
theorem c_dig {d : Nat} {m : Mm} {K : Option Value → Mm → Prop} {c : Nat} (hc : c < 65536) (k : K (some (.int (bI (isD c = true)))) m) : WP d 74 [.int (nI c)] m K := by
  refine sp_74 _ ?_
  simp (disch := omega) only [nIlt]
  unfold isD at k
  split
  · rw [bI_f (by rw [decide_eq_true_eq]; omega)] at k; exact k
  · split
    · rw [bI_f (by rw [decide_eq_true_eq]; omega)] at k; exact k
    · rw [bI_t (by rw [decide_eq_true_eq]; omega)] at k; exact k
theorem c_goes {d : Nat} {m : Mm} {K : Option Value → Mm → Prop} {cl r : List Nat} {i c p : Nat} (hL : Len m) (hX : TX 1 m cl) (hi : cl.drop (i + 1) = c :: r) (hp : cl.getD i 0 = p) (k : K (some (.int (bI (goes p c = true)))) m) : WP (d + 1) 75 [.ref 1, .int (nI (i + 1))] m K := by
  have l1 : (m.A 1).length = 80 := hL.a (by decide) rfl
  obtain ⟨h1, h2, h3⟩ := hX.at hi
  obtain ⟨g1, g2, _⟩ := drop_cons hi
  have h4 : (m.A 1).getD i 0 = nI p := by rw [hX.2.1 i (by omega), hp]
  have h5 := hX.2.2 _ (getD_mem (show i < cl.length by omega))
  rw [hp] at h5
  have hl := hX.1
  refine sp_75 _ ?_
  have ho : ok 80 (nI (i + 1)) := ok_nI (by omega) (by decide)
  have ho' : ok 80 (nI i) := ok_nI (by omega) (by decide)
  simp (disch := omega) only [nIeq, ix_nI, nIsub, Nat.add_sub_cancel, l1, h1, h4]
  rw [if_neg (by omega)]
  have D : ∀ (G : isD c = true → isD p = true → K (some (.int (nI 1))) m) (E : ¬ (isD c = true ∧ isD p = true) → K (some (.int (nI 0))) m), ok 80 (nI (i + 1)) ∧ WP d 74 [.int (nI c)] m (fun v m7 => ∃ w8, v = some (.int w8) ∧ (if w8 = (nI 0) then K (some (.int (nI 0))) m7 else ok (m7.A 1).length (nI i) ∧ WP d 74 [.int ((m7.A 1).getD i 0)] m7 (fun v m11 => ∃ w12, v = some (.int w12) ∧ (if w12 = (nI 0) then K (some (.int (nI 0))) m11 else K (some (.int (nI 1))) m11)))) := by
    intro G E
    refine ⟨ho, c_dig (by omega) ⟨_, rfl, ?_⟩⟩
    simp only [bI_0]
    split
    · next q => exact E (fun z => q z.1)
    · next q =>
      rw [l1, h4]
      refine ⟨ho', c_dig (by omega) ⟨_, rfl, ?_⟩⟩
      simp only [bI_0]
      split
      · next q2 => exact E (fun z => q2 z.2)
      · next q2 => exact G (Classical.byContradiction q) (Classical.byContradiction q2)
  have R1 : goes p c = true → K (some (.int (nI 1))) m := fun q => by rw [bI_t q] at k; exact k
  have R0 : ¬ goes p c = true → K (some (.int (nI 0))) m := fun q => by rw [bI_f q] at k; exact k
  have U : goes p c = true ↔ (isL c = true ∧ isL p = true) ∨ (isD c = true ∧ isD p = true) := by
    unfold goes
    rw [Bool.or_eq_true, Bool.and_eq_true, Bool.and_eq_true]
  refine ⟨ho, c_let (by omega) ⟨_, rfl, ?_⟩⟩
  simp only [bI_0]
  split
  · next q =>
    have q : ¬ isL c = true := q
    rw [l1, h1]
    exact D (fun a b => R1 (U.mpr (Or.inr ⟨a, b⟩))) (fun z => R0 (fun y => by rcases U.mp y with y | y; exact q y.1; exact z y))
  · next q =>
    have q : isL c = true := Classical.byContradiction q
    rw [l1, h4]
    refine ⟨ho', c_let (by omega) ⟨_, rfl, ?_⟩⟩
    simp only [bI_0]
    split
    · next q2 =>
      have q2 : ¬ isL p = true := q2
      rw [l1, h1]
      exact D (fun a b => R1 (U.mpr (Or.inr ⟨a, b⟩))) (fun z => R0 (fun y => by rcases U.mp y with y | y; exact q2 y.2; exact z y))
    · next q2 => exact R1 (U.mpr (Or.inl ⟨q, Classical.byContradiction q2⟩))
theorem c_sp_0 {d : Nat} {m : Mm} {K : Option Value → Mm → Prop} {cl : List Nat} {f e : Nat} (hd : 10 ≤ d) (hL : Len m) (hX : TX 1 m cl) (hf : f ≤ e) (he : e ≤ cl.length) (k : K (some (.int (bI ((cl.drop f).take (e - f) = W0)))) m) : WP d 82 [.ref 1, .int (nI f), .int (nI e), .float 1] m K :=
  (WP_run (c_spells_0 _ _ (m.A 1) cl f e (fun i => hX.lt i) (hL.a (by decide) rfl) hX.1 hX.2.1 hf he) k).up hd
theorem c_sp_1 {d : Nat} {m : Mm} {K : Option Value → Mm → Prop} {cl : List Nat} {f e : Nat} (hd : 10 ≤ d) (hL : Len m) (hX : TX 1 m cl) (hf : f ≤ e) (he : e ≤ cl.length) (k : K (some (.int (bI ((cl.drop f).take (e - f) = W1)))) m) : WP d 82 [.ref 1, .int (nI f), .int (nI e), .float 3] m K :=
  (WP_run (c_spells_1 _ _ (m.A 1) cl f e (fun i => hX.lt i) (hL.a (by decide) rfl) hX.1 hX.2.1 hf he) k).up hd
theorem c_sp_2 {d : Nat} {m : Mm} {K : Option Value → Mm → Prop} {cl : List Nat} {f e : Nat} (hd : 10 ≤ d) (hL : Len m) (hX : TX 1 m cl) (hf : f ≤ e) (he : e ≤ cl.length) (k : K (some (.int (bI ((cl.drop f).take (e - f) = W2)))) m) : WP d 82 [.ref 1, .int (nI f), .int (nI e), .float 5] m K :=
  (WP_run (c_spells_2 _ _ (m.A 1) cl f e (fun i => hX.lt i) (hL.a (by decide) rfl) hX.1 hX.2.1 hf he) k).up hd
theorem c_sp_3 {d : Nat} {m : Mm} {K : Option Value → Mm → Prop} {cl : List Nat} {f e : Nat} (hd : 10 ≤ d) (hL : Len m) (hX : TX 1 m cl) (hf : f ≤ e) (he : e ≤ cl.length) (k : K (some (.int (bI ((cl.drop f).take (e - f) = W3)))) m) : WP d 82 [.ref 1, .int (nI f), .int (nI e), .float 7] m K :=
  (WP_run (c_spells_3 _ _ (m.A 1) cl f e (fun i => hX.lt i) (hL.a (by decide) rfl) hX.1 hX.2.1 hf he) k).up hd
theorem c_sp_4 {d : Nat} {m : Mm} {K : Option Value → Mm → Prop} {cl : List Nat} {f e : Nat} (hd : 10 ≤ d) (hL : Len m) (hX : TX 1 m cl) (hf : f ≤ e) (he : e ≤ cl.length) (k : K (some (.int (bI ((cl.drop f).take (e - f) = W4)))) m) : WP d 82 [.ref 1, .int (nI f), .int (nI e), .float 9] m K :=
  (WP_run (c_spells_4 _ _ (m.A 1) cl f e (fun i => hX.lt i) (hL.a (by decide) rfl) hX.1 hX.2.1 hf he) k).up hd
theorem c_sp_5 {d : Nat} {m : Mm} {K : Option Value → Mm → Prop} {cl : List Nat} {f e : Nat} (hd : 10 ≤ d) (hL : Len m) (hX : TX 1 m cl) (hf : f ≤ e) (he : e ≤ cl.length) (k : K (some (.int (bI ((cl.drop f).take (e - f) = W5)))) m) : WP d 82 [.ref 1, .int (nI f), .int (nI e), .float 11] m K :=
  (WP_run (c_spells_5 _ _ (m.A 1) cl f e (fun i => hX.lt i) (hL.a (by decide) rfl) hX.1 hX.2.1 hf he) k).up hd
theorem c_sp_6 {d : Nat} {m : Mm} {K : Option Value → Mm → Prop} {cl : List Nat} {f e : Nat} (hd : 10 ≤ d) (hL : Len m) (hX : TX 1 m cl) (hf : f ≤ e) (he : e ≤ cl.length) (k : K (some (.int (bI ((cl.drop f).take (e - f) = W6)))) m) : WP d 82 [.ref 1, .int (nI f), .int (nI e), .float 13] m K :=
  (WP_run (c_spells_6 _ _ (m.A 1) cl f e (fun i => hX.lt i) (hL.a (by decide) rfl) hX.1 hX.2.1 hf he) k).up hd
theorem c_sp_7 {d : Nat} {m : Mm} {K : Option Value → Mm → Prop} {cl : List Nat} {f e : Nat} (hd : 10 ≤ d) (hL : Len m) (hX : TX 1 m cl) (hf : f ≤ e) (he : e ≤ cl.length) (k : K (some (.int (bI ((cl.drop f).take (e - f) = W7)))) m) : WP d 82 [.ref 1, .int (nI f), .int (nI e), .float 15] m K :=
  (WP_run (c_spells_7 _ _ (m.A 1) cl f e (fun i => hX.lt i) (hL.a (by decide) rfl) hX.1 hX.2.1 hf he) k).up hd
theorem c_sp_8 {d : Nat} {m : Mm} {K : Option Value → Mm → Prop} {cl : List Nat} {f e : Nat} (hd : 10 ≤ d) (hL : Len m) (hX : TX 1 m cl) (hf : f ≤ e) (he : e ≤ cl.length) (k : K (some (.int (bI ((cl.drop f).take (e - f) = W8)))) m) : WP d 82 [.ref 1, .int (nI f), .int (nI e), .float 17] m K :=
  (WP_run (c_spells_8 _ _ (m.A 1) cl f e (fun i => hX.lt i) (hL.a (by decide) rfl) hX.1 hX.2.1 hf he) k).up hd
theorem c_sp_9 {d : Nat} {m : Mm} {K : Option Value → Mm → Prop} {cl : List Nat} {f e : Nat} (hd : 10 ≤ d) (hL : Len m) (hX : TX 1 m cl) (hf : f ≤ e) (he : e ≤ cl.length) (k : K (some (.int (bI ((cl.drop f).take (e - f) = W9)))) m) : WP d 82 [.ref 1, .int (nI f), .int (nI e), .float 19] m K :=
  (WP_run (c_spells_9 _ _ (m.A 1) cl f e (fun i => hX.lt i) (hL.a (by decide) rfl) hX.1 hX.2.1 hf he) k).up hd
theorem c_sp_10 {d : Nat} {m : Mm} {K : Option Value → Mm → Prop} {cl : List Nat} {f e : Nat} (hd : 10 ≤ d) (hL : Len m) (hX : TX 1 m cl) (hf : f ≤ e) (he : e ≤ cl.length) (k : K (some (.int (bI ((cl.drop f).take (e - f) = W10)))) m) : WP d 82 [.ref 1, .int (nI f), .int (nI e), .float 21] m K :=
  (WP_run (c_spells_10 _ _ (m.A 1) cl f e (fun i => hX.lt i) (hL.a (by decide) rfl) hX.1 hX.2.1 hf he) k).up hd
theorem c_sp_11 {d : Nat} {m : Mm} {K : Option Value → Mm → Prop} {cl : List Nat} {f e : Nat} (hd : 10 ≤ d) (hL : Len m) (hX : TX 1 m cl) (hf : f ≤ e) (he : e ≤ cl.length) (k : K (some (.int (bI ((cl.drop f).take (e - f) = W11)))) m) : WP d 82 [.ref 1, .int (nI f), .int (nI e), .float 23] m K :=
  (WP_run (c_spells_11 _ _ (m.A 1) cl f e (fun i => hX.lt i) (hL.a (by decide) rfl) hX.1 hX.2.1 hf he) k).up hd
theorem c_sp_12 {d : Nat} {m : Mm} {K : Option Value → Mm → Prop} {cl : List Nat} {f e : Nat} (hd : 10 ≤ d) (hL : Len m) (hX : TX 1 m cl) (hf : f ≤ e) (he : e ≤ cl.length) (k : K (some (.int (bI ((cl.drop f).take (e - f) = W12)))) m) : WP d 82 [.ref 1, .int (nI f), .int (nI e), .float 25] m K :=
  (WP_run (c_spells_12 _ _ (m.A 1) cl f e (fun i => hX.lt i) (hL.a (by decide) rfl) hX.1 hX.2.1 hf he) k).up hd
theorem c_sp_13 {d : Nat} {m : Mm} {K : Option Value → Mm → Prop} {cl : List Nat} {f e : Nat} (hd : 10 ≤ d) (hL : Len m) (hX : TX 1 m cl) (hf : f ≤ e) (he : e ≤ cl.length) (k : K (some (.int (bI ((cl.drop f).take (e - f) = W13)))) m) : WP d 82 [.ref 1, .int (nI f), .int (nI e), .float 27] m K :=
  (WP_run (c_spells_13 _ _ (m.A 1) cl f e (fun i => hX.lt i) (hL.a (by decide) rfl) hX.1 hX.2.1 hf he) k).up hd
theorem c_sp_14 {d : Nat} {m : Mm} {K : Option Value → Mm → Prop} {cl : List Nat} {f e : Nat} (hd : 10 ≤ d) (hL : Len m) (hX : TX 1 m cl) (hf : f ≤ e) (he : e ≤ cl.length) (k : K (some (.int (bI ((cl.drop f).take (e - f) = W14)))) m) : WP d 82 [.ref 1, .int (nI f), .int (nI e), .float 29] m K :=
  (WP_run (c_spells_14 _ _ (m.A 1) cl f e (fun i => hX.lt i) (hL.a (by decide) rfl) hX.1 hX.2.1 hf he) k).up hd
theorem c_80 {d : Nat} {m : Mm} {K : Option Value → Mm → Prop} {cl w : List Nat} {f e : Nat} (hd : 10 ≤ d) (hL : Len m) (hX : TX 1 m cl) (hf : f ≤ e) (he : e ≤ cl.length) (hw : (cl.drop f).take (e - f) = w) (k : K (some (.int (kv w))) m) : WP (d + 1) 80 [.ref 1, .int (nI f), .int (nI e)] m K := by
  refine sp_80 _ _ ?_
  unfold kv at k
  refine c_sp_0 hd hL hX hf he ⟨_, rfl, ?_⟩
  simp only [bI_0]
  by_cases q0 : (cl.drop f).take (e - f) = W0
  · rw [if_neg (fun z => z q0)]
    rw [hw] at q0
    rw [if_pos q0] at k
    exact k
  rw [if_pos q0]
  rw [hw] at q0
  refine c_sp_1 hd hL hX hf he ⟨_, rfl, ?_⟩
  simp only [bI_0]
  by_cases q1 : (cl.drop f).take (e - f) = W1
  · rw [if_neg (fun z => z q1)]
    rw [hw] at q1
    rw [if_neg q0, if_pos q1] at k
    exact k
  rw [if_pos q1]
  rw [hw] at q1
  refine c_sp_2 hd hL hX hf he ⟨_, rfl, ?_⟩
  simp only [bI_0]
  by_cases q2 : (cl.drop f).take (e - f) = W2
  · rw [if_neg (fun z => z q2)]
    rw [hw] at q2
    rw [if_neg q0, if_neg q1, if_pos q2] at k
    exact k
  rw [if_pos q2]
  rw [hw] at q2
  refine c_sp_3 hd hL hX hf he ⟨_, rfl, ?_⟩
  simp only [bI_0]
  by_cases q3 : (cl.drop f).take (e - f) = W3
  · rw [if_neg (fun z => z q3)]
    rw [hw] at q3
    rw [if_neg q0, if_neg q1, if_neg q2, if_pos q3] at k
    exact k
  rw [if_pos q3]
  rw [hw] at q3
  refine c_sp_4 hd hL hX hf he ⟨_, rfl, ?_⟩
  simp only [bI_0]
  by_cases q4 : (cl.drop f).take (e - f) = W4
  · rw [if_neg (fun z => z q4)]
    rw [hw] at q4
    rw [if_neg q0, if_neg q1, if_neg q2, if_neg q3, if_pos q4] at k
    exact k
  rw [if_pos q4]
  rw [hw] at q4
  refine c_sp_5 hd hL hX hf he ⟨_, rfl, ?_⟩
  simp only [bI_0]
  by_cases q5 : (cl.drop f).take (e - f) = W5
  · rw [if_neg (fun z => z q5)]
    rw [hw] at q5
    rw [if_neg q0, if_neg q1, if_neg q2, if_neg q3, if_neg q4, if_pos q5] at k
    exact k
  rw [if_pos q5]
  rw [hw] at q5
  rw [if_neg q0, if_neg q1, if_neg q2, if_neg q3, if_neg q4, if_neg q5] at k
  exact k
theorem c_81 {d : Nat} {m : Mm} {K : Option Value → Mm → Prop} {cl w : List Nat} {f e : Nat} (hd : 10 ≤ d) (hL : Len m) (hX : TX 1 m cl) (hf : f ≤ e) (he : e ≤ cl.length) (hw : (cl.drop f).take (e - f) = w) (k : K (some (.int (ki w))) m) : WP (d + 1) 81 [.ref 1, .int (nI f), .int (nI e)] m K := by
  refine sp_81 _ _ ?_
  unfold ki at k
  refine c_sp_6 hd hL hX hf he ⟨_, rfl, ?_⟩
  simp only [bI_0]
  by_cases q6 : (cl.drop f).take (e - f) = W6
  · rw [if_neg (fun z => z q6)]
    rw [hw] at q6
    rw [if_pos q6] at k
    exact k
  rw [if_pos q6]
  rw [hw] at q6
  refine c_sp_7 hd hL hX hf he ⟨_, rfl, ?_⟩
  simp only [bI_0]
  by_cases q7 : (cl.drop f).take (e - f) = W7
  · rw [if_neg (fun z => z q7)]
    rw [hw] at q7
    rw [if_neg q6, if_pos q7] at k
    exact k
  rw [if_pos q7]
  rw [hw] at q7
  refine c_sp_8 hd hL hX hf he ⟨_, rfl, ?_⟩
  simp only [bI_0]
  by_cases q8 : (cl.drop f).take (e - f) = W8
  · rw [if_neg (fun z => z q8)]
    rw [hw] at q8
    rw [if_neg q6, if_neg q7, if_pos q8] at k
    exact k
  rw [if_pos q8]
  rw [hw] at q8
  refine c_sp_9 hd hL hX hf he ⟨_, rfl, ?_⟩
  simp only [bI_0]
  by_cases q9 : (cl.drop f).take (e - f) = W9
  · rw [if_neg (fun z => z q9)]
    rw [hw] at q9
    rw [if_neg q6, if_neg q7, if_neg q8, if_pos q9] at k
    exact k
  rw [if_pos q9]
  rw [hw] at q9
  refine c_sp_10 hd hL hX hf he ⟨_, rfl, ?_⟩
  simp only [bI_0]
  by_cases q10 : (cl.drop f).take (e - f) = W10
  · rw [if_neg (fun z => z q10)]
    rw [hw] at q10
    rw [if_neg q6, if_neg q7, if_neg q8, if_neg q9, if_pos q10] at k
    exact k
  rw [if_pos q10]
  rw [hw] at q10
  refine c_sp_11 hd hL hX hf he ⟨_, rfl, ?_⟩
  simp only [bI_0]
  by_cases q11 : (cl.drop f).take (e - f) = W11
  · rw [if_neg (fun z => z q11)]
    rw [hw] at q11
    rw [if_neg q6, if_neg q7, if_neg q8, if_neg q9, if_neg q10, if_pos q11] at k
    exact k
  rw [if_pos q11]
  rw [hw] at q11
  refine c_sp_12 hd hL hX hf he ⟨_, rfl, ?_⟩
  simp only [bI_0]
  by_cases q12 : (cl.drop f).take (e - f) = W12
  · rw [if_neg (fun z => z q12)]
    rw [hw] at q12
    rw [if_neg q6, if_neg q7, if_neg q8, if_neg q9, if_neg q10, if_neg q11, if_pos q12] at k
    exact k
  rw [if_pos q12]
  rw [hw] at q12
  refine c_sp_13 hd hL hX hf he ⟨_, rfl, ?_⟩
  simp only [bI_0]
  by_cases q13 : (cl.drop f).take (e - f) = W13
  · rw [if_neg (fun z => z q13)]
    rw [hw] at q13
    rw [if_neg q6, if_neg q7, if_neg q8, if_neg q9, if_neg q10, if_neg q11, if_neg q12, if_pos q13] at k
    exact k
  rw [if_pos q13]
  rw [hw] at q13
  refine c_sp_14 hd hL hX hf he ⟨_, rfl, ?_⟩
  simp only [bI_0]
  by_cases q14 : (cl.drop f).take (e - f) = W14
  · rw [if_neg (fun z => z q14)]
    rw [hw] at q14
    rw [if_neg q6, if_neg q7, if_neg q8, if_neg q9, if_neg q10, if_neg q11, if_neg q12, if_neg q13, if_pos q14] at k
    exact k
  rw [if_pos q14]
  rw [hw] at q14
  rw [if_neg q6, if_neg q7, if_neg q8, if_neg q9, if_neg q10, if_neg q11, if_neg q12, if_neg q13, if_neg q14] at k
  exact k
theorem getD_snoc2 {α : Type} (l : List α) (x z : α) (i : Nat) : (l ++ [x]).getD i z = if i = l.length then x else l.getD i z := by
  rw [List.getD_eq_getElem?_getD, List.getD_eq_getElem?_getD]
  by_cases h : i = l.length
  · subst h
    rw [if_pos rfl, List.getElem?_append_right (Nat.le_refl _), Nat.sub_self]; rfl
  · rw [if_neg h]
    by_cases h2 : i < l.length
    · rw [List.getElem?_append_left h2]
    · rw [List.getElem?_eq_none (by rw [List.length_append, List.length_cons, List.length_nil]; omega), List.getElem?_eq_none (by omega)]
/-! the tokens as they are noted -/
def TB (m : Mm) (ts : List Tk) : Prop := m.F 26 3 = nI 0 ∧ m.F 26 2 = nI ts.length ∧ ts.length ≤ 80 ∧ ∀ i, i < ts.length → (m.A 27).getD i 0 = nI (ts.getD i (0, 0)).1 ∧ (m.A 28).getD i 0 = nI (ts.getD i (0, 0)).2 ∧ (ts.getD i (0, 0)).1 < 1000 ∧ 0 < (ts.getD i (0, 0)).1 ∧ (ts.getD i (0, 0)).2 < 2 ^ 30
theorem TB.tn {m : Mm} {ts : List Tk} (h : TB m ts) : TN m ts.length ts := by
  obtain ⟨a, b, c, e⟩ := h
  refine ⟨Nat.le_refl _, ?_⟩
  rw [Nat.sub_self]
  refine ⟨a, by rw [Nat.zero_add]; exact b, by omega, fun i hi => ?_⟩
  rw [Nat.zero_add]
  exact e i hi
def SK : List Nat := [26, 27, 28]
theorem c_keep {d : Nat} {m : Mm} {K : Option Value → Mm → Prop} {ts : List Tk} {x y : Nat} (hL : Len m) (h : TB m ts) (hl : ts.length < 80) (h1 : x < 1000) (h2 : 0 < x) (h3 : y < 2 ^ 30) (k : ∀ m', TB m' (ts ++ [(x, y)]) → Fr SK m m' → K (some (.int (nI 1))) m') : WP d 79 [.ref 26, .int (nI x), .int (nI y)] m K := by
  have l1 : (m.A 27).length = 80 := hL.a (by decide) rfl
  have l2 : (m.A 28).length = 80 := hL.a (by decide) rfl
  obtain ⟨z, a, b, e⟩ := h
  refine sp_79 _ _ ?_
  simp (disch := omega) only [a, nIlt, ix_nI, nI_add, l1, l2]
  rw [if_pos hl]
  have ho : ok 80 (nI ts.length) := ok_nI (by omega) (by decide)
  refine ⟨ho, ho, k _ ⟨?_, ?_, ?_, ?_⟩ ?_⟩
  · rw [mF_F, if_neg (by decide)]; exact z
  · rw [List.length_append]; rfl
  · rw [List.length_append]; exact hl
  · intro i hi
    rw [List.length_append, List.length_cons, List.length_nil] at hi
    show ((m.A 27).set ts.length (nI x)).getD i 0 = _ ∧ ((m.A 28).set ts.length (nI y)).getD i 0 = _ ∧ _
    rw [getD_set _ _ _ _ _ (by omega), getD_set _ _ _ _ _ (by omega), getD_snoc2]
    by_cases hi2 : i = ts.length
    · rw [if_pos hi2, if_pos hi2, if_pos hi2]
      exact ⟨rfl, rfl, h1, h2, h3⟩
    · rw [if_neg hi2, if_neg hi2, if_neg hi2]
      exact e i (by omega)
  · refine Fr.uF (Fr.uA (Fr.uA (Fr.refl _ m) (by decide) ?_) (by decide) ?_) (by decide) _ _
    · rw [List.length_set]
    · rw [List.length_set]; rfl
/-- behind a token's noting -/
def KPost (m : Mm) (ts : List Tk) (x : Option Tk) (K : Option Value → Mm → Prop) : Prop := match x with
  | some t => ∀ m', TB m' (ts ++ [t]) → Fr SK m m' → K (some (.int (nI 1))) m'
  | none => K (some (.int (nI 0))) m
theorem dvl_lt : ∀ (ds : List Nat) (a : Nat), (∀ c, c ∈ ds → 48 ≤ c ∧ c ≤ 57) → dvl a ds < (a + 1) * 10 ^ ds.length
  | [], a, _ => by show a < (a + 1) * 1; omega
  | c :: r, a, h => by
    have h1 := h c List.mem_cons_self
    have h2 := dvl_lt r (a * 10 + (c - 48)) (fun x hx => h x (List.mem_cons_of_mem _ hx))
    show dvl (a * 10 + (c - 48)) r < (a + 1) * 10 ^ (r.length + 1)
    refine Nat.lt_of_lt_of_le h2 ?_
    rw [Nat.pow_succ, Nat.mul_comm (10 ^ r.length) 10, ← Nat.mul_assoc]
    exact Nat.mul_le_mul_right _ (by omega)
theorem tw_mem {P : Nat → Bool} : ∀ (s : List Nat) (c : Nat), c ∈ s.takeWhile P → P c = true
  | [], c, h => by cases h
  | a :: r, c, h => by
    rw [List.takeWhile_cons] at h
    cases hp : P a with
    | false => rw [hp] at h; cases h
    | true =>
      rw [hp] at h
      rcases List.mem_cons.mp h with h | h
      · rw [h]; exact hp
      · exact tw_mem r c h
theorem tw_len {P : Nat → Bool} : ∀ (s : List Nat), s.take (s.takeWhile P).length = s.takeWhile P
  | [] => rfl
  | a :: r => by
    rw [List.takeWhile_cons]
    cases hp : P a with
    | false => rfl
    | true =>
      show (a :: r).take ((r.takeWhile P).length + 1) = a :: r.takeWhile P
      rw [List.take_succ_cons, tw_len r]
theorem tw_le {P : Nat → Bool} (s : List Nat) : (s.takeWhile P).length ≤ s.length := by
  have := congrArg List.length (tw_len (P := P) s)
  rw [List.length_take] at this
  omega
theorem c_77 {d : Nat} {m : Mm} {K : Option Value → Mm → Prop} {cl s : List Nat} {ts : List Tk} {f : Nat} (hL : Len m) (hX : TX 1 m cl) (hB : TB m ts) (hl : ts.length < 80) (hs : cl.drop f = s) (hf : f ≤ cl.length) (k : KPost m ts (if (s.takeWhile isD).length ≤ 9 then some (2, dvl 0 (s.takeWhile isD)) else none) K) : WP (d + 1) 77 [.ref 26, .ref 1, .int (nI f), .int (nI cl.length)] m K := by
  have l1 : (m.A 1).length = 80 := hL.a (by decide) rfl
  have hcl := hX.1
  refine sp_77 _ _ ?_
  have E : ∀ n, n = (s.takeWhile isD).length → n ≤ 80 → (if (nI 9) < nI n then K (some (.int (nI 0))) m else WP d 79 [.ref 26, .int (nI 2), .int (nI (dvl 0 (s.takeWhile isD)))] m (fun v m3 => ∃ w4, v = some (.int w4) ∧ (if w4 = (nI 0) then K (some (.int (nI 0))) m3 else K (some (.int (nI 1))) m3))) := by
    intro n hn hn2
    simp (disch := omega) only [nIlt]
    split
    · next q =>
      rw [if_neg (by omega)] at k; exact k
    · next q =>
      rw [if_pos (by omega)] at k
      have hv : dvl 0 (s.takeWhile isD) < 2 ^ 30 := by
        have h1 := dvl_lt (s.takeWhile isD) 0 (fun c hc => by have := tw_mem _ _ hc; unfold isD at this; exact of_decide_eq_true this)
        have h2 : 10 ^ (s.takeWhile isD).length ≤ 10 ^ 9 := Nat.pow_le_pow_right (by decide) (by omega)
        omega
      refine c_keep hL hB hl (by decide) (by decide) hv (fun m' h1 h2 => ⟨_, rfl, ?_⟩)
      rw [if_neg (by decide)]
      exact k m' h1 h2
  have L : ∀ (r : List Nat) (to a : Nat), cl.drop to = r → to ≤ cl.length → f ≤ to → dvl a (r.takeWhile isD) = dvl 0 (s.takeWhile isD) → to - f + (r.takeWhile isD).length = (s.takeWhile isD).length → WH (d + 1) 77 6 [(0, .ref 26), (1, .ref 1), (2, .int (nI f)), (3, .int (nI cl.length)), (4, .int (nI a)), (5, .int (nI to))] [] m K := by
    intro r
    induction r with
    | nil =>
      intro to a h1 h2 h3 h4 h5
      have h6 := drop_nil h1 h2
      refine sg_77_6 _ _ _ _ ?_
      simp (disch := omega) only [nIle, nIsub]
      rw [if_pos (by omega)]
      have e := E (to - f) (by rw [← h5]; rfl) (by omega)
      rw [← h4] at e
      exact e
    | cons c r ih =>
      intro to a h1 h2 h3 h4 h5
      obtain ⟨g1, g2, g3, g4⟩ := drop_cons h1
      obtain ⟨b1, b2, b3⟩ := hX.at h1
      have ho : ok 80 (nI to) := ok_nI (by omega) (by decide)
      refine sg_77_6 _ _ _ _ ?_
      simp (disch := omega) only [nIle, nIsub, ix_nI, l1, b1]
      rw [if_neg (by omega)]
      refine ⟨ho, c_dig (by omega) ⟨_, rfl, ?_⟩⟩
      simp only [bI_0]
      rw [List.takeWhile_cons] at h4 h5
      cases hc : isD c with
      | false =>
        rw [hc] at h4 h5
        rw [if_pos (by decide)]
        have e := E (to - f) (by rw [← h5]; rfl) (by omega)
        rw [← h4] at e
        exact e
      | true =>
        rw [hc] at h4 h5
        rw [if_neg (by decide), l1, b1]
        have hc2 : 48 ≤ c ∧ c ≤ 57 := by unfold isD at hc; exact of_decide_eq_true hc
        refine ⟨ho, ?_⟩
        rw [pk_mul, nIsub hc2.1, nI_add, nI_add]
        refine ih (to + 1) (a * 10 + (c - 48)) g3 (by omega) (by omega) h4 ?_
        rw [← h5]
        show to + 1 - f + (r.takeWhile isD).length = to - f + ((r.takeWhile isD).length + 1)
        omega
  exact L s f 0 hs hf (Nat.le_refl f) rfl (by omega)
theorem kv_ki (w : List Nat) (x : Int32) (hx : x = if kv w = (-1) then ki w else kv w) : x = (if kw w = 19 then (-1) else nI (kw w)) ∧ (kw w ≠ 19 → 0 < kw w ∧ kw w < 19) := by
  subst hx
  unfold kv ki kw
  by_cases q0 : w = W0
  · rw [if_pos q0, if_pos q0]; exact ⟨rfl, fun _ => by decide⟩
  by_cases q1 : w = W1
  · simp only [if_neg q0, if_pos q1]; exact ⟨rfl, fun _ => by decide⟩
  by_cases q2 : w = W2
  · simp only [if_neg q0, if_neg q1, if_pos q2]; exact ⟨rfl, fun _ => by decide⟩
  by_cases q3 : w = W3
  · simp only [if_neg q0, if_neg q1, if_neg q2, if_pos q3]; exact ⟨rfl, fun _ => by decide⟩
  by_cases q4 : w = W4
  · simp only [if_neg q0, if_neg q1, if_neg q2, if_neg q3, if_pos q4]; exact ⟨rfl, fun _ => by decide⟩
  by_cases q5 : w = W5
  · simp only [if_neg q0, if_neg q1, if_neg q2, if_neg q3, if_neg q4, if_pos q5]; exact ⟨rfl, fun _ => by decide⟩
  by_cases q6 : w = W6
  · simp only [if_neg q0, if_neg q1, if_neg q2, if_neg q3, if_neg q4, if_neg q5, if_pos q6]; exact ⟨rfl, fun _ => by decide⟩
  by_cases q7 : w = W7
  · simp only [if_neg q0, if_neg q1, if_neg q2, if_neg q3, if_neg q4, if_neg q5, if_neg q6, if_pos q7]; exact ⟨rfl, fun _ => by decide⟩
  by_cases q8 : w = W8
  · simp only [if_neg q0, if_neg q1, if_neg q2, if_neg q3, if_neg q4, if_neg q5, if_neg q6, if_neg q7, if_pos q8]; exact ⟨rfl, fun _ => by decide⟩
  by_cases q9 : w = W9
  · simp only [if_neg q0, if_neg q1, if_neg q2, if_neg q3, if_neg q4, if_neg q5, if_neg q6, if_neg q7, if_neg q8, if_pos q9]; exact ⟨rfl, fun _ => by decide⟩
  by_cases q10 : w = W10
  · simp only [if_neg q0, if_neg q1, if_neg q2, if_neg q3, if_neg q4, if_neg q5, if_neg q6, if_neg q7, if_neg q8, if_neg q9, if_pos q10]; exact ⟨rfl, fun _ => by decide⟩
  by_cases q11 : w = W11
  · simp only [if_neg q0, if_neg q1, if_neg q2, if_neg q3, if_neg q4, if_neg q5, if_neg q6, if_neg q7, if_neg q8, if_neg q9, if_neg q10, if_pos q11]; exact ⟨rfl, fun _ => by decide⟩
  by_cases q12 : w = W12
  · simp only [if_neg q0, if_neg q1, if_neg q2, if_neg q3, if_neg q4, if_neg q5, if_neg q6, if_neg q7, if_neg q8, if_neg q9, if_neg q10, if_neg q11, if_pos q12]; exact ⟨rfl, fun _ => by decide⟩
  by_cases q13 : w = W13
  · simp only [if_neg q0, if_neg q1, if_neg q2, if_neg q3, if_neg q4, if_neg q5, if_neg q6, if_neg q7, if_neg q8, if_neg q9, if_neg q10, if_neg q11, if_neg q12, if_pos q13]; exact ⟨rfl, fun _ => by decide⟩
  by_cases q14 : w = W14
  · simp only [if_neg q0, if_neg q1, if_neg q2, if_neg q3, if_neg q4, if_neg q5, if_neg q6, if_neg q7, if_neg q8, if_neg q9, if_neg q10, if_neg q11, if_neg q12, if_neg q13, if_pos q14]; exact ⟨rfl, fun _ => by decide⟩
  simp only [if_neg q0, if_neg q1, if_neg q2, if_neg q3, if_neg q4, if_neg q5, if_neg q6, if_neg q7, if_neg q8, if_neg q9, if_neg q10, if_neg q11, if_neg q12, if_neg q13, if_neg q14]
  exact ⟨rfl, fun h => absurd rfl h⟩
theorem c_78 {d : Nat} {m : Mm} {K : Option Value → Mm → Prop} {cl r : List Nat} {ts : List Tk} {f c : Nat} (hd : 11 ≤ d) (hL : Len m) (hX : TX 1 m cl) (hB : TB m ts) (hl : ts.length < 80) (hs : cl.drop f = c :: r) (hc : isL c = true) (k : KPost m ts (tokC (c :: r)) K) : WP (d + 1) 78 [.ref 26, .ref 1, .int (nI f), .int (nI cl.length)] m K := by
  have l1 : (m.A 1).length = 80 := hL.a (by decide) rfl
  have hcl := hX.1
  obtain ⟨hf, hcf, _, _⟩ := drop_cons hs
  obtain ⟨b1, b2, b3⟩ := hX.at hs
  have hc2 : 97 ≤ c ∧ c ≤ 122 := by unfold isL at hc; exact of_decide_eq_true hc
  have ht : tokA (c :: r) = if ((c :: r).takeWhile isL).length = 1 then (if c ≤ 100 then some (3, c - 97) else some (19, 0)) else some (kw ((c :: r).takeWhile isL), 0) := if_pos hc
  obtain ⟨d, rfl⟩ : ∃ d0, d = d0 + 1 := ⟨d - 1, by omega⟩
  refine sp_78 _ _ ?_
  have E : ∀ to, f ≤ to → to ≤ cl.length → to - f = ((c :: r).takeWhile isL).length → WH (d + 2) 78 25 [(0, .ref 26), (1, .ref 1), (2, .int (nI f)), (4, .int (nI to))] [] m K := by
    intro to h1 h2 h3
    have ho : ok 80 (nI f) := ok_nI (by omega) (by decide)
    refine sg_78_25 _ _ ?_
    simp (disch := omega) only [nIsub, nIeq, ix_nI, l1, b1, nIlt]
    unfold tokC at k
    rw [ht] at k
    split
    · next q =>
      rw [if_pos (by omega)] at k
      refine ⟨ho, ?_⟩
      split
      · next q2 =>
        rw [if_neg (by omega)] at k
        exact sg_78_59 k
      · next q2 =>
        rw [if_pos (by omega)] at k
        refine ⟨ho, c_keep hL hB hl (by decide) (by decide) (by omega) (fun m' g1 g2 => ⟨_, rfl, ?_⟩)⟩
        rw [if_neg (by decide)]
        exact k m' g1 g2
    · next q =>
      rw [if_neg (by omega)] at k
      have hw : (cl.drop f).take (to - f) = (c :: r).takeWhile isL := by rw [hs, h3, tw_len]
      generalize hg : (c :: r).takeWhile isL = w at k hw
      dsimp only at k
      have Z : ∀ x, x = (if kv w = (-1) then ki w else kv w) → WH (d + 2) 78 85 [(0, .ref 26), (5, .int x)] [] m K := by
        intro x hx
        obtain ⟨z1, z2⟩ := kv_ki w x hx
        refine sg_78_85 _ ?_
        rw [z1]
        by_cases z3 : kw w = 19
        · rw [if_pos z3] at k
          rw [if_pos z3, if_pos rfl]
          exact sg_78_105 k
        · rw [if_neg z3] at k
          have z4 := z2 z3
          rw [if_neg z3, if_neg (by rw [m1_eq (by omega)]; exact id)]
          refine c_keep hL hB hl (by omega) z4.1 (by decide) (fun m' g1 g2 => ⟨_, rfl, ?_⟩)
          rw [if_neg (by decide)]
          exact k m' g1 g2
      refine c_80 (by omega) hL hX h1 h2 hw ⟨_, rfl, ?_⟩
      split
      · next q2 =>
        refine c_81 (by omega) hL hX h1 h2 hw ⟨_, rfl, ?_⟩
        exact Z _ (by rw [if_pos q2])
      · next q2 => exact Z _ (by rw [if_neg q2])
  have L : ∀ (s : List Nat) (to : Nat), cl.drop to = s → to ≤ cl.length → f ≤ to → to - f + (s.takeWhile isL).length = ((c :: r).takeWhile isL).length → WH (d + 2) 78 3 [(0, .ref 26), (1, .ref 1), (2, .int (nI f)), (3, .int (nI cl.length)), (4, .int (nI to))] [] m K := by
    intro s
    induction s with
    | nil =>
      intro to h1 h2 h3 h4
      have h6 := drop_nil h1 h2
      refine sg_78_3 _ _ _ ?_
      simp (disch := omega) only [nIle]
      rw [if_pos (by omega)]
      exact E to h3 h2 (by rw [← h4]; rfl)
    | cons c' s ih =>
      intro to h1 h2 h3 h4
      obtain ⟨g1, g2, g3, g4⟩ := drop_cons h1
      obtain ⟨b1, b2, b3⟩ := hX.at h1
      have ho : ok 80 (nI to) := ok_nI (by omega) (by decide)
      refine sg_78_3 _ _ _ ?_
      simp (disch := omega) only [nIle, ix_nI, l1, b1]
      rw [if_neg (by omega)]
      refine ⟨ho, c_let (by omega) ⟨_, rfl, ?_⟩⟩
      simp only [bI_0]
      rw [List.takeWhile_cons] at h4
      cases hc : isL c' with
      | false =>
        rw [hc] at h4
        rw [if_pos (by decide)]
        exact E to h3 h2 (by rw [← h4]; rfl)
      | true =>
        rw [hc] at h4
        rw [if_neg (by decide), nI_add]
        refine ih (to + 1) g3 (by omega) (by omega) ?_
        rw [← h4]
        show to + 1 - f + (s.takeWhile isL).length = to - f + ((s.takeWhile isL).length + 1)
        omega
  exact L (c :: r) f hs (by omega) (Nat.le_refl f) (by omega)
