/-! LEXING, the reference: a run of letters or digits at once; words by their number -/
theorem isL_iff {c : Nat} : isL c = true ↔ (97 ≤ c ∧ c ≤ 122) := by
  unfold isL; exact decide_eq_true_iff
theorem isD_iff {c : Nat} : isD c = true ↔ (48 ≤ c ∧ c ≤ 57) := by
  unfold isD; exact decide_eq_true_iff
theorem goes_f {p c : Nat} (h1 : ¬ (isL c = true ∧ isL p = true)) (h2 : ¬ (isD c = true ∧ isD p = true)) : goes p c = false := by
  unfold goes
  cases h3 : isL c <;> cases h4 : isL p <;> cases h5 : isD c <;> cases h6 : isD p <;> simp_all
theorem lxW_same {f : List Nat → Option Tk} {p p' : Nat} {r : List Nat} (h : ∀ c r', r = c :: r' → goes p c = goes p' c) : lxW f p r = lxW f p' r := by
  cases r with
  | nil => rfl
  | cons c r' =>
    have e := h c r' rfl
    show (if c = 32 ∨ goes p c = true then _ else _) = (if c = 32 ∨ goes p' c = true then _ else _)
    rw [e]
theorem goes_32 (c : Nat) : goes 32 c = false := goes_f (fun z => absurd z.2 (by decide)) (fun z => absurd z.2 (by decide))
theorem lxW_L {f : List Nat → Option Tk} : ∀ (r : List Nat) (c : Nat), isL c = true → lxW f c r = lxW f 32 (r.dropWhile isL)
  | [], c, hc => rfl
  | x :: r, c, hc => by
    by_cases hx : isL x = true
    · have hg : goes c x = true := by
        unfold goes; rw [hx, hc]; rfl
      have e1 : lxW f c (x :: r) = lxW f x r := by
        show (if x = 32 ∨ goes c x = true then _ else _) = _
        rw [if_pos (Or.inr hg)]
      rw [e1, lxW_L r x hx, List.dropWhile_cons_of_pos hx]
    · have hd0 : isD c ≠ true := fun z => by
        have h1 := isL_iff.mp hc
        have h2 := isD_iff.mp z
        omega
      rw [List.dropWhile_cons_of_neg hx]
      refine lxW_same (fun y r' e => ?_)
      cases e
      rw [goes_32, goes_f (fun z => hx z.1) (fun z => hd0 z.2)]
theorem lxW_D {f : List Nat → Option Tk} : ∀ (r : List Nat) (c : Nat), isD c = true → lxW f c r = lxW f 32 (r.dropWhile isD)
  | [], c, hc => rfl
  | x :: r, c, hc => by
    by_cases hx : isD x = true
    · have hg : goes c x = true := by
        unfold goes; rw [hx, hc]; simp
      have e1 : lxW f c (x :: r) = lxW f x r := by
        show (if x = 32 ∨ goes c x = true then _ else _) = _
        rw [if_pos (Or.inr hg)]
      rw [e1, lxW_D r x hx, List.dropWhile_cons_of_pos hx]
    · have hd0 : isL c ≠ true := fun z => by
        have h1 := isL_iff.mp z
        have h2 := isD_iff.mp hc
        omega
      rw [List.dropWhile_cons_of_neg hx]
      refine lxW_same (fun y r' e => ?_)
      cases e
      rw [goes_32, goes_f (fun z => hd0 z.2) (fun z => hx z.1)]
theorem lxW_o {f : List Nat → Option Tk} {r : List Nat} {c : Nat} (h1 : isL c ≠ true) (h2 : isD c ≠ true) : lxW f c r = lxW f 32 r := by
  refine lxW_same (fun y r' e => ?_)
  rw [goes_32, goes_f (fun z => h1 z.2) (fun z => h2 z.2)]
/-- how far the reference goes on -/
def adv (s : List Nat) : Nat := match s with
  | [] => 0
  | c :: r => if isL c = true then ((c :: r).takeWhile isL).length else if isD c = true then ((c :: r).takeWhile isD).length else 1
theorem dw_drop {P : Nat → Bool} : ∀ (s : List Nat), s.drop (s.takeWhile P).length = s.dropWhile P
  | [] => rfl
  | c :: r => by
    by_cases h : P c = true
    · rw [List.takeWhile_cons_of_pos h, List.dropWhile_cons_of_pos h, List.length_cons, List.drop_succ_cons]
      exact dw_drop r
    · rw [List.takeWhile_cons_of_neg h, List.dropWhile_cons_of_neg h]; rfl
theorem lxW_step {f : List Nat → Option Tk} {c : Nat} {r : List Nat} : lxW f 32 (c :: r) = if c = 32 then lxW f 32 r else (match f (c :: r) with
    | some t => (match lxW f 32 ((c :: r).drop (adv (c :: r))) with | some ts => some (t :: ts) | none => none)
    | none => none) := by
  have e0 : lxW f 32 (c :: r) = if c = 32 ∨ goes 32 c = true then lxW f c r else (match f (c :: r) with
    | some t => (match lxW f c r with | some ts => some (t :: ts) | none => none)
    | none => none) := rfl
  rw [e0, goes_32]
  by_cases h32 : c = 32
  · rw [if_pos (Or.inl h32), if_pos h32, h32]
  · rw [if_neg (fun z => by rcases z with z | z; exact h32 z; cases z), if_neg h32]
    have e1 : lxW f c r = lxW f 32 ((c :: r).drop (adv (c :: r))) := by
      unfold adv
      dsimp only
      by_cases hl : isL c = true
      · rw [if_pos hl, dw_drop, List.dropWhile_cons_of_pos hl]
        exact lxW_L r c hl
      · rw [if_neg hl]
        by_cases hd0 : isD c = true
        · rw [if_pos hd0, dw_drop, List.dropWhile_cons_of_pos hd0]
          exact lxW_D r c hd0
        · rw [if_neg hd0]
          exact lxW_o hl hd0
    rw [e1]
theorem adv_pos {c : Nat} {r : List Nat} : 0 < adv (c :: r) ∧ adv (c :: r) ≤ r.length + 1 := by
  unfold adv
  dsimp only
  by_cases hl : isL c = true
  · rw [if_pos hl]
    have := tw_le (P := isL) (c :: r)
    rw [List.takeWhile_cons_of_pos hl, List.length_cons] at this ⊢
    rw [List.length_cons] at this
    omega
  · rw [if_neg hl]
    by_cases hd0 : isD c = true
    · rw [if_pos hd0]
      have := tw_le (P := isD) (c :: r)
      rw [List.takeWhile_cons_of_pos hd0, List.length_cons] at this ⊢
      rw [List.length_cons] at this
      omega
    · rw [if_neg hd0]
      omega
/-- a word's number -/
def cdw (a : Nat) (w : List Nat) : Nat := w.foldl (fun a c => 32 * a + (c - 96)) a
theorem cdw_lt : ∀ (w : List Nat) (a : Nat), (∀ c, c ∈ w → 97 ≤ c ∧ c ≤ 122) → cdw a w < (a + 1) * 32 ^ w.length
  | [], a, _ => by show a < (a + 1) * 32 ^ 0; omega
  | c :: w, a, h => by
    have h1 := h c (List.mem_cons_self ..)
    have h2 := cdw_lt w (32 * a + (c - 96)) (fun x hx => h x (List.mem_cons_of_mem _ hx))
    show cdw (32 * a + (c - 96)) w < (a + 1) * 32 ^ (w.length + 1)
    have h3 : (32 * a + (c - 96) + 1) * 32 ^ w.length ≤ (32 * (a + 1)) * 32 ^ w.length := Nat.mul_le_mul_right _ (by omega)
    have h4 : (a + 1) * 32 ^ (w.length + 1) = (32 * (a + 1)) * 32 ^ w.length := by
      rw [Nat.pow_succ, Nat.mul_comm (32 ^ w.length) 32, ← Nat.mul_assoc, Nat.mul_comm (a + 1) 32]
    omega
def vlr : List Nat → Nat
  | [] => 0
  | c :: r => 32 * vlr r + (c - 96)
theorem cdw_app (w : List Nat) (a c : Nat) : cdw a (w ++ [c]) = 32 * cdw a w + (c - 96) := by
  unfold cdw
  rw [List.foldl_append]; rfl
theorem cdw_vlr : ∀ (r : List Nat), cdw 0 r.reverse = vlr r
  | [] => rfl
  | c :: r => by
    rw [List.reverse_cons, cdw_app, cdw_vlr r]; rfl
theorem vlr_inj : ∀ (r s : List Nat), (∀ c, c ∈ r → 97 ≤ c ∧ c ≤ 122) → (∀ c, c ∈ s → 97 ≤ c ∧ c ≤ 122) → vlr r = vlr s → r = s
  | [], [], _, _, _ => rfl
  | [], c :: s, _, h, e => by
    have h1 := h c (List.mem_cons_self ..)
    have e : 0 = 32 * vlr s + (c - 96) := e
    omega
  | c :: r, [], h, _, e => by
    have h1 := h c (List.mem_cons_self ..)
    have e : 32 * vlr r + (c - 96) = 0 := e
    omega
  | c :: r, x :: s, h, h', e => by
    have h1 := h c (List.mem_cons_self ..)
    have h2 := h' x (List.mem_cons_self ..)
    have e : 32 * vlr r + (c - 96) = 32 * vlr s + (x - 96) := e
    have e1 : c = x ∧ vlr r = vlr s := by omega
    rw [e1.1, vlr_inj r s (fun y hy => h y (List.mem_cons_of_mem _ hy)) (fun y hy => h' y (List.mem_cons_of_mem _ hy)) e1.2]
theorem cdw_inj {w u : List Nat} (hw : ∀ c, c ∈ w → 97 ≤ c ∧ c ≤ 122) (hu : ∀ c, c ∈ u → 97 ≤ c ∧ c ≤ 122) (e : cdw 0 w = cdw 0 u) : w = u := by
  have h1 := cdw_vlr w.reverse
  have h2 := cdw_vlr u.reverse
  rw [List.reverse_reverse] at h1 h2
  have := vlr_inj w.reverse u.reverse (fun c hc => hw c (List.mem_reverse.mp hc)) (fun c hc => hu c (List.mem_reverse.mp hc)) (by rw [← h1, ← h2, e])
  exact List.reverse_inj.mp this
/-- the words by number -/
def Wk (k : Nat) : List Nat := if k = 4 then W0 else if k = 5 then W1 else if k = 6 then W2 else if k = 7 then W3 else if k = 8 then W4 else if k = 9 then W5 else if k = 10 then W6 else if k = 11 then W7 else if k = 12 then W8 else if k = 13 then W9 else if k = 14 then W10 else if k = 15 then W11 else if k = 16 then W12 else if k = 17 then W13 else W14
theorem Wk_ok : ∀ k : Fin 19, 4 ≤ k.val → cdw 0 (Wk k.val) = wc k.val ∧ (∀ c, c ∈ Wk k.val → 97 ≤ c ∧ c ≤ 122) ∧ kw (Wk k.val) = k.val ∧ (Wk k.val).length ≤ 6 := by decide
theorem kw_inv {w : List Nat} {k : Nat} (h : kw w = k) (h19 : k ≠ 19) : 4 ≤ k ∧ k ≤ 18 ∧ w = Wk k := by
  unfold kw at h
  by_cases e0 : w = W0
  · rw [if_pos e0] at h; subst h; exact ⟨by decide, by decide, e0⟩
  rw [if_neg e0] at h
  by_cases e1 : w = W1
  · rw [if_pos e1] at h; subst h; exact ⟨by decide, by decide, e1⟩
  rw [if_neg e1] at h
  by_cases e2 : w = W2
  · rw [if_pos e2] at h; subst h; exact ⟨by decide, by decide, e2⟩
  rw [if_neg e2] at h
  by_cases e3 : w = W3
  · rw [if_pos e3] at h; subst h; exact ⟨by decide, by decide, e3⟩
  rw [if_neg e3] at h
  by_cases e4 : w = W4
  · rw [if_pos e4] at h; subst h; exact ⟨by decide, by decide, e4⟩
  rw [if_neg e4] at h
  by_cases e5 : w = W5
  · rw [if_pos e5] at h; subst h; exact ⟨by decide, by decide, e5⟩
  rw [if_neg e5] at h
  by_cases e6 : w = W6
  · rw [if_pos e6] at h; subst h; exact ⟨by decide, by decide, e6⟩
  rw [if_neg e6] at h
  by_cases e7 : w = W7
  · rw [if_pos e7] at h; subst h; exact ⟨by decide, by decide, e7⟩
  rw [if_neg e7] at h
  by_cases e8 : w = W8
  · rw [if_pos e8] at h; subst h; exact ⟨by decide, by decide, e8⟩
  rw [if_neg e8] at h
  by_cases e9 : w = W9
  · rw [if_pos e9] at h; subst h; exact ⟨by decide, by decide, e9⟩
  rw [if_neg e9] at h
  by_cases e10 : w = W10
  · rw [if_pos e10] at h; subst h; exact ⟨by decide, by decide, e10⟩
  rw [if_neg e10] at h
  by_cases e11 : w = W11
  · rw [if_pos e11] at h; subst h; exact ⟨by decide, by decide, e11⟩
  rw [if_neg e11] at h
  by_cases e12 : w = W12
  · rw [if_pos e12] at h; subst h; exact ⟨by decide, by decide, e12⟩
  rw [if_neg e12] at h
  by_cases e13 : w = W13
  · rw [if_pos e13] at h; subst h; exact ⟨by decide, by decide, e13⟩
  rw [if_neg e13] at h
  by_cases e14 : w = W14
  · rw [if_pos e14] at h; subst h; exact ⟨by decide, by decide, e14⟩
  rw [if_neg e14] at h
  exact absurd h.symm h19
/-- what the reference makes of a word is what the spec does -/
theorem word_wr {w : List Nat} (h2 : 2 ≤ w.length) (hw : ∀ c, c ∈ w → 97 ≤ c ∧ c ≤ 122) : wr (kw w, 0) (if w.length ≤ 6 then nI (cdw 0 w) else -1) ∧ tv (kw w, 0) ∧ eK (kw w, 0) = 1 := by
  by_cases h19 : kw w = 19
  · refine ⟨?_, ?_, ?_⟩
    · unfold wr
      rw [if_pos h19]
      by_cases h6 : w.length ≤ 6
      · rw [if_pos h6]
        have hlt := cdw_lt w 0 hw
        have hp : 32 ^ w.length ≤ 32 ^ 6 := Nat.pow_le_pow_right (by decide) h6
        have hlt2 : cdw 0 w < 2 ^ 30 := by
          have : (32 : Nat) ^ 6 = 2 ^ 30 := by decide
          omega
        have hge : 4 < cdw 0 w := by
          rcases List.eq_nil_or_concat w with e | ⟨V, x, e⟩
          · subst e; cases h2
          · rw [List.concat_eq_append] at e
            subst e
            rw [cdw_app]
            rcases List.eq_nil_or_concat V with e | ⟨U, y, e⟩
            · subst e; simp at h2
            · rw [List.concat_eq_append] at e
              subst e
              rw [cdw_app]
              have := hw y (by simp)
              omega
        refine ⟨Or.inr ?_, fun k hk hk2 => ?_⟩
        · rw [nIlt (by omega) (by omega)]; exact hge
        · have hb := wc_big hk hk2
          intro z
          rw [nIeq (by omega) hb.2] at z
          have ok := Wk_ok ⟨k, by omega⟩ hk
          have e : w = Wk k := cdw_inj hw ok.2.1 (by rw [z]; exact ok.1.symm)
          rw [e, ok.2.2.1] at h19
          dsimp only at h19
          omega
      · rw [if_neg h6]
        refine ⟨Or.inl (by decide), fun k hk hk2 => ?_⟩
        have hb := wc_big hk hk2
        intro z
        rw [eq_m1 hb.2] at z
        exact z
    · right; right; right; left
      dsimp only
      omega
    · unfold eK
      dsimp only
      rw [if_neg (by omega), if_neg (by omega), if_pos (by omega)]
  · have hk := kw_inv rfl h19
    have ok := Wk_ok ⟨kw w, by omega⟩ hk.1
    refine ⟨?_, ?_, ?_⟩
    · unfold wr
      dsimp only
      rw [if_neg h19, if_pos (by rw [hk.2.2]; exact ok.2.2.2)]
      unfold eW
      dsimp only
      rw [if_neg (by omega), if_neg (by omega), if_pos (by omega)]
      have e : cdw 0 w = wc (kw w) := by
        have := ok.1
        dsimp only at this
        rw [← hk.2.2] at this
        exact this
      rw [e]
    · right; right; right; left
      dsimp only
      omega
    · unfold eK
      dsimp only
      rw [if_neg (by omega), if_neg (by omega), if_pos (by omega)]
