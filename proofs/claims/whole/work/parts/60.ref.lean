/-! LEXING, the reference: split() cuts as the spec -/
def TBr (m : Mm) (ts : List Tk) : Prop := m.F 42 2 = nI ts.length ∧ ∀ i, i < ts.length → (m.A 44).getD i 0 = nI (eK (ts.getD i (0, 0))) ∧ wr (ts.getD i (0, 0)) ((m.A 45).getD i 0) ∧ tv (ts.getD i (0, 0))
def Lsp (m0 m : Mm) (cl : List Nat) (k b : Nat) (ts : List Tk) : Prop := Len m ∧ TX 43 m cl ∧ m.F 42 1 = nI cl.length ∧ (∃ j, m.F 42 2 = nI j ∧ j ≤ k) ∧ m.F 42 6 = nI b ∧ b < 2 ∧ (b = 0 → ts.length ≤ k ∧ TBr m ts) ∧ Fq [2, 6] [44, 45] m0 m
def LQ (m0 : Mm) (b : Nat) (ts : List Tk) (x : Option (List Tk)) (K : Option Value → Mm → Prop) : Prop :=
  (∀ us, b = 0 → x = some us → ∀ m', TBr m' (ts ++ us) → (m'.A 44).getD (ts ++ us).length 0 = nI 0 → m'.F 42 6 = nI 0 → Fq [2, 6] [44, 45] m0 m' → K none m') ∧ ((b = 1 ∨ x = none) → ∀ m', m'.F 42 6 = nI 1 → Fq [2, 6] [44, 45] m0 m' → K none m')
section R60
variable {d : Nat} {m m0 m1 : Mm} {K : Option Value → Mm → Prop} {c k b : Nat} {cl : List Nat} {ts : List Tk}
theorem TX.fq {G S : List Nat} (h : TX 43 m cl) (f : Fq G S m m1) (hs : 43 ∉ (42 :: S)) : TX 43 m1 cl := by
  obtain ⟨h1, h2, h3⟩ := h
  refine ⟨h1, ?_, h3⟩
  rw [f.a hs]; exact h2
/-- a token is noted -/
theorem r_266 {x2 x3 x4 : Int32} {t : Tk} {w n : Nat} (hS : Lsp m0 m cl k b ts) (hw : 0 < w) (hw2 : w < 5) (he : b = 0 → eK t = w ∧ wr t x4 ∧ tv t) (hx3 : x3 = nI n) (hn : 0 < n) (hk : k + n ≤ 80) (K1 : ∀ m', Lsp m0 m' cl (k + n) b (ts ++ [t]) → WH d 138 7 [(0, .ref 42), (1, .int (nI (k + n)))] [] m' K) : WH d 138 266 [(0, .ref 42), (1, .int (nI k)), (2, .int x2), (3, .int x3), (4, .int x4), (5, .int (nI w))] [] m K := by
  obtain ⟨hL, hX, h1, ⟨j, h2, hj⟩, h6, hb, hB, f0⟩ := hS
  have l1 : (m.A 44).length = 101 := hL.a (by decide) rfl
  have l2 : (m.A 45).length = 101 := hL.a (by decide) rfl
  have ho : ok 101 (nI j) := ok_nI (by omega) (by decide)
  have fin : ok (m.A 44).length (m.F 42 2) ∧ ok (m.A 45).length (m.F 42 2) ∧ WH d 138 330 [(0, .ref 42), (1, .int (nI k)), (3, .int x3)] [] ((((m.uF 42 6 (nI b)).uA 44 ((m.A 44).set (ix (m.F 42 2)) (nI w))).uA 45 ((m.A 45).set (ix (m.F 42 2)) x4)).uF 42 2 ((m.F 42 2) + (nI 1))) K := by
    rw [l1, l2, h2, ix_nI (by omega), nI_add]
    refine ⟨ho, ho, sg_138_330 _ _ ?_⟩
    rw [hx3, nI_add]
    have f1 : Fq [2, 6] [44, 45] m ((((m.uF 42 6 (nI b)).uA 44 ((m.A 44).set j (nI w))).uA 45 ((m.A 45).set j x4)).uF 42 2 (nI (j + 1))) := by
      refine Fq.uF (Fq.uA (Fq.uA (Fq.uF (Fq.refl _ _ _) (by decide) _) (by decide) ?_) (by decide) ?_) (by decide) _
      · rw [List.length_set]; rfl
      · rw [List.length_set]; rfl
    refine K1 _ ⟨hL.fq f1, hX.fq f1 (by decide), by rw [f1.f (by decide)]; exact h1, ⟨j + 1, rfl, by omega⟩, rfl, hb, fun b0 => ?_, f0.trans f1⟩
    obtain ⟨g1, g2, g3⟩ := hB b0
    have ej : j = ts.length := by
      have := h2.symm.trans g2
      rw [nIeq (by omega) (by omega)] at this
      exact this
    subst ej
    refine ⟨by rw [List.length_append, List.length_cons, List.length_nil]; omega, ?_, fun i hi => ?_⟩
    · rw [List.length_append]; rfl
    · rw [List.length_append, List.length_cons, List.length_nil] at hi
      show ((m.A 44).set ts.length (nI w)).getD i 0 = _ ∧ wr _ (((m.A 45).set ts.length x4).getD i 0) ∧ _
      rw [getD_set _ _ _ _ _ (by omega), getD_set _ _ _ _ _ (by omega), getD_snoc2]
      obtain ⟨y1, y2, y3⟩ := he b0
      by_cases hi2 : i = ts.length
      · rw [if_pos hi2, if_pos hi2, if_pos hi2, y1]
        exact ⟨rfl, y2, y3⟩
      · rw [if_neg hi2, if_neg hi2, if_neg hi2]
        exact g3 i (by omega)
  have w0 : ¬ nI w = nI 0 := by rw [nIeq (by omega) (by omega)]; omega
  have w1 : ¬ nI w ≤ nI 0 := by rw [nIle (by omega) (by omega)]; omega
  refine sg_138_266 _ _ _ _ _ ?_
  rcases (by omega : b = 0 ∨ b = 1) with hb0 | hb0
  · subst hb0
    rw [if_pos h6, if_neg w0, if_neg w1]
    exact fin
  · subst hb0
    rw [if_neg (by rw [h6]; decide), if_neg w1]
    exact fin
/-- no token -/
theorem r_266n {x4 : Int32} (hS : Lsp m0 m cl k b ts) (hc : c < 1000) (hk : k + 1 ≤ 80) (K1 : ∀ m' b', (c = 32 → b' = b) → (c ≠ 32 → b' = 1) → Lsp m0 m' cl (k + 1) b' ts → WH d 138 7 [(0, .ref 42), (1, .int (nI (k + 1)))] [] m' K) : WH d 138 266 [(0, .ref 42), (1, .int (nI k)), (2, .int (nI c)), (3, .int (nI 1)), (4, .int x4), (5, .int (nI 0))] [] m K := by
  obtain ⟨hL, hX, h1, ⟨j, h2, hj⟩, h6, hb, hB, f0⟩ := hS
  have fin : ∀ b', (c = 32 → b' = b) → (c ≠ 32 → b' = 1) → b' < 2 → (b' = 0 → b = 0) → WH d 138 330 [(0, .ref 42), (1, .int (nI k)), (3, .int (nI 1))] [] (m.uF 42 6 (nI b')) K := by
    intro b' q1 q2 q3 q4
    refine sg_138_330 _ _ ?_
    rw [nI_add]
    have f1 : Fq [2, 6] [44, 45] m (m.uF 42 6 (nI b')) := Fq.uF (Fq.refl _ _ _) (by decide) _
    refine K1 _ b' q1 q2 ⟨hL.fq f1, hX.fq f1 (by decide), h1, ⟨j, h2, by omega⟩, rfl, q3, fun b0 => ?_, f0.trans f1⟩
    obtain ⟨g1, g2⟩ := hB (q4 b0)
    exact ⟨by omega, g2⟩
  refine sg_138_266 _ _ _ _ _ ?_
  rcases (by omega : b = 0 ∨ b = 1) with hb0 | hb0
  · subst hb0
    rw [if_pos h6, if_pos rfl]
    by_cases e : c = 32
    · rw [if_pos (by rw [e]), if_pos (by decide)]
      exact fin 0 (fun _ => rfl) (fun z => absurd e z) (by decide) (fun _ => rfl)
    · rw [if_neg (by rw [nIeq (by omega) (by omega)]; exact e), if_pos (by decide)]
      exact fin 1 (fun z => absurd z e) (fun _ => rfl) (by decide) (fun z => by omega)
  · subst hb0
    rw [if_neg (by rw [h6]; decide), if_pos (by decide)]
    exact fin 1 (fun _ => rfl) (fun _ => rfl) (by decide) (fun z => by omega)
theorem LQ.tok {t : Tk} {ys : Option (List Tk)} (h : LQ m0 b ts (match ys with | some us => some (t :: us) | none => none) K) : LQ m0 b (ts ++ [t]) ys K := by
  refine ⟨fun us b0 e m' a1 a2 a3 a4 => ?_, fun z m' a3 a4 => ?_⟩
  · subst e
    rw [List.append_assoc] at a1 a2
    exact h.1 (t :: us) b0 rfl m' a1 a2 a3 a4
  · refine h.2 ?_ m' a3 a4
    rcases z with z | z
    · exact Or.inl z
    · subst z; exact Or.inr rfl
theorem LQ.bad {ys zs : Option (List Tk)} (h : LQ m0 b ts ys K) (hb : b = 1 ∨ ys = none) {ts' : List Tk} : LQ m0 1 ts' zs K := ⟨fun us b0 => by omega, fun z m' a3 a4 => h.2 hb m' a3 a4⟩
theorem tw_split {P : Nat → Bool} (s : List Nat) : s = s.takeWhile P ++ s.dropWhile P := (List.takeWhile_append_dropWhile).symm
theorem dw_head {P : Nat → Bool} : ∀ (s : List Nat) (c : Nat) (r : List Nat), s.dropWhile P = c :: r → P c ≠ true
  | [], c, r, h => by cases h
  | x :: s, c, r, h => by
    by_cases hx : P x = true
    · rw [List.dropWhile_cons_of_pos hx] at h
      exact dw_head s c r h
    · rw [List.dropWhile_cons_of_neg hx] at h
      cases h; exact hx
theorem lp_138 : ∀ (n k : Nat) (m : Mm) (b : Nat) (ts : List Tk), cl.length - k ≤ n → k ≤ cl.length → Lsp m0 m cl k b ts → LQ m0 b ts (lxW tokA 32 (cl.drop k)) K → WH (d + 1) 138 7 [(0, .ref 42), (1, .int (nI k))] [] m K := by
  intro n
  induction n with
  | zero =>
    intro k m b ts hn hk hS hQ
    obtain ⟨hL, hX, h1, ⟨j, h2, hj⟩, h6, hb, hB, f0⟩ := hS
    have hcl := hX.1
    have ek : k = cl.length := by omega
    have ed : cl.drop k = [] := by rw [ek, List.drop_length]
    rw [ed] at hQ
    have l1 : (m.A 44).length = 101 := hL.a (by decide) rfl
    refine sg_138_7 _ ?_
    simp (disch := omega) only [h1, nIle]
    rw [if_pos (by omega), l1, h2, ix_nI (by omega)]
    refine ⟨ok_nI (by omega) (by decide), ?_⟩
    have f1 : Fq [2, 6] [44, 45] m (m.uA 44 ((m.A 44).set j (nI 0))) := by
      refine Fq.uA (Fq.refl _ _ _) (by decide) ?_
      rw [List.length_set]
    rcases (by omega : b = 0 ∨ b = 1) with hb0 | hb0
    · obtain ⟨g1, g2, g3⟩ := hB hb0
      have ej : j = ts.length := by
        have := h2.symm.trans g2
        rw [nIeq (by omega) (by omega)] at this
        exact this
      subst ej
      refine hQ.1 [] hb0 rfl _ ?_ ?_ (by rw [← hb0]; exact h6) (f0.trans f1)
      · rw [List.append_nil]
        refine ⟨g2, fun i hi => ?_⟩
        show ((m.A 44).set ts.length (nI 0)).getD i 0 = _ ∧ _
        rw [getD_set _ _ _ _ _ (by omega), if_neg (by omega)]
        exact g3 i hi
      · rw [List.append_nil]
        show ((m.A 44).set ts.length (nI 0)).getD ts.length 0 = nI 0
        rw [getD_set _ _ _ _ _ (by omega), if_pos rfl]
    · exact hQ.2 (Or.inl hb0) _ (by rw [← hb0]; exact h6) (f0.trans f1)
  | succ n ih =>
    intro k m b ts hn hk hS hQ
    cases hd : cl.drop k with
    | nil =>
      have := drop_nil hd hk
      exact ih k m b ts (by omega) hk hS hQ
    | cons c r =>
      rw [hd] at hQ
      have hS0 := hS
      obtain ⟨hL, hX, h1, ⟨j, h2, hj⟩, h6, hb, hB, f0⟩ := hS
      have hcl := hX.1
      have hc := hX.at hd
      have hdc := drop_cons hd
      have l0 : (m.A 43).length = 100 := hL.a (by decide) rfl
      have hadv := adv_pos (c := c) (r := r)
      have edr : cl.drop (k + adv (c :: r)) = (c :: r).drop (adv (c :: r)) := by rw [← hd, List.drop_drop]
      rw [lxW_step] at hQ
      -- a token t, adv chars
      have good : ∀ t, c ≠ 32 → tokA (c :: r) = some t → ∀ m', Lsp m0 m' cl (k + adv (c :: r)) b (ts ++ [t]) → WH (d + 1) 138 7 [(0, .ref 42), (1, .int (nI (k + adv (c :: r))))] [] m' K := by
        intro t h32 ht m' hS'
        rw [if_neg h32, ht] at hQ
        refine ih _ m' b (ts ++ [t]) (by omega) (by omega) hS' ?_
        rw [edr]
        exact hQ.tok
      have badq : ∀ ts' (j' : Nat), c ≠ 32 → tokA (c :: r) = none → 0 < j' → k + j' ≤ cl.length → ∀ m', Lsp m0 m' cl (k + j') 1 ts' → WH (d + 1) 138 7 [(0, .ref 42), (1, .int (nI (k + j')))] [] m' K := by
        intro ts' j' h32 ht hj0 hj1 m' hS'
        rw [if_neg h32, ht] at hQ
        exact ih _ m' 1 ts' (by omega) hj1 hS' (hQ.bad (Or.inr rfl))
      refine sg_138_7 _ ?_
      simp (disch := omega) only [h1, nIle]
      rw [if_neg (by omega), l0, ix_nI (by omega), hc.1]
      refine ⟨ok_nI (by omega) (by decide), r_let (by omega) ⟨_, rfl, ?_⟩⟩
      simp only [bI_0]
      by_cases hl : isL c = true
      · rw [if_neg (fun z => z hl)]
        have hcc := isL_iff.mp hl
        refine sg_138_44 _ _ _ ?_
        refine r_let (by omega) ⟨_, rfl, ?_⟩
        rw [bI_t hl, if_neg (by decide)]
        have ea : adv (c :: r) = ((c :: r).takeWhile isL).length := by
          unfold adv
          dsimp only
          rw [if_pos hl]
        have htw : ∀ x, x ∈ (c :: r).takeWhile isL → isL x = true := fun x hx => tw_mem _ x hx
        have hW : ∀ x, x ∈ (c :: r).takeWhile isL → 97 ≤ x ∧ x ≤ 122 := fun x hx => isL_iff.mp (htw x hx)
        have := w60 (k := k) (d := d) (x2 := nI c) (K := K) hL hX h1 ((c :: r).takeWhile isL) ((c :: r).dropWhile isL) 0 0 (by rw [Nat.add_zero, hd]; exact tw_split _) htw (fun x r' e => dw_head _ _ _ e) (fun _ => by decide) (by omega) ?_
        · exact this
        · rw [Nat.zero_add, ← ea]
          -- the token
          have tok : ∃ t, tokA (c :: r) = some t ∧ eK t = 1 ∧ wr t (wv (adv (c :: r)) (cdw 0 ((c :: r).takeWhile isL))) ∧ tv t := by
            have e0 : tokA (c :: r) = (if ((c :: r).takeWhile isL).length = 1 then (if c ≤ 100 then some (3, c - 97) else some (19, 0)) else some (kw ((c :: r).takeWhile isL), 0)) := by
              unfold tokA
              dsimp only
              rw [if_pos hl]
            by_cases h1' : ((c :: r).takeWhile isL).length = 1
            · rw [if_pos h1'] at e0
              have e1 : (c :: r).takeWhile isL = [c] := by
                rw [List.takeWhile_cons_of_pos hl] at h1' ⊢
                rw [List.length_cons] at h1'
                have : r.takeWhile isL = [] := List.length_eq_zero_iff.mp (by omega)
                rw [this]
              have e2 : wv (adv (c :: r)) (cdw 0 ((c :: r).takeWhile isL)) = nI (c - 96) := by
                rw [ea, h1', e1]
                unfold wv
                rw [if_pos (by decide)]
                show nI (32 * 0 + (c - 96)) = _
                congr 1
                omega
              rw [e2]
              by_cases h100 : c ≤ 100
              · rw [if_pos h100] at e0
                refine ⟨_, e0, rfl, ?_, Or.inr (Or.inr (Or.inl ⟨rfl, by show c - 97 < 4; omega⟩))⟩
                unfold wr
                rw [if_neg (show ¬ (3 = 19) by decide)]
                unfold eW
                rw [if_neg (show ¬ (3 = 1 ∨ 3 = 2) by decide), if_pos rfl]
                dsimp only
                congr 1
                omega
              · rw [if_neg h100] at e0
                refine ⟨_, e0, rfl, ?_, Or.inr (Or.inr (Or.inr (Or.inl ⟨by decide, by decide⟩)))⟩
                unfold wr
                rw [if_pos rfl]
                refine ⟨Or.inr (by rw [nIlt (by omega) (by omega)]; omega), fun k2 hk2 hk3 => ?_⟩
                have hbig := wc_big hk2 hk3
                intro z
                rw [nIeq (by omega) hbig.2] at z
                omega
            · rw [if_neg h1'] at e0
              have h2' : 2 ≤ ((c :: r).takeWhile isL).length := by rw [← ea] at h1' ⊢; omega
              have hw := word_wr h2' hW
              refine ⟨_, e0, hw.2.2, ?_, hw.2.1⟩
              rw [ea]
              exact hw.1
          obtain ⟨t, ht, ht1, ht2, ht3⟩ := tok
          have step : WH (d + 1) 138 266 [(0, .ref 42), (1, .int (nI k)), (2, .int (nI c)), (3, .int (nI (adv (c :: r)))), (4, .int (wv (adv (c :: r)) (cdw 0 ((c :: r).takeWhile isL)))), (5, .int (nI 1))] [] m K := r_266 (t := t) hS0 (by decide) (by decide) (fun _ => ⟨ht1, ht2, ht3⟩) rfl hadv.1 (by omega) (good t (by omega) ht)
          have u6 : ∀ v, m.F 42 6 = v → m.uF 42 6 v = m := fun v h => uF_eq h
          refine sg_138_178 _ _ _ _ _ ?_
          rw [if_pos rfl]
          by_cases h6' : adv (c :: r) ≤ 6
          · rw [if_pos (by rw [nIle (by omega) (by omega)]; exact h6')]
            refine sg_138_194 _ _ _ _ _ ?_
            rcases (by omega : b = 0 ∨ b = 1) with hb0 | hb0
            · rw [hb0] at h6
              rw [if_pos h6, if_neg (by decide), u6 _ h6]
              exact step
            · rw [hb0] at h6
              rw [if_neg (by rw [h6]; decide), u6 _ h6]
              exact step
          · rw [if_neg (by rw [nIle (by omega) (by omega)]; exact h6')]
            have ew : wv (adv (c :: r)) (cdw 0 ((c :: r).takeWhile isL)) = -1 := by unfold wv; rw [if_neg h6']
            rw [ew] at step
            rcases (by omega : b = 0 ∨ b = 1) with hb0 | hb0
            · rw [hb0] at h6
              rw [if_pos h6, if_neg (by decide), u6 _ h6]
              exact step
            · rw [hb0] at h6
              rw [if_neg (by rw [h6]; decide), u6 _ h6]
              exact step
      · rw [if_pos hl]
        refine r_dig (by omega) ⟨_, rfl, ?_⟩
        simp only [bI_0]
        by_cases hg : isD c = true
        · rw [if_neg (fun z => z hg)]
          have hcc := isD_iff.mp hg
          refine sg_138_44 _ _ _ ?_
          refine r_let (by omega) ⟨_, rfl, ?_⟩
          rw [bI_f hl, if_pos rfl]
          have ea : adv (c :: r) = ((c :: r).takeWhile isD).length := by
            unfold adv
            dsimp only
            rw [if_neg hl, if_pos hg]
          have htw : ∀ x, x ∈ (c :: r).takeWhile isD → isD x = true := fun x hx => tw_mem _ x hx
          have := d60 (k := k) (d := d) (x2 := nI c) (K := K) hL hX h1 ((c :: r).takeWhile isD) ((c :: r).dropWhile isD) 0 0 (by rw [Nat.add_zero, hd]; exact tw_split _) htw (fun x r' e => dw_head _ _ _ e) (fun _ => by decide) (by omega) ?_
          · exact this
          · rw [Nat.zero_add, ← ea]
            have e0 : tokA (c :: r) = (if ((c :: r).takeWhile isD).length ≤ 9 then some (2, dvl 0 ((c :: r).takeWhile isD)) else none) := by
              unfold tokA
              dsimp only
              rw [if_neg hl, if_pos hg]
            rw [← ea] at e0
            refine sg_138_178 _ _ _ _ _ ?_
            rw [if_neg (by decide)]
            refine sg_138_194 _ _ _ _ _ ?_
            by_cases h9 : adv (c :: r) ≤ 9
            · rw [if_pos h9] at e0
              have hlt := dvl_lt ((c :: r).takeWhile isD) 0 (fun x hx => isD_iff.mp (htw x hx))
              rw [← ea] at hlt
              have hp : (10 : Nat) ^ adv (c :: r) ≤ 10 ^ 9 := Nat.pow_le_pow_right (by decide) h9
              have hv : dvl 0 ((c :: r).takeWhile isD) < 2 ^ 30 := by
                have : (10 : Nat) ^ 9 < 2 ^ 30 := by decide
                omega
              have step : WH (d + 1) 138 266 [(0, .ref 42), (1, .int (nI k)), (2, .int (nI c)), (3, .int (nI (adv (c :: r)))), (4, .int (dv (adv (c :: r)) (dvl 0 ((c :: r).takeWhile isD)))), (5, .int (nI 3))] [] m K := by
                refine r_266 (t := (2, dvl 0 ((c :: r).takeWhile isD))) hS0 (by decide) (by decide) (fun _ => ⟨rfl, ?_, Or.inr (Or.inl ⟨rfl, hv⟩)⟩) rfl hadv.1 (by omega) (good _ (by omega) e0)
                unfold wr
                rw [if_neg (show ¬ (2 = 19) by decide)]
                unfold dv eW
                rw [if_pos h9, if_pos (Or.inr rfl)]
              rcases (by omega : b = 0 ∨ b = 1) with hb0 | hb0
              · rw [hb0] at h6
                rw [if_pos h6, if_pos rfl, if_pos (by rw [nIle (by omega) (by omega)]; exact h9), uF_eq h6]
                exact step
              · rw [hb0] at h6
                rw [if_neg (by rw [h6]; decide), uF_eq h6]
                exact step
            · rw [if_neg h9] at e0
              have step : WH (d + 1) 138 266 [(0, .ref 42), (1, .int (nI k)), (2, .int (nI c)), (3, .int (nI (adv (c :: r)))), (4, .int (dv (adv (c :: r)) (dvl 0 ((c :: r).takeWhile isD)))), (5, .int (nI 3))] [] (m.uF 42 6 (nI 1)) K := by
                have f1 : Fq [2, 6] [44, 45] m (m.uF 42 6 (nI 1)) := Fq.uF (Fq.refl _ _ _) (by decide) _
                refine r_266 (b := 1) (t := (0, 0)) (ts := ts) ⟨hL.fq f1, hX.fq f1 (by decide), h1, ⟨j, h2, hj⟩, rfl, by decide, fun z => by omega, f0.trans f1⟩ (by decide) (by decide) (fun z => by omega) rfl hadv.1 (by omega) (badq _ _ (by omega) e0 hadv.1 (by omega))
              rcases (by omega : b = 0 ∨ b = 1) with hb0 | hb0
              · rw [hb0] at h6
                rw [if_pos h6, if_pos rfl, if_neg (by rw [nIle (by omega) (by omega)]; exact h9)]
                exact step
              · rw [hb0] at h6
                rw [if_neg (by rw [h6]; decide)]
                exact step
        · rw [if_pos hg]
          have ea : adv (c :: r) = 1 := by
            unfold adv
            dsimp only
            rw [if_neg hl, if_neg hg]
          have et : tokA (c :: r) = if 65 ≤ c ∧ c ≤ 67 then some (1, c - 65) else if isS c = true then some (c, 0) else none := by
            unfold tokA
            dsimp only
            rw [if_neg hl, if_neg hg]
          have oth : ¬ (65 ≤ c ∧ c ≤ 67) → WH (d + 1) 138 253 [(0, .ref 42), (1, .int (nI k)), (2, .int (nI c)), (3, .int (nI 1)), (4, .int (nI 0)), (5, .int (nI 0))] [] m K := by
            intro hno
            rw [if_neg hno] at et
            refine sg_138_253 _ _ _ _ _ ?_
            refine r_sig (by omega) ⟨_, rfl, ?_⟩
            simp only [bI_0]
            by_cases hs : isS c = true
            · rw [if_neg (fun z => z hs)]
              rw [if_pos hs] at et
              have hss := isS_iff.mp hs
              have h32 : c ≠ 32 := by omega
              have g := good _ h32 et
              rw [ea] at g
              refine r_266 (t := (c, 0)) (n := 1) hS0 (by decide) (by decide) (fun _ => ⟨?_, ?_, Or.inr (Or.inr (Or.inr (Or.inr hs)))⟩) rfl (by decide) (by omega) g
              · unfold eK
                dsimp only
                rw [if_neg (by omega), if_neg (by omega), if_neg (by omega)]
              · unfold wr
                dsimp only
                rw [if_neg (by omega)]
                unfold eW
                dsimp only
                rw [if_neg (by omega), if_neg (by omega), if_neg (by omega)]
            · rw [if_pos hs]
              rw [if_neg hs] at et
              refine r_266n hS0 (by omega) (by omega) (fun m' b' q1 q2 hS' => ?_)
              by_cases e32 : c = 32
              · rw [if_pos e32] at hQ
                have eb := q1 e32
                subst eb
                refine ih _ m' b' ts (by omega) (by omega) hS' ?_
                rw [hdc.2.2.1]
                exact hQ
              · have eb := q2 e32
                subst eb
                exact badq _ 1 e32 et (by decide) (by omega) m' hS'
          simp (disch := omega) only [nIlt]
          by_cases ha : c < 65
          · rw [if_pos ha]; exact oth (by omega)
          · rw [if_neg ha]
            by_cases hb' : 67 < c
            · rw [if_pos hb']; exact oth (by omega)
            · rw [if_neg hb']
              rw [if_pos ⟨by omega, by omega⟩] at et
              have g := good _ (by omega) et
              rw [ea] at g
              rw [nIsub (by omega)]
              refine r_266 (t := (1, c - 65)) (n := 1) hS0 (by decide) (by decide) (fun _ => ⟨rfl, ?_, Or.inl ⟨rfl, by show c - 65 < 3; omega⟩⟩) rfl (by decide) (by omega) g
              unfold wr
              rw [if_neg (show ¬ (1 = 19) by decide)]
              unfold eW
              rw [if_pos (Or.inl rfl)]
theorem lxW_len {f : List Nat → Option Tk} : ∀ (s : List Nat) (p : Nat) (ts : List Tk), lxW f p s = some ts → ts.length ≤ s.length
  | [], p, ts, h => by cases h; exact Nat.le_refl _
  | c :: r, p, ts, h => by
    have e0 : lxW f p (c :: r) = if c = 32 ∨ goes p c = true then lxW f c r else (match f (c :: r) with
      | some t => (match lxW f c r with | some ts => some (t :: ts) | none => none)
      | none => none) := rfl
    rw [e0] at h
    rw [List.length_cons]
    split at h
    · have := lxW_len r c ts h; omega
    · split at h
      · split at h
        · next us e =>
          cases h
          have := lxW_len r c us e
          rw [List.length_cons]; omega
        · cases h
      · cases h
theorem c_138 (hL : Len m) (hX : TX 43 m cl) (h1 : m.F 42 1 = nI cl.length) (h5 : m.F 42 5 = nI 0) (h6 : m.F 42 6 = nI 0)
    (k1 : ∀ ts, lxW tokA 32 cl = some ts → ∀ m', RT m' ts.length ts → m'.F 42 6 = nI 0 → Fq [2, 6] [44, 45] m m' → K none m')
    (k2 : lxW tokA 32 cl = none → ∀ m', m'.F 42 6 = nI 1 → Fq [2, 6] [44, 45] m m' → K none m') : WP (d + 1) 138 [.ref 42] m K := by
  refine sp_138 ?_
  have f1 : Fq [2, 6] [44, 45] m (m.uF 42 2 (nI 0)) := Fq.uF (Fq.refl _ _ _) (by decide) _
  refine lp_138 cl.length 0 _ 0 [] (by omega) (by omega) ⟨hL.fq f1, hX.fq f1 (by decide), h1, ⟨0, rfl, by omega⟩, h6, by decide, fun _ => ⟨Nat.le_refl _, rfl, fun i hi => by cases hi⟩, f1⟩ ⟨fun us _ e m' a1 a2 a3 a4 => ?_, fun z m' a3 a4 => ?_⟩
  · have hlen := lxW_len cl 32 us e
    have hcl := hX.1
    refine k1 us e m' ⟨?_, a1.1, Nat.le_refl _, ?_, a2, fun i hi => ?_⟩ a3 a4
    · rw [a4.f (by decide), Nat.sub_self]; exact h5
    · omega
    · rw [Nat.sub_self, Nat.zero_add]
      exact a1.2 i hi
  · rcases z with z | z
    · cases z
    · exact k2 z m' a3 a4
end R60
