/-! THE REFERENCE: steps, the stack of what waits -/
def rop (s : Nat) : Nat := if s = 2 then 1 else if s = 15 then 2 else if s = 3 then 3 else if s = 43 then 4 else if s = 45 then 5 else if s = 42 then 6 else if s = 47 then 7 else if s = 30 then 8 else if s = 61 then 9 else if s = 60 then 10 else if s = 62 then 11 else if s = 31 then 12 else if s = 18 then 13 else if s = 17 then 14 else if s = 16 then 15 else 0
def rar (x : Op) : Nat := if x.1 = 3 then 4 * x.2.2 + x.2.1 else x.2.1
def RC (m : Mm) (cs : List Op) : Prop := m.F 42 7 = nI cs.length ∧ ∀ i, i < cs.length → (m.A 46).getD i 0 = nI (rop (cs.getD i (0, 0, 0)).1) ∧ (m.A 47).getD i 0 = nI (rar (cs.getD i (0, 0, 0)))
def RW (m : Mm) (W : List Nat) : Prop := m.F 42 10 = nI W.length ∧ ∀ i, i < W.length → (m.A 48).getD i 0 = nI (W.getD i 0) ∧ W.getD i 0 < 100
def topW (W : List Nat) : Nat := W.getD (W.length - 1) 0
theorem topW_snoc (W : List Nat) (x : Nat) : topW (W ++ [x]) = x := by
  unfold topW
  rw [getD_snoc2, if_pos (by rw [List.length_append]; rfl)]
theorem topW_nil : topW [] = 0 := rfl
section R41
variable {d N : Nat} {m m1 : Mm} {K : Option Value → Mm → Prop} {q : List Tk} {cs : List Op} {W : List Nat}
theorem RC.fq {G S : List Nat} (h : RC m cs) (k : Fq G S m m1) (h1 : 7 ∉ G) (h2 : 46 ∉ (42 :: S)) (h3 : 47 ∉ (42 :: S)) : RC m1 cs := by
  obtain ⟨a, b⟩ := h
  refine ⟨by rw [k.f h1]; exact a, ?_⟩
  rw [k.a h2, k.a h3]; exact b
theorem RW.fq {G S : List Nat} (h : RW m W) (k : Fq G S m m1) (h1 : 10 ∉ G) (h2 : 48 ∉ (42 :: S)) : RW m1 W := by
  obtain ⟨a, b⟩ := h
  refine ⟨by rw [k.f h1]; exact a, ?_⟩
  rw [k.a h2]; exact b
/-- any step, noted -/
theorem c_emitJ {c : Nat} {x y : Int32} (hL : Len m) (h : m.F 42 7 = nI c) (hc : c < 110) (k : ∀ m', m'.F 42 7 = nI (c + 1) → m'.A 46 = (m.A 46).set c x → m'.A 47 = (m.A 47).set c y → Fq [7] [46, 47] m m' → K none m') : WP d 145 [.ref 42, .int x, .int y] m K := by
  have l1 : (m.A 46).length = 110 := hL.a (by decide) rfl
  have l2 : (m.A 47).length = 110 := hL.a (by decide) rfl
  refine sp_145 _ _ ?_
  simp (disch := omega) only [h, l1, l2, ix_nI, nI_add]
  have ho : ok 110 (nI c) := ok_nI (by omega) (by decide)
  refine ⟨ho, ho, k _ ?_ rfl rfl ?_⟩
  · rw [mF_F, if_pos ⟨rfl, rfl⟩]
  · refine Fq.uF (Fq.uA (Fq.uA (Fq.refl _ _ m) (by decide) ?_) (by decide) ?_) (by decide) _
    · rw [List.length_set]
    · rw [List.length_set]; rfl
theorem c_emit {x : Op} (hL : Len m) (h : RC m cs) (hc : cs.length < 110) {a b : Int32} (ha : a = nI (rop x.1)) (hb : b = nI (rar x)) (k : ∀ m', RC m' (cs ++ [x]) → Fq [7] [46, 47] m m' → K none m') : WP d 145 [.ref 42, .int a, .int b] m K := by
  have l1 : (m.A 46).length = 110 := hL.a (by decide) rfl
  have l2 : (m.A 47).length = 110 := hL.a (by decide) rfl
  refine c_emitJ hL h.1 hc (fun m' a1 a2 a3 f => k m' ⟨?_, ?_⟩ f)
  · rw [a1, List.length_append]; rfl
  · intro i hi
    rw [List.length_append, List.length_cons, List.length_nil] at hi
    rw [a2, a3, getD_set _ _ _ _ _ (by omega), getD_set _ _ _ _ _ (by omega), getD_snoc2]
    by_cases h1 : i = cs.length
    · rw [if_pos h1, if_pos h1, if_pos h1]; exact ⟨ha, hb⟩
    · rw [if_neg h1, if_neg h1, if_neg h1]; exact h.2 i (by omega)
theorem c_top (hL : Len m) (h : RW m W) (hW : W.length ≤ 90) (k : K (some (.int (nI (topW W)))) m) : WP d 147 [.ref 42] m K := by
  have l1 : (m.A 48).length = 101 := hL.a (by decide) rfl
  refine sp_147 ?_
  by_cases h0 : W.length = 0
  · have e : W = [] := List.length_eq_zero_iff.mp h0
    subst e
    rw [h.1]
    rw [if_pos (by decide)]
    exact k
  · have hi := (h.2 (W.length - 1) (by omega)).1
    simp (disch := omega) only [h.1, nIle, nIsub, ix_nI, l1, hi]
    rw [if_neg (by omega)]
    exact ⟨ok_nI (by omega) (by decide), k⟩
theorem RW.push {x : Nat} (hL : Len m) (h : RW m W) (hW : W.length ≤ 90) (hx : x < 100) : RW ((m.uA 48 ((m.A 48).set W.length (nI x))).uF 42 10 (nI (W.length + 1))) (W ++ [x]) := by
  have l1 : (m.A 48).length = 101 := hL.a (by decide) rfl
  refine ⟨?_, fun i hi => ?_⟩
  · rw [mF_F, if_pos ⟨rfl, rfl⟩, List.length_append]; rfl
  · rw [List.length_append, List.length_cons, List.length_nil] at hi
    show ((m.A 48).set W.length (nI x)).getD i 0 = _ ∧ _
    rw [getD_set _ _ _ _ _ (by omega), getD_snoc2]
    by_cases h1 : i = W.length
    · rw [if_pos h1, if_pos h1]; exact ⟨rfl, hx⟩
    · rw [if_neg h1, if_neg h1]; exact h.2 i (by omega)
theorem RW.pop {x : Nat} (h : RW m (W ++ [x])) : RW (m.uF 42 10 (nI W.length)) W := by
  refine ⟨?_, fun i hi => ?_⟩
  · rw [mF_F, if_pos ⟨rfl, rfl⟩]
  · have := h.2 i (by rw [List.length_append]; omega)
    rw [getD_snoc2, if_neg (by omega)] at this
    exact this
theorem RW.last {x : Nat} (h : RW m (W ++ [x])) : (m.A 48).getD W.length 0 = nI x := by
  have := h.2 W.length (by rw [List.length_append]; exact Nat.lt_succ_self _)
  rw [getD_snoc2, if_pos rfl] at this
  exact this.1
theorem RW.lt (h : RW m W) : topW W < 100 := by
  by_cases h0 : W.length = 0
  · have e : W = [] := List.length_eq_zero_iff.mp h0
    subst e
    decide
  · exact (h.2 (W.length - 1) (by omega)).2
end R41
/-- how many of what waits are nests -/
def nst (W : List Nat) : Nat := (W.filter (fun x => x == 8 || x == 16)).length
theorem nst_app (W V : List Nat) : nst (W ++ V) = nst W + nst V := by
  unfold nst
  rw [List.filter_append, List.length_append]
theorem nst_rep (k : Nat) : nst (List.replicate k 8) = k := by
  induction k with
  | zero => rfl
  | succ k ih =>
    have : nst (List.replicate (k + 1) 8) = nst (List.replicate k 8) + 1 := rfl
    rw [this, ih]
theorem nst_le (W : List Nat) : nst W ≤ W.length := List.length_filter_le _ _
def GX : List Nat := [5, 6, 7, 10, 12, 16]
def SXr : List Nat := [46, 47, 48]
/-- a configuration of the reference's expression -/
def RX (m : Mm) (N b o : Nat) (q : List Tk) (cs : List Op) (W : List Nat) (wt : Nat) : Prop := Len m ∧ RT m N q ∧ RC m cs ∧ RW m W ∧ m.F 42 12 = nI (nst W) ∧ m.F 42 15 = nI o ∧ m.F 42 16 = nI wt ∧ m.F 42 6 = nI 0 ∧ cs.length + W.length + q.length ≤ b ∧ b ≤ N ∧ o ≤ 8
/-- a bad end: what is still known -/
def RJ (m0 : Mm) (N b : Nat) (m : Mm) : Prop := Fq GX SXr m0 m ∧ m.F 42 6 = nI 1 ∧ (∃ q, RT m N q) ∧ ∃ c w, c + w ≤ b + 1 ∧ m.F 42 7 = nI c ∧ m.F 42 10 = nI w
section SG
variable {d N : Nat} {m m1 : Mm} {K : Option Value → Mm → Prop} {q : List Tk} {cs : List Op}
theorem c_signs {W : List Nat} (hW : topW W ≠ 8) : ∀ (k : Nat) (m : Mm) (cs : List Op), Len m → RC m cs → RW m (W ++ List.replicate k 8) → m.F 42 12 = nI (nst (W ++ List.replicate k 8)) → cs.length + (W ++ List.replicate k 8).length ≤ 90 → (∀ m', RC m' (cs ++ List.replicate k (opr 30)) → RW m' W → m'.F 42 12 = nI (nst W) → Fq [7, 10, 12] [46, 47] m m' → K none m') → WH (d + 2) 148 0 [(0, .ref 42)] [] m K := by
  intro k
  induction k with
  | zero =>
    intro m cs hL hC hR hn hl k
    rw [List.replicate_zero, List.append_nil] at hR hn hl
    refine sg_148_0 ?_
    refine c_top hL hR (by omega) ⟨_, rfl, ?_⟩
    have ht := hR.lt
    simp (disch := omega) only [nIeq]
    rw [if_neg hW]
    refine k m ?_ hR hn (Fq.refl _ _ m)
    rw [List.replicate_zero, List.append_nil]; exact hC
  | succ k ih =>
    intro m cs hL hC hR hn hl k0
    have e1 : W ++ List.replicate (k + 1) 8 = (W ++ List.replicate k 8) ++ [8] := by
      rw [List.append_assoc, List.replicate_succ']
    rw [e1] at hR hn hl
    rw [List.length_append, List.length_cons, List.length_nil] at hl
    rw [nst_app] at hn
    refine sg_148_0 ?_
    refine c_top hL hR (by rw [List.length_append, List.length_cons, List.length_nil]; omega) ⟨_, rfl, ?_⟩
    rw [topW_snoc, if_pos rfl]
    have h10 : m.F 42 10 = nI ((W ++ List.replicate k 8).length + 1) := by rw [hR.1, List.length_append]; rfl
    rw [h10, hn, nIsub (by omega), nIsub (show 1 ≤ nst (W ++ List.replicate k 8) + nst [8] from by show 1 ≤ _ + 1; omega), Nat.add_sub_cancel, show nst (W ++ List.replicate k 8) + nst [8] - 1 = nst (W ++ List.replicate k 8) from by show _ + 1 - 1 = _; omega]
    have f1 : Fq [7, 10, 12] [46, 47] m ((m.uF 42 10 (nI (W ++ List.replicate k 8).length)).uF 42 12 (nI (nst (W ++ List.replicate k 8)))) := Fq.uF (Fq.uF (Fq.refl _ _ m) (by decide) _) (by decide) _
    have hC1 : RC ((m.uF 42 10 (nI (W ++ List.replicate k 8).length)).uF 42 12 (nI (nst (W ++ List.replicate k 8)))) cs := hC
    refine c_emit (x := opr 30) (hL.fq f1) hC1 (by omega) rfl rfl (fun m2 hC2 f2 => ⟨rfl, ?_⟩)
    have hR2 : RW m2 (W ++ List.replicate k 8) := RW.fq (RW.pop hR) (m := m.uF 42 10 (nI (W ++ List.replicate k 8).length)) (G := [7, 12]) (S := [46, 47]) ⟨?_, ?_⟩ (by decide) (by decide)
    · refine ih m2 (cs ++ [opr 30]) ((hL.fq f1).fq f2) hC2 hR2 ?_ ?_ (fun m3 a1 a2 a3 f3 => k0 m3 ?_ a2 a3 ?_)
      · rw [f2.f (by decide), mF_F, if_pos ⟨rfl, rfl⟩]
      · rw [List.length_append, List.length_cons, List.length_nil]; omega
      · rw [List.append_assoc] at a1
        exact a1
      · exact (f1.trans (f2.mono (by decide) (by decide))).trans f3
    · exact (Fr.uF (Fr.refl _ _) (by decide) _ _ : Fr (42 :: [46, 47]) (m.uF 42 10 (nI (W ++ List.replicate k 8).length)) _).trans f2.1
    · intro f hf
      rw [f2.f (fun z => hf (by rcases List.mem_cons.mp z with z | z; exact List.mem_cons.mpr (Or.inl z); cases z)), mF_F, if_neg (fun z => hf (by rw [z.2]; decide))]
end SG
