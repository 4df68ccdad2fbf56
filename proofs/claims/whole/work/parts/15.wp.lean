/-! total runs with a condition behind them: rules, a row an instruction -/
def sm_wp (d M pc : Nat) (lv : sm_L) (st : List Value) (h : sm_H) (Q : Option Value → sm_H → Prop) : Prop := ∃ v g, sm_run none d M pc lv st h (v, g) ∧ Q v g
section SMQ
variable {d M pc a b pc' : Nat} {i : Instr} {lv lv' : sm_L} {st st' r : List Value} {h h2 : sm_H} {Q Q' : Option Value → sm_H → Prop}
theorem sm_wp.mono (k : sm_wp d M pc lv st h Q) (hQ : ∀ v g, Q v g → Q' v g) : sm_wp d M pc lv st h Q' := by
  obtain ⟨v, g, h1, h2⟩ := k
  exact ⟨v, g, h1, hQ v g h2⟩
theorem sm_wp.up {d' : Nat} (k : sm_wp d M pc lv st h Q) (hd : d ≤ d') : sm_wp d' M pc lv st h Q := by
  obtain ⟨v, g, h1, h2⟩ := k
  exact ⟨v, g, h1.up (Or.inr rfl) hd, h2⟩
theorem wp_p (hf : sm_find (sm_tab M) pc = some (i, a, b)) (hp : sm_p none (sm_maxL M) pc i a b lv st h = some (pc', lv', st')) (k : sm_wp d M pc' lv' st' h Q) : sm_wp d M pc lv st h Q := by
  obtain ⟨v, g, h1, h2⟩ := k
  exact ⟨v, g, rn_p hf hp h1, h2⟩
theorem wp_w {q : Nat} {x : sm_E} (hf : sm_find (sm_tab M) pc = some (i, a, b)) (hp : sm_w i a b st h = some (r, q, x)) (hpc : pc + sm_ln i = pc') (hh : h.set q x = h2) (k : sm_wp d M pc' lv r h2 Q) : sm_wp d M pc lv st h Q := by
  subst hh
  obtain ⟨v, g, h1, h2⟩ := k
  exact ⟨v, g, rn_w hf hp hpc h1, h2⟩
theorem wp_cv {idx : Nat} {As : List Value} (hf : sm_find (sm_tab M) pc = some (.invokevirtual idx, a, b)) (hv : sm_inv true a st h = some (As, r)) (hpc : pc + 3 = pc') (c : sm_wp d a 0 (lv_args 0 As) [] h (fun v g => sm_wp (d + 1) M pc' lv (v.toList ++ r) g Q)) : sm_wp (d + 1) M pc lv st h Q := by
  obtain ⟨v, g, h1, v2, g2, h2, h3⟩ := c
  exact ⟨v2, g2, rn_cv hf hv rfl hpc h1 h2, h3⟩
theorem wp_cs {idx : Nat} {As : List Value} (hf : sm_find (sm_tab M) pc = some (.invokestatic idx, a, b)) (hb : Nat.ble b 2 = true) (hv : sm_inv false a st h = some (As, r)) (hpc : pc + 3 = pc') (c : sm_wp d a 0 (lv_args 0 As) [] h (fun v g => sm_wp (d + 1) M pc' lv (v.toList ++ r) g Q)) : sm_wp (d + 1) M pc lv st h Q := by
  obtain ⟨v, g, h1, v2, g2, h2, h3⟩ := c
  exact ⟨v2, g2, rn_cs hf hb hv rfl hpc h1 h2, h3⟩
theorem wp_r {v : Option Value} (hf : sm_find (sm_tab M) pc = some (i, a, b)) (hp : sm_rt M i st h = some (v, h)) (hq : Q v h) : sm_wp d M pc lv st h Q := ⟨v, h, rn_r hf hp, hq⟩
theorem wp_goE {w : Option Value × sm_H} {n : Nat} (hf : sm_find (sm_tab M) pc = some (i, a, b)) (k : sm_go none (sm_ex none n) d M pc i a b lv st h = some w) (hq : Q w.1 w.2) : sm_wp d M pc lv st h Q := ⟨w.1, w.2, rn_go hf k, hq⟩
/-- Math.min and Math.max -/
theorem wp_mm {idx : Nat} (hf : sm_find (sm_tab M) pc = some (.invokestatic idx, a, b)) (hb : Nat.beq b 9 = false) (hb2 : Nat.blt 2 b = true) (hm : sm_mt b st = some st') (hpc : pc + 3 = pc') (k : sm_wp (d + 1) M pc' lv st' h Q) : sm_wp (d + 1) M pc lv st h Q := by
  obtain ⟨v, g, ⟨n, h1⟩, h2⟩ := k
  subst hpc
  refine wp_goE (n := n) (w := (v, g)) hf ?_ h2
  show (bif Nat.beq b 9 then _ else bif Nat.blt 2 b then sm_mm (sm_ex none n) b (d + 1) M pc lv st h else _) = some (v, g)
  rw [hb, hb2]
  show (match sm_mt b st with | some r => sm_ex none n (d + 1) M (pc + 3) lv r h | none => none) = some (v, g)
  rw [hm]
  exact h1
/-- System.arraycopy -/
theorem wp_ac {idx q : Nat} {x : sm_E} (hf : sm_find (sm_tab M) pc = some (.invokestatic idx, a, 9)) (hm : sm_ac st h = some (r, q, x)) (hpc : pc + 3 = pc') (hh : h.set q x = h2) (k : sm_wp (d + 1) M pc' lv r h2 Q) : sm_wp (d + 1) M pc lv st h Q := by
  obtain ⟨v, g, ⟨n, h1⟩, h3⟩ := k
  subst hpc
  subst hh
  refine wp_goE (n := n) (w := (v, g)) hf ?_ h3
  show (match sm_ac st h with | some (r, q, x) => sm_ex none n (d + 1) M (pc + 3) lv r (h.set q x) | none => none) = some (v, g)
  rw [hm]
  exact h1
theorem wp_iadd {x y v : Int32} (hf : sm_find (sm_tab M) pc = some (.iadd, a, b)) (hv : x + y = v) (hpc : pc + 1 = pc') (k : sm_wp d M pc' lv (.int v :: r) h Q) : sm_wp d M pc lv (.int y :: .int x :: r) h Q := by
  subst hv
  subst hpc
  exact wp_p hf rfl k
theorem wp_isub {x y v : Int32} (hf : sm_find (sm_tab M) pc = some (.isub, a, b)) (hv : x - y = v) (hpc : pc + 1 = pc') (k : sm_wp d M pc' lv (.int v :: r) h Q) : sm_wp d M pc lv (.int y :: .int x :: r) h Q := by
  subst hv
  subst hpc
  exact wp_p hf rfl k
theorem wp_imul {x y v : Int32} (hf : sm_find (sm_tab M) pc = some (.imul, a, b)) (hv : x * y = v) (hpc : pc + 1 = pc') (k : sm_wp d M pc' lv (.int v :: r) h Q) : sm_wp d M pc lv (.int y :: .int x :: r) h Q := by
  subst hv
  subst hpc
  exact wp_p hf rfl k
theorem wp_iand {x y v : Int32} (hf : sm_find (sm_tab M) pc = some (.iand, a, b)) (hv : x &&& y = v) (hpc : pc + 1 = pc') (k : sm_wp d M pc' lv (.int v :: r) h Q) : sm_wp d M pc lv (.int y :: .int x :: r) h Q := by
  subst hv
  subst hpc
  exact wp_p hf rfl k
theorem wp_ior {x y v : Int32} (hf : sm_find (sm_tab M) pc = some (.ior, a, b)) (hv : x ||| y = v) (hpc : pc + 1 = pc') (k : sm_wp d M pc' lv (.int v :: r) h Q) : sm_wp d M pc lv (.int y :: .int x :: r) h Q := by
  subst hv
  subst hpc
  exact wp_p hf rfl k
theorem wp_ixor {x y v : Int32} (hf : sm_find (sm_tab M) pc = some (.ixor, a, b)) (hv : x ^^^ y = v) (hpc : pc + 1 = pc') (k : sm_wp d M pc' lv (.int v :: r) h Q) : sm_wp d M pc lv (.int y :: .int x :: r) h Q := by
  subst hv
  subst hpc
  exact wp_p hf rfl k
theorem wp_ishl {x y v : Int32} (hf : sm_find (sm_tab M) pc = some (.ishl, a, b)) (hv : x <<< (y &&& 31) = v) (hpc : pc + 1 = pc') (k : sm_wp d M pc' lv (.int v :: r) h Q) : sm_wp d M pc lv (.int y :: .int x :: r) h Q := by
  subst hv
  subst hpc
  exact wp_p hf rfl k
theorem wp_ishr {x y v : Int32} (hf : sm_find (sm_tab M) pc = some (.ishr, a, b)) (hv : x >>> (y &&& 31) = v) (hpc : pc + 1 = pc') (k : sm_wp d M pc' lv (.int v :: r) h Q) : sm_wp d M pc lv (.int y :: .int x :: r) h Q := by
  subst hv
  subst hpc
  exact wp_p hf rfl k
theorem wp_idiv {x y v : Int32} (hf : sm_find (sm_tab M) pc = some (.idiv, a, b)) (hy : ¬ y = 0) (hv : x / y = v) (hpc : pc + 1 = pc') (k : sm_wp d M pc' lv (.int v :: r) h Q) : sm_wp d M pc lv (.int y :: .int x :: r) h Q := by
  subst hv
  subst hpc
  refine wp_p (lv' := lv) hf ?_ k
  show (if y = 0 then none else some (pc + 1, lv, Value.int (x / y) :: r)) = _
  rw [if_neg hy]
theorem wp_irem {x y v : Int32} (hf : sm_find (sm_tab M) pc = some (.irem, a, b)) (hy : ¬ y = 0) (hv : x - x / y * y = v) (hpc : pc + 1 = pc') (k : sm_wp d M pc' lv (.int v :: r) h Q) : sm_wp d M pc lv (.int y :: .int x :: r) h Q := by
  subst hv
  subst hpc
  refine wp_p (lv' := lv) hf ?_ k
  show (if y = 0 then none else some (pc + 1, lv, Value.int (x - x / y * y) :: r)) = _
  rw [if_neg hy]
theorem wp_ineg {x v : Int32} (hf : sm_find (sm_tab M) pc = some (.ineg, a, b)) (hv : -x = v) (hpc : pc + 1 = pc') (k : sm_wp d M pc' lv (.int v :: r) h Q) : sm_wp d M pc lv (.int x :: r) h Q := by
  subst hv
  subst hpc
  exact wp_p hf rfl k
theorem wp_lneg {x v : Int64} (hf : sm_find (sm_tab M) pc = some (.lneg, a, b)) (hv : -x = v) (hpc : pc + 1 = pc') (k : sm_wp d M pc' lv (.long v :: r) h Q) : sm_wp d M pc lv (.long x :: r) h Q := by
  subst hv
  subst hpc
  exact wp_p hf rfl k
theorem wp_ladd {x y v : Int64} (hf : sm_find (sm_tab M) pc = some (.ladd, a, b)) (hv : x + y = v) (hpc : pc + 1 = pc') (k : sm_wp d M pc' lv (.long v :: r) h Q) : sm_wp d M pc lv (.long y :: .long x :: r) h Q := by
  subst hv
  subst hpc
  exact wp_p hf rfl k
theorem wp_lsub {x y v : Int64} (hf : sm_find (sm_tab M) pc = some (.lsub, a, b)) (hv : x - y = v) (hpc : pc + 1 = pc') (k : sm_wp d M pc' lv (.long v :: r) h Q) : sm_wp d M pc lv (.long y :: .long x :: r) h Q := by
  subst hv
  subst hpc
  exact wp_p hf rfl k
theorem wp_lmul {x y v : Int64} (hf : sm_find (sm_tab M) pc = some (.lmul, a, b)) (hv : x * y = v) (hpc : pc + 1 = pc') (k : sm_wp d M pc' lv (.long v :: r) h Q) : sm_wp d M pc lv (.long y :: .long x :: r) h Q := by
  subst hv
  subst hpc
  exact wp_p hf rfl k
theorem wp_land {x y v : Int64} (hf : sm_find (sm_tab M) pc = some (.land, a, b)) (hv : x &&& y = v) (hpc : pc + 1 = pc') (k : sm_wp d M pc' lv (.long v :: r) h Q) : sm_wp d M pc lv (.long y :: .long x :: r) h Q := by
  subst hv
  subst hpc
  exact wp_p hf rfl k
theorem wp_lor {x y v : Int64} (hf : sm_find (sm_tab M) pc = some (.lor, a, b)) (hv : x ||| y = v) (hpc : pc + 1 = pc') (k : sm_wp d M pc' lv (.long v :: r) h Q) : sm_wp d M pc lv (.long y :: .long x :: r) h Q := by
  subst hv
  subst hpc
  exact wp_p hf rfl k
theorem wp_ldiv {x y v : Int64} (hf : sm_find (sm_tab M) pc = some (.ldiv, a, b)) (hy : ¬ y = 0) (hv : x / y = v) (hpc : pc + 1 = pc') (k : sm_wp d M pc' lv (.long v :: r) h Q) : sm_wp d M pc lv (.long y :: .long x :: r) h Q := by
  subst hv
  subst hpc
  refine wp_p (lv' := lv) hf ?_ k
  show (if y = 0 then none else some (pc + 1, lv, Value.long (x / y) :: r)) = _
  rw [if_neg hy]
theorem wp_lcmp {x y : Int64} {v : Int32} (hf : sm_find (sm_tab M) pc = some (.lcmp, a, b)) (hv : lg_cmp x y = v) (hpc : pc + 1 = pc') (k : sm_wp d M pc' lv (.int v :: r) h Q) : sm_wp d M pc lv (.long y :: .long x :: r) h Q := by
  subst hv
  subst hpc
  exact wp_p hf rfl k
theorem wp_i2l {x : Int32} {v : Int64} (hf : sm_find (sm_tab M) pc = some (.i2l, a, b)) (hv : x.toInt64 = v) (hpc : pc + 1 = pc') (k : sm_wp d M pc' lv (.long v :: r) h Q) : sm_wp d M pc lv (.int x :: r) h Q := by
  subst hv
  subst hpc
  exact wp_p hf rfl k
theorem wp_l2i {x : Int64} {v : Int32} (hf : sm_find (sm_tab M) pc = some (.l2i, a, b)) (hv : x.toInt32 = v) (hpc : pc + 1 = pc') (k : sm_wp d M pc' lv (.int v :: r) h Q) : sm_wp d M pc lv (.long x :: r) h Q := by
  subst hv
  subst hpc
  exact wp_p hf rfl k
theorem wp_iinc {k0 : Nat} {e0 : Int} {x v : Int32} (hf : sm_find (sm_tab M) pc = some (.iinc k0 e0, a, b)) (hx : sm_lk lv k0 = some (.int x)) (hv : x + Int32.ofInt e0 = v) (hn : Nat.blt k0 (sm_maxL M) = true) (hl : sm_s1 lv k0 (.int v) = lv') (hpc : pc + 3 = pc') (k : sm_wp d M pc' lv' st h Q) : sm_wp d M pc lv st h Q := by
  subst hv
  subst hl
  subst hpc
  refine wp_p hf ?_ k
  show sm_ldI lv k0 _ = _
  unfold sm_ldI
  rw [hx]
  show (bif Nat.blt k0 (sm_maxL M) then _ else _) = _
  rw [hn]
  rfl
theorem wp_iaload {q n : Nat} {g : List Int32} {x : Int32} (hf : sm_find (sm_tab M) pc = some (.iaload, a, b)) (hq : h[q]? = some (.inl (0, .inl g))) (hn : n < g.length) (hl : g.length < 2 ^ 31) (hx : g.getD n 0 = x) (hpc : pc + 1 = pc') (k : sm_wp d M pc' lv (.int x :: r) h Q) : sm_wp d M pc lv (.int (nI n) :: .ref q :: r) h Q := by
  subst hx
  subst hpc
  have e1 : (nI n).toNatClampNeg = n := nI_clamp (by omega)
  have e2 : ¬ (nI n < 0 ∨ g.length ≤ (nI n).toNatClampNeg) := fun z => by
    rcases z with z | z
    · exact nI_pos (by omega) z
    · omega
  refine wp_p (lv' := lv) hf ?_ k
  show sm_arI h q 0 (nI n) _ = _
  unfold sm_arI
  rw [hq]
  show (if nI n < 0 ∨ g.length ≤ (nI n).toNatClampNeg then none else some (pc + 1, lv, Value.int (g.getD (nI n).toNatClampNeg 0) :: r)) = _
  rw [if_neg e2, e1]
theorem wp_caload {q n : Nat} {g : List Int32} {x : Int32} (hf : sm_find (sm_tab M) pc = some (.caload, a, b)) (hq : h[q]? = some (.inl (2, .inl g))) (hn : n < g.length) (hl : g.length < 2 ^ 31) (hx : g.getD n 0 = x) (hpc : pc + 1 = pc') (k : sm_wp d M pc' lv (.int x :: r) h Q) : sm_wp d M pc lv (.int (nI n) :: .ref q :: r) h Q := by
  subst hx
  subst hpc
  have e1 : (nI n).toNatClampNeg = n := nI_clamp (by omega)
  have e2 : ¬ (nI n < 0 ∨ g.length ≤ (nI n).toNatClampNeg) := fun z => by
    rcases z with z | z
    · exact nI_pos (by omega) z
    · omega
  refine wp_p (lv' := lv) hf ?_ k
  show sm_arI h q 2 (nI n) _ = _
  unfold sm_arI
  rw [hq]
  show (if nI n < 0 ∨ g.length ≤ (nI n).toNatClampNeg then none else some (pc + 1, lv, Value.int (g.getD (nI n).toNatClampNeg 0) :: r)) = _
  rw [if_neg e2, e1]
theorem wp_laload {q n : Nat} {g : List Int64} {x : Int64} (hf : sm_find (sm_tab M) pc = some (.laload, a, b)) (hq : h[q]? = some (.inl (1, .inr (.inl g)))) (hn : n < g.length) (hl : g.length < 2 ^ 31) (hx : g.getD n 0 = x) (hpc : pc + 1 = pc') (k : sm_wp d M pc' lv (.long x :: r) h Q) : sm_wp d M pc lv (.int (nI n) :: .ref q :: r) h Q := by
  subst hx
  subst hpc
  have e1 : (nI n).toNatClampNeg = n := nI_clamp (by omega)
  have e2 : ¬ (nI n < 0 ∨ g.length ≤ (nI n).toNatClampNeg) := fun z => by
    rcases z with z | z
    · exact nI_pos (by omega) z
    · omega
  refine wp_p (lv' := lv) hf ?_ k
  show sm_arL h q (nI n) _ = _
  unfold sm_arL
  rw [hq]
  show (if nI n < 0 ∨ g.length ≤ (nI n).toNatClampNeg then none else some (pc + 1, lv, Value.long (g.getD (nI n).toNatClampNeg 0) :: r)) = _
  rw [if_neg e2, e1]
theorem wp_baload {q n : Nat} {g : List Int32} {x : Int32} (hf : sm_find (sm_tab M) pc = some (.baload, a, b)) (hq : h[q]? = some (.inl (3, .inl g))) (hn : n < g.length) (hl : g.length < 2 ^ 31) (hx : g.getD n 0 = x) (hpc : pc + 1 = pc') (k : sm_wp d M pc' lv (.int x :: r) h Q) : sm_wp d M pc lv (.int (nI n) :: .ref q :: r) h Q := by
  subst hx
  subst hpc
  have e1 : (nI n).toNatClampNeg = n := nI_clamp (by omega)
  have e2 : ¬ (nI n < 0 ∨ g.length ≤ (nI n).toNatClampNeg) := fun z => by
    rcases z with z | z
    · exact nI_pos (by omega) z
    · omega
  refine wp_p (lv' := lv) hf ?_ k
  show sm_arI h q 3 (nI n) _ = _
  unfold sm_arI
  rw [hq]
  show (if nI n < 0 ∨ g.length ≤ (nI n).toNatClampNeg then none else some (pc + 1, lv, Value.int (g.getD (nI n).toNatClampNeg 0) :: r)) = _
  rw [if_neg e2, e1]
theorem wp_aaload {q n k0 : Nat} {g : List (Option Nat)} (hf : sm_find (sm_tab M) pc = some (.aaload, a, b)) (hq : h[q]? = some (.inl (4, .inr (.inr g)))) (hn : n < g.length) (hl : g.length < 2 ^ 31) (hx : g.getD n none = some k0) (hpc : pc + 1 = pc') (k : sm_wp d M pc' lv (.ref k0 :: r) h Q) : sm_wp d M pc lv (.int (nI n) :: .ref q :: r) h Q := by
  subst hpc
  have e1 : (nI n).toNatClampNeg = n := nI_clamp (by omega)
  have e2 : ¬ (nI n < 0 ∨ g.length ≤ (nI n).toNatClampNeg) := fun z => by
    rcases z with z | z
    · exact nI_pos (by omega) z
    · omega
  refine wp_p (lv' := lv) hf ?_ k
  show sm_arQ h q (nI n) _ = _
  unfold sm_arQ
  rw [hq]
  show (if nI n < 0 ∨ g.length ≤ (nI n).toNatClampNeg then none else (match g.getD (nI n).toNatClampNeg none with | some k => some (pc + 1, lv, Value.ref k :: r) | none => none)) = _
  rw [if_neg e2, e1, hx]
theorem wp_iastore {q n : Nat} {g g' : List Int32} {x : Int32} (hf : sm_find (sm_tab M) pc = some (.iastore, a, b)) (hq : h[q]? = some (.inl (0, .inl g))) (hn : n < g.length) (hl : g.length < 2 ^ 31) (hg : g.set n x = g') (hpc : pc + 1 = pc') (hh : h.set q (.inl (0, .inl g')) = h2) (k : sm_wp d M pc' lv r h2 Q) : sm_wp d M pc lv (.int x :: .int (nI n) :: .ref q :: r) h Q := by
  subst hg
  have e1 : (nI n).toNatClampNeg = n := nI_clamp (by omega)
  have e2 : ¬ (nI n < 0 ∨ g.length ≤ (nI n).toNatClampNeg) := fun z => by
    rcases z with z | z
    · exact nI_pos (by omega) z
    · omega
  refine wp_w hf ?_ hpc hh k
  show sm_arI h q 0 (nI n) _ = _
  unfold sm_arI
  rw [hq]
  show (if nI n < 0 ∨ g.length ≤ (nI n).toNatClampNeg then none else some (r, q, (.inl (0, .inl (g.set (nI n).toNatClampNeg x)) : sm_E))) = _
  rw [if_neg e2, e1]
theorem wp_castore {q n : Nat} {g g' : List Int32} {x : Int32} (hf : sm_find (sm_tab M) pc = some (.castore, a, b)) (hq : h[q]? = some (.inl (2, .inl g))) (hn : n < g.length) (hl : g.length < 2 ^ 31) (hg : g.set n (vp_nar .char x) = g') (hpc : pc + 1 = pc') (hh : h.set q (.inl (2, .inl g')) = h2) (k : sm_wp d M pc' lv r h2 Q) : sm_wp d M pc lv (.int x :: .int (nI n) :: .ref q :: r) h Q := by
  subst hg
  have e1 : (nI n).toNatClampNeg = n := nI_clamp (by omega)
  have e2 : ¬ (nI n < 0 ∨ g.length ≤ (nI n).toNatClampNeg) := fun z => by
    rcases z with z | z
    · exact nI_pos (by omega) z
    · omega
  refine wp_w hf ?_ hpc hh k
  show sm_arI h q 2 (nI n) _ = _
  unfold sm_arI
  rw [hq]
  show (if nI n < 0 ∨ g.length ≤ (nI n).toNatClampNeg then none else some (r, q, (.inl (2, .inl (g.set (nI n).toNatClampNeg (vp_nar .char x))) : sm_E))) = _
  rw [if_neg e2, e1]
theorem wp_bastore {q n : Nat} {g g' : List Int32} {x : Int32} (hf : sm_find (sm_tab M) pc = some (.bastore, a, b)) (hq : h[q]? = some (.inl (3, .inl g))) (hn : n < g.length) (hl : g.length < 2 ^ 31) (hg : g.set n (vp_nar .boolean x) = g') (hpc : pc + 1 = pc') (hh : h.set q (.inl (3, .inl g')) = h2) (k : sm_wp d M pc' lv r h2 Q) : sm_wp d M pc lv (.int x :: .int (nI n) :: .ref q :: r) h Q := by
  subst hg
  have e1 : (nI n).toNatClampNeg = n := nI_clamp (by omega)
  have e2 : ¬ (nI n < 0 ∨ g.length ≤ (nI n).toNatClampNeg) := fun z => by
    rcases z with z | z
    · exact nI_pos (by omega) z
    · omega
  refine wp_w hf ?_ hpc hh k
  show sm_arI h q 3 (nI n) _ = _
  unfold sm_arI
  rw [hq]
  show (if nI n < 0 ∨ g.length ≤ (nI n).toNatClampNeg then none else some (r, q, (.inl (3, .inl (g.set (nI n).toNatClampNeg (vp_nar .boolean x))) : sm_E))) = _
  rw [if_neg e2, e1]
theorem wp_lastore {q n : Nat} {g g' : List Int64} {x : Int64} (hf : sm_find (sm_tab M) pc = some (.lastore, a, b)) (hq : h[q]? = some (.inl (1, .inr (.inl g)))) (hn : n < g.length) (hl : g.length < 2 ^ 31) (hg : g.set n x = g') (hpc : pc + 1 = pc') (hh : h.set q (.inl (1, .inr (.inl g'))) = h2) (k : sm_wp d M pc' lv r h2 Q) : sm_wp d M pc lv (.long x :: .int (nI n) :: .ref q :: r) h Q := by
  subst hg
  have e1 : (nI n).toNatClampNeg = n := nI_clamp (by omega)
  have e2 : ¬ (nI n < 0 ∨ g.length ≤ (nI n).toNatClampNeg) := fun z => by
    rcases z with z | z
    · exact nI_pos (by omega) z
    · omega
  refine wp_w hf ?_ hpc hh k
  show sm_arL h q (nI n) _ = _
  unfold sm_arL
  rw [hq]
  show (if nI n < 0 ∨ g.length ≤ (nI n).toNatClampNeg then none else some (r, q, (.inl (1, .inr (.inl (g.set (nI n).toNatClampNeg x))) : sm_E))) = _
  rw [if_neg e2, e1]
theorem wp_if_eq {x : Int32} {off : Int} (hf : sm_find (sm_tab M) pc = some (.ifCond .eq off, a, b)) (hpc : pc + 3 = pc') (kt : x = 0 → sm_wp d M a lv r h Q) (kf : ¬ x = 0 → sm_wp d M pc' lv r h Q) : sm_wp d M pc lv (.int x :: r) h Q := by
  subst hpc
  by_cases hc : x = 0
  · exact wp_p (lv' := lv) hf (if_pos hc) (kt hc)
  · exact wp_p (lv' := lv) hf (if_neg hc) (kf hc)
theorem wp_if_ne {x : Int32} {off : Int} (hf : sm_find (sm_tab M) pc = some (.ifCond .ne off, a, b)) (hpc : pc + 3 = pc') (kt : ¬ x = 0 → sm_wp d M a lv r h Q) (kf : x = 0 → sm_wp d M pc' lv r h Q) : sm_wp d M pc lv (.int x :: r) h Q := by
  subst hpc
  by_cases hc : x = 0
  · exact wp_p (lv' := lv) hf (if_pos hc) (kf hc)
  · exact wp_p (lv' := lv) hf (if_neg hc) (kt hc)
theorem wp_if_lt {x : Int32} {off : Int} (hf : sm_find (sm_tab M) pc = some (.ifCond .lt off, a, b)) (hpc : pc + 3 = pc') (kt : x < 0 → sm_wp d M a lv r h Q) (kf : ¬ x < 0 → sm_wp d M pc' lv r h Q) : sm_wp d M pc lv (.int x :: r) h Q := by
  subst hpc
  by_cases hc : x < 0
  · exact wp_p (lv' := lv) hf (if_pos hc) (kt hc)
  · exact wp_p (lv' := lv) hf (if_neg hc) (kf hc)
theorem wp_if_ge {x : Int32} {off : Int} (hf : sm_find (sm_tab M) pc = some (.ifCond .ge off, a, b)) (hpc : pc + 3 = pc') (kt : 0 ≤ x → sm_wp d M a lv r h Q) (kf : ¬ 0 ≤ x → sm_wp d M pc' lv r h Q) : sm_wp d M pc lv (.int x :: r) h Q := by
  subst hpc
  by_cases hc : 0 ≤ x
  · exact wp_p (lv' := lv) hf (if_pos hc) (kt hc)
  · exact wp_p (lv' := lv) hf (if_neg hc) (kf hc)
theorem wp_if_gt {x : Int32} {off : Int} (hf : sm_find (sm_tab M) pc = some (.ifCond .gt off, a, b)) (hpc : pc + 3 = pc') (kt : 0 < x → sm_wp d M a lv r h Q) (kf : ¬ 0 < x → sm_wp d M pc' lv r h Q) : sm_wp d M pc lv (.int x :: r) h Q := by
  subst hpc
  by_cases hc : 0 < x
  · exact wp_p (lv' := lv) hf (if_pos hc) (kt hc)
  · exact wp_p (lv' := lv) hf (if_neg hc) (kf hc)
theorem wp_if_le {x : Int32} {off : Int} (hf : sm_find (sm_tab M) pc = some (.ifCond .le off, a, b)) (hpc : pc + 3 = pc') (kt : x ≤ 0 → sm_wp d M a lv r h Q) (kf : ¬ x ≤ 0 → sm_wp d M pc' lv r h Q) : sm_wp d M pc lv (.int x :: r) h Q := by
  subst hpc
  by_cases hc : x ≤ 0
  · exact wp_p (lv' := lv) hf (if_pos hc) (kt hc)
  · exact wp_p (lv' := lv) hf (if_neg hc) (kf hc)
theorem wp_ic_eq {x y : Int32} {off : Int} (hf : sm_find (sm_tab M) pc = some (.if_icmp .eq off, a, b)) (hpc : pc + 3 = pc') (kt : x = y → sm_wp d M a lv r h Q) (kf : ¬ x = y → sm_wp d M pc' lv r h Q) : sm_wp d M pc lv (.int y :: .int x :: r) h Q := by
  subst hpc
  by_cases hc : x = y
  · exact wp_p (lv' := lv) hf (if_pos hc) (kt hc)
  · exact wp_p (lv' := lv) hf (if_neg hc) (kf hc)
theorem wp_ic_ne {x y : Int32} {off : Int} (hf : sm_find (sm_tab M) pc = some (.if_icmp .ne off, a, b)) (hpc : pc + 3 = pc') (kt : ¬ x = y → sm_wp d M a lv r h Q) (kf : x = y → sm_wp d M pc' lv r h Q) : sm_wp d M pc lv (.int y :: .int x :: r) h Q := by
  subst hpc
  by_cases hc : x = y
  · exact wp_p (lv' := lv) hf (if_pos hc) (kf hc)
  · exact wp_p (lv' := lv) hf (if_neg hc) (kt hc)
theorem wp_ic_lt {x y : Int32} {off : Int} (hf : sm_find (sm_tab M) pc = some (.if_icmp .lt off, a, b)) (hpc : pc + 3 = pc') (kt : x < y → sm_wp d M a lv r h Q) (kf : ¬ x < y → sm_wp d M pc' lv r h Q) : sm_wp d M pc lv (.int y :: .int x :: r) h Q := by
  subst hpc
  by_cases hc : x < y
  · exact wp_p (lv' := lv) hf (if_pos hc) (kt hc)
  · exact wp_p (lv' := lv) hf (if_neg hc) (kf hc)
theorem wp_ic_ge {x y : Int32} {off : Int} (hf : sm_find (sm_tab M) pc = some (.if_icmp .ge off, a, b)) (hpc : pc + 3 = pc') (kt : y ≤ x → sm_wp d M a lv r h Q) (kf : ¬ y ≤ x → sm_wp d M pc' lv r h Q) : sm_wp d M pc lv (.int y :: .int x :: r) h Q := by
  subst hpc
  by_cases hc : y ≤ x
  · exact wp_p (lv' := lv) hf (if_pos hc) (kt hc)
  · exact wp_p (lv' := lv) hf (if_neg hc) (kf hc)
theorem wp_ic_gt {x y : Int32} {off : Int} (hf : sm_find (sm_tab M) pc = some (.if_icmp .gt off, a, b)) (hpc : pc + 3 = pc') (kt : y < x → sm_wp d M a lv r h Q) (kf : ¬ y < x → sm_wp d M pc' lv r h Q) : sm_wp d M pc lv (.int y :: .int x :: r) h Q := by
  subst hpc
  by_cases hc : y < x
  · exact wp_p (lv' := lv) hf (if_pos hc) (kt hc)
  · exact wp_p (lv' := lv) hf (if_neg hc) (kf hc)
theorem wp_ic_le {x y : Int32} {off : Int} (hf : sm_find (sm_tab M) pc = some (.if_icmp .le off, a, b)) (hpc : pc + 3 = pc') (kt : x ≤ y → sm_wp d M a lv r h Q) (kf : ¬ x ≤ y → sm_wp d M pc' lv r h Q) : sm_wp d M pc lv (.int y :: .int x :: r) h Q := by
  subst hpc
  by_cases hc : x ≤ y
  · exact wp_p (lv' := lv) hf (if_pos hc) (kt hc)
  · exact wp_p (lv' := lv) hf (if_neg hc) (kf hc)
theorem wn_ic_eq {n m : Nat} {off : Int} (hf : sm_find (sm_tab M) pc = some (.if_icmp .eq off, a, b)) (hn : n < 2 ^ 31) (hm : m < 2 ^ 31) (hpc : pc + 3 = pc') (kt : n = m → sm_wp d M a lv r h Q) (kf : ¬ n = m → sm_wp d M pc' lv r h Q) : sm_wp d M pc lv (.int (nI m) :: .int (nI n) :: r) h Q := by
  refine wp_ic_eq hf hpc (fun q => kt ?_) (fun q => kf ?_)
  · exact (nI_eq hn hm).mp q
  · exact fun z => q ((nI_eq hn hm).mpr z)
theorem wn_ic_ne {n m : Nat} {off : Int} (hf : sm_find (sm_tab M) pc = some (.if_icmp .ne off, a, b)) (hn : n < 2 ^ 31) (hm : m < 2 ^ 31) (hpc : pc + 3 = pc') (kt : ¬ n = m → sm_wp d M a lv r h Q) (kf : n = m → sm_wp d M pc' lv r h Q) : sm_wp d M pc lv (.int (nI m) :: .int (nI n) :: r) h Q := by
  refine wp_ic_ne hf hpc (fun q => kt ?_) (fun q => kf ?_)
  · exact fun z => q ((nI_eq hn hm).mpr z)
  · exact (nI_eq hn hm).mp q
theorem wn_ic_lt {n m : Nat} {off : Int} (hf : sm_find (sm_tab M) pc = some (.if_icmp .lt off, a, b)) (hn : n < 2 ^ 31) (hm : m < 2 ^ 31) (hpc : pc + 3 = pc') (kt : n < m → sm_wp d M a lv r h Q) (kf : ¬ n < m → sm_wp d M pc' lv r h Q) : sm_wp d M pc lv (.int (nI m) :: .int (nI n) :: r) h Q := by
  refine wp_ic_lt hf hpc (fun q => kt ?_) (fun q => kf ?_)
  · exact (nI_ltI hn hm).mp q
  · exact fun z => q ((nI_ltI hn hm).mpr z)
theorem wn_ic_ge {n m : Nat} {off : Int} (hf : sm_find (sm_tab M) pc = some (.if_icmp .ge off, a, b)) (hn : n < 2 ^ 31) (hm : m < 2 ^ 31) (hpc : pc + 3 = pc') (kt : m ≤ n → sm_wp d M a lv r h Q) (kf : ¬ m ≤ n → sm_wp d M pc' lv r h Q) : sm_wp d M pc lv (.int (nI m) :: .int (nI n) :: r) h Q := by
  refine wp_ic_ge hf hpc (fun q => kt ?_) (fun q => kf ?_)
  · exact (nI_leI hm hn).mp q
  · exact fun z => q ((nI_leI hm hn).mpr z)
theorem wn_ic_gt {n m : Nat} {off : Int} (hf : sm_find (sm_tab M) pc = some (.if_icmp .gt off, a, b)) (hn : n < 2 ^ 31) (hm : m < 2 ^ 31) (hpc : pc + 3 = pc') (kt : m < n → sm_wp d M a lv r h Q) (kf : ¬ m < n → sm_wp d M pc' lv r h Q) : sm_wp d M pc lv (.int (nI m) :: .int (nI n) :: r) h Q := by
  refine wp_ic_gt hf hpc (fun q => kt ?_) (fun q => kf ?_)
  · exact (nI_ltI hm hn).mp q
  · exact fun z => q ((nI_ltI hm hn).mpr z)
theorem wn_ic_le {n m : Nat} {off : Int} (hf : sm_find (sm_tab M) pc = some (.if_icmp .le off, a, b)) (hn : n < 2 ^ 31) (hm : m < 2 ^ 31) (hpc : pc + 3 = pc') (kt : n ≤ m → sm_wp d M a lv r h Q) (kf : ¬ n ≤ m → sm_wp d M pc' lv r h Q) : sm_wp d M pc lv (.int (nI m) :: .int (nI n) :: r) h Q := by
  refine wp_ic_le hf hpc (fun q => kt ?_) (fun q => kf ?_)
  · exact (nI_leI hn hm).mp q
  · exact fun z => q ((nI_leI hn hm).mpr z)
theorem wn_if_eq {n : Nat} {off : Int} (hf : sm_find (sm_tab M) pc = some (.ifCond .eq off, a, b)) (hn : n < 2 ^ 31) (hpc : pc + 3 = pc') (kt : n = 0 → sm_wp d M a lv r h Q) (kf : ¬ n = 0 → sm_wp d M pc' lv r h Q) : sm_wp d M pc lv (.int (nI n) :: r) h Q := wp_if_eq hf hpc (fun q => kt ((nI_eq hn (by decide)).mp (q.trans nI_0.symm))) (fun q => kf (fun z => q (by rw [z]; exact nI_0)))
theorem wn_if_ne {n : Nat} {off : Int} (hf : sm_find (sm_tab M) pc = some (.ifCond .ne off, a, b)) (hn : n < 2 ^ 31) (hpc : pc + 3 = pc') (kt : ¬ n = 0 → sm_wp d M a lv r h Q) (kf : n = 0 → sm_wp d M pc' lv r h Q) : sm_wp d M pc lv (.int (nI n) :: r) h Q := wp_if_ne hf hpc (fun q => kt (fun z => q (by rw [z]; exact nI_0))) (fun q => kf ((nI_eq hn (by decide)).mp (q.trans nI_0.symm)))
theorem wn_if_lt {n : Nat} {off : Int} (hf : sm_find (sm_tab M) pc = some (.ifCond .lt off, a, b)) (hn : n < 2 ^ 31) (hpc : pc + 3 = pc') (kt : False → sm_wp d M a lv r h Q) (kf : True → sm_wp d M pc' lv r h Q) : sm_wp d M pc lv (.int (nI n) :: r) h Q := wp_if_lt hf hpc (fun q => absurd q (nI_pos hn)) (fun _ => kf trivial)
theorem wn_if_ge {n : Nat} {off : Int} (hf : sm_find (sm_tab M) pc = some (.ifCond .ge off, a, b)) (hn : n < 2 ^ 31) (hpc : pc + 3 = pc') (kt : True → sm_wp d M a lv r h Q) (kf : False → sm_wp d M pc' lv r h Q) : sm_wp d M pc lv (.int (nI n) :: r) h Q := wp_if_ge hf hpc (fun _ => kt trivial) (fun q => absurd (nI_pos' hn) q)
theorem wn_if_gt {n : Nat} {off : Int} (hf : sm_find (sm_tab M) pc = some (.ifCond .gt off, a, b)) (hn : n < 2 ^ 31) (hpc : pc + 3 = pc') (kt : 0 < n → sm_wp d M a lv r h Q) (kf : ¬ 0 < n → sm_wp d M pc' lv r h Q) : sm_wp d M pc lv (.int (nI n) :: r) h Q := wp_if_gt hf hpc (fun q => kt (Nat.pos_of_ne_zero (fun z => by rw [z, nI_0] at q; exact absurd q (by decide)))) (fun q => kf (fun z => q (by have := (nI_ltI (a := 0) (b := n) (by decide) hn).mpr z; rw [nI_0] at this; exact this)))
theorem wn_if_le {n : Nat} {off : Int} (hf : sm_find (sm_tab M) pc = some (.ifCond .le off, a, b)) (hn : n < 2 ^ 31) (hpc : pc + 3 = pc') (kt : n = 0 → sm_wp d M a lv r h Q) (kf : ¬ n = 0 → sm_wp d M pc' lv r h Q) : sm_wp d M pc lv (.int (nI n) :: r) h Q := wp_if_le hf hpc (fun q => kt (by rcases Nat.eq_zero_or_pos n with z | z; exact z; exact absurd q (nI_nle z hn))) (fun q => kf (fun z => q (by rw [z, nI_0]; decide)))
theorem wp_get {q idx : Nat} {fs : List Value} {v : Value} (hf : sm_find (sm_tab M) pc = some (.getfield idx, a, b)) (hq : h[q]? = some (.inr (a, fs))) (hv : fs[b]? = some v) (hpc : pc + 3 = pc') (k : sm_wp d M pc' lv (v :: r) h Q) : sm_wp d M pc lv (.ref q :: r) h Q := by
  subst hpc
  refine wp_p (lv' := lv) hf ?_ k
  show sm_obj h q a _ = _
  unfold sm_obj
  rw [hq]
  show (bif Nat.beq a a then (match fs[b]? with | some v => some (pc + 3, lv, v :: r) | none => none) else none) = _
  rw [show Nat.beq a a = true from Nat.beq_refl a, hv]
  rfl
theorem wp_put {q idx : Nat} {fs fs' : List Value} {v : Value} (hf : sm_find (sm_tab M) pc = some (.putfield idx, a, b)) (hq : h[q]? = some (.inr (a, fs))) (hb : Nat.blt b fs.length = true) (hfit : sm_fit (sm_fty a b) v = true) (hg : fs.set b v = fs') (hpc : pc + 3 = pc') (hh : h.set q (.inr (a, fs')) = h2) (k : sm_wp d M pc' lv r h2 Q) : sm_wp d M pc lv (v :: .ref q :: r) h Q := by
  subst hg
  refine wp_w hf ?_ hpc hh k
  show sm_obj h q a _ = _
  unfold sm_obj
  rw [hq]
  show (bif Nat.beq a a then (bif Nat.blt b fs.length && sm_fit (sm_fty a b) v then some (r, q, (.inr (a, fs.set b v) : sm_E)) else none) else none) = _
  rw [show Nat.beq a a = true from Nat.beq_refl a, hb, hfit]
  rfl
theorem wp_of {w : Option Value × sm_H} (c : sm_run none d M pc lv st h w) (hq : Q w.1 w.2) : sm_wp d M pc lv st h Q := ⟨w.1, w.2, c, hq⟩
theorem wp_to {v : Option Value} {g : sm_H} (c : sm_wp d M pc lv st h (fun v' g' => v' = v ∧ g' = g)) : sm_run none d M pc lv st h (v, g) := by
  obtain ⟨v', g', h1, rfl, rfl⟩ := c
  exact h1
theorem wp_cvR {idx d0 : Nat} {As st2 : List Value} {v : Option Value} {g : sm_H} (hf : sm_find (sm_tab M) pc = some (.invokevirtual idx, a, b)) (hv : sm_inv true a st h = some (As, r)) (hst : v.toList ++ r = st2) (hpc : pc + 3 = pc') (c : sm_run none d0 a 0 (lv_args 0 As) [] h (v, g)) (hd : d0 ≤ d) (k : sm_wp (d + 1) M pc' lv st2 g Q) : sm_wp (d + 1) M pc lv st h Q := by
  subst hst
  exact wp_cv hf hv hpc (wp_of (c.up (Or.inr rfl) hd) k)
theorem wp_csR {idx d0 : Nat} {As st2 : List Value} {v : Option Value} {g : sm_H} (hf : sm_find (sm_tab M) pc = some (.invokestatic idx, a, b)) (hb : Nat.ble b 2 = true) (hv : sm_inv false a st h = some (As, r)) (hst : v.toList ++ r = st2) (hpc : pc + 3 = pc') (c : sm_run none d0 a 0 (lv_args 0 As) [] h (v, g)) (hd : d0 ≤ d) (k : sm_wp (d + 1) M pc' lv st2 g Q) : sm_wp (d + 1) M pc lv st h Q := by
  subst hst
  exact wp_cs hf hb hv hpc (wp_of (c.up (Or.inr rfl) hd) k)
end SMQ
