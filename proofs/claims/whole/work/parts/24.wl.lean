/-! RULES over the memory of functions: what is looked up of the locals, reads and writes by any index, calls, returns -/
theorem lk_filter {P : Nat × Value → Bool} : ∀ {lv : sm_L} {k : Nat} {w : Value}, sm_lk lv k = some w → P (k, w) = true → sm_lk (lv.filter P) k = some w
  | [], _, _, h, _ => by cases h
  | q :: r, k, w, h, hp => by
    cases hb : Nat.beq q.1 k with
    | true =>
      have h1 : (bif Nat.beq q.1 k then some q.2 else sm_lk r k) = some w := h
      rw [hb] at h1
      have e1 : q.2 = w := Option.some.inj h1
      have e2 : q.1 = k := Nat.eq_of_beq_eq_true hb
      have e3 : q = (k, w) := by rw [← e1, ← e2]
      subst e3
      rw [List.filter_cons_of_pos hp]
      show (bif Nat.beq k k then some w else _) = some w
      rw [Nat.beq_refl]; rfl
    | false =>
      have h1 : (bif Nat.beq q.1 k then some q.2 else sm_lk r k) = some w := h
      rw [hb] at h1
      have h2 : sm_lk (r.filter P) k = some w := lk_filter h1 hp
      cases hq : P q with
      | true =>
        rw [List.filter_cons_of_pos hq]
        show (bif Nat.beq q.1 k then some q.2 else sm_lk (r.filter P) k) = some w
        rw [hb]; exact h2
      | false =>
        rw [List.filter_cons_of_neg (by rw [hq]; exact Bool.false_ne_true)]
        exact h2
theorem lk_s1_i (lv : sm_L) (i : Nat) (v : Value) : sm_lk (sm_s1 lv i v) i = some v := by
  show (bif Nat.beq i i then some v else _) = some v
  rw [Nat.beq_refl]; rfl
theorem lk_s2_i (lv : sm_L) (i : Nat) (v : Value) : sm_lk (sm_s2 lv i v) i = some v := by
  show (bif Nat.beq i i then some v else _) = some v
  rw [Nat.beq_refl]; rfl
theorem lk_s1 {lv : sm_L} {i : Nat} {v : Value} {k : Nat} {w : Value} (h : sm_lk lv k = some w) (h1 : k ≠ i) (h2 : (k + 1 == i && w.category == 2) = false) : sm_lk (sm_s1 lv i v) k = some w := by
  have e : Nat.beq i k = false := by rw [← Bool.not_eq_true, beq_iff]; exact fun q => h1 q.symm
  show (bif Nat.beq i k then some v else sm_lk (lv.filter _) k) = some w
  rw [e]
  refine lk_filter h ?_
  show (!(k == i) && !(k + 1 == i && w.category == 2)) = true
  rw [h2, show (k == i) = false from beq_false_of_ne h1]; rfl
theorem lk_s2 {lv : sm_L} {i : Nat} {v : Value} {k : Nat} {w : Value} (h : sm_lk lv k = some w) (h1 : k ≠ i) (h3 : k ≠ i + 1) (h2 : (k + 1 == i && w.category == 2) = false) : sm_lk (sm_s2 lv i v) k = some w := by
  have e : Nat.beq i k = false := by rw [← Bool.not_eq_true, beq_iff]; exact fun q => h1 q.symm
  show (bif Nat.beq i k then some v else sm_lk (lv.filter _) k) = some w
  rw [e]
  refine lk_filter h ?_
  show (!(k == i) && (!(k == i + 1) && !(k + 1 == i && w.category == 2))) = true
  rw [h2, show (k == i) = false from beq_false_of_ne h1, show (k == i + 1) = false from beq_false_of_ne h3]; rfl
def lv_in : sm_L → sm_L → Prop
  | [], _ => True
  | q :: r, lv => sm_lk lv q.1 = some q.2 ∧ lv_in r lv
def WQ (K : Option Value → Mm → Prop) (v : Option Value) (g : sm_H) : Prop := ∃ m', g = hp m' ∧ K v m'
/-- from a place in a method's code, its locals holding at least L -/
def WH (d M pc : Nat) (L : sm_L) (st : List Value) (m : Mm) (K : Option Value → Mm → Prop) : Prop := ∀ lv, lv_in L lv → sm_wp d M pc lv st (hp m) (WQ K)
/-- a call -/
def WP (d M : Nat) (As : List Value) (m : Mm) (K : Option Value → Mm → Prop) : Prop := sm_wp d M 0 (lv_args 0 As) [] (hp m) (WQ K)
theorem WQ.mono {K K' : Option Value → Mm → Prop} (hK : ∀ v m, K v m → K' v m) {v : Option Value} {g : sm_H} (k : WQ K v g) : WQ K' v g := by
  obtain ⟨m', h1, h2⟩ := k
  exact ⟨m', h1, hK _ _ h2⟩
theorem WP.mono {d M : Nat} {As : List Value} {m : Mm} {K K' : Option Value → Mm → Prop} (k : WP d M As m K) (hK : ∀ v m, K v m → K' v m) : WP d M As m K' := sm_wp.mono k (fun _ _ q => WQ.mono hK q)
theorem WH.mono {d M pc : Nat} {L : sm_L} {st : List Value} {m : Mm} {K K' : Option Value → Mm → Prop} (k : WH d M pc L st m K) (hK : ∀ v m, K v m → K' v m) : WH d M pc L st m K' := fun lv hl => sm_wp.mono (k lv hl) (fun _ _ q => WQ.mono hK q)
theorem WP.up {d d' M : Nat} {As : List Value} {m : Mm} {K : Option Value → Mm → Prop} (k : WP d M As m K) (hd : d ≤ d') : WP d' M As m K := sm_wp.up k hd
theorem WP_run {d M : Nat} {As : List Value} {m m' : Mm} {v : Option Value} {K : Option Value → Mm → Prop} (c : sm_run none d M 0 (lv_args 0 As) [] (hp m) (v, hp m')) (k : K v m') : WP d M As m K := ⟨v, hp m', c, m', rfl, k⟩
theorem WP_of {d M : Nat} {As : List Value} {m : Mm} {K : Option Value → Mm → Prop} (k : WH d M 0 (lv_args 0 As) [] m K) (hi : lv_in (lv_args 0 As) (lv_args 0 As)) : WP d M As m K := k _ hi
theorem it_t {c A B : Prop} [Decidable c] (h : c) (k : if c then A else B) : A := by rwa [if_pos h] at k
theorem it_f {c A B : Prop} [Decidable c] (h : ¬ c) (k : if c then A else B) : B := by rwa [if_neg h] at k
def ok (n : Nat) (i : Int32) : Prop := ¬ (i < 0 ∨ n ≤ i.toNatClampNeg)
def ix (i : Int32) : Nat := i.toNatClampNeg
def isB (x : Int32) : Prop := (x == 0 || x == 1) = true
theorem ok_nI {n k : Nat} (h : k < n) (hn : n < 2 ^ 31) : ok n (nI k) := fun q => by
  rcases q with q | q
  · exact nI_pos (by omega) q
  · rw [nI_clamp (by omega)] at q; omega
theorem ix_nI {k : Nat} (h : k < 2 ^ 31) : ix (nI k) = k := nI_clamp h
def mnI (x y : Int32) : Int32 := if y < x then y else x
def mxI (x y : Int32) : Int32 := if x < y then y else x
def mnL (x y : Int64) : Int64 := if y < x then y else x
def mxL (x y : Int64) : Int64 := if y < x then x else y
def tb_of (x : Int32) (r : Nat) : Prop := ok 3 x ∧ ([some 3, some 6, some 9] : List (Option Nat)).getD (ix x) none = some r
def acok (n : Nat) (sp dp c : Int32) : Prop := ¬ (sp < 0 ∨ dp < 0 ∨ c < 0 ∨ n < ix sp + ix c ∨ n < ix dp + ix c)
theorem sw_ne {x : Int32} {n : Nat} (hn : n < 2 ^ 31) (h : ¬ x = nI n) : x.toInt ≠ n := fun q => h (Int32.toInt_inj.mp (by rw [q, nI_toInt hn]))
theorem sm_inv_dom {r a ci : Nat} {fs st As rest : List Value} {m : Mm} (hq : (hp m)[r]? = some (.inr (ci, fs))) (h1 : sm_pop (sm_np a) st [] = some (As, .ref r :: rest)) (h2 : Nat.beq ci (sm_cn a) = true) (h3 : (Nat.ble (sm_cat rest) 8 && Nat.ble (sm_cat (.ref r :: As)) (sm_maxL a)) = true) : sm_inv true a st (hp m) = some (.ref r :: As, rest) := by
  unfold sm_inv
  rw [h1]
  show (bif sm_rc a (.ref r) (hp m) && Nat.ble (sm_cat rest) 8 && Nat.ble (sm_cat (.ref r :: As)) (sm_maxL a) then some (Value.ref r :: As, rest) else none) = _
  have e : sm_rc a (.ref r) (hp m) = true := by
    show (match (hp m)[r]? with | some (.inr (ci, _)) => Nat.beq ci (sm_cn a) | _ => false) = true
    rw [hq]
    exact h2
  rw [e, Bool.and_assoc, h3]
  rfl
theorem sm_inv_tbl {r a : Nat} {st As rest : List Value} (k : tbl r) (m : Mm) (h1 : sm_pop (sm_np a) st [] = some (As, .ref r :: rest)) (h2 : Nat.beq 1 (sm_cn a) = true) (h3 : (Nat.ble (sm_cat rest) 8 && Nat.ble (sm_cat (.ref r :: As)) (sm_maxL a)) = true) : sm_inv true a st (hp m) = some (.ref r :: As, rest) := sm_inv_dom (hq_tbl k m) h1 h2 h3
theorem sm_inv_acc {r a : Nat} {st As rest : List Value} (k : acc r) (m : Mm) (h1 : sm_pop (sm_np a) st [] = some (As, .ref r :: rest)) (h2 : Nat.beq 8 (sm_cn a) = true) (h3 : (Nat.ble (sm_cat rest) 8 && Nat.ble (sm_cat (.ref r :: As)) (sm_maxL a)) = true) : sm_inv true a st (hp m) = some (.ref r :: As, rest) := sm_inv_dom (hq_acc k m) h1 h2 h3
def sm_E_l (l : List Int64) : sm_E := .inl (1, .inr (.inl l))
section WLR
variable {d M pc a b pc' : Nat} {i : Instr} {lv : sm_L} {st r : List Value} {h h2 : sm_H} {Q : Option Value → sm_H → Prop}
theorem wl_ild_n {k0 : Fin 4} {x : Int32} (hf : sm_find (sm_tab M) pc = some (.iload_n k0, a, b)) (hx : sm_lk lv k0 = some (.int x)) (hpc : pc + 1 = pc') (k : sm_wp d M pc' lv (.int x :: r) h Q) : sm_wp d M pc lv r h Q := by
  subst hpc
  refine wp_p (lv' := lv) hf ?_ k
  simp only [sm_p, sm_ldI, hx]
theorem wl_ild {k0 : Nat} {x : Int32} (hf : sm_find (sm_tab M) pc = some (.iload k0, a, b)) (hx : sm_lk lv k0 = some (.int x)) (hpc : pc + 2 = pc') (k : sm_wp d M pc' lv (.int x :: r) h Q) : sm_wp d M pc lv r h Q := by
  subst hpc
  refine wp_p (lv' := lv) hf ?_ k
  simp only [sm_p, sm_ldI, hx]
theorem wl_lld_n {k0 : Fin 4} {x : Int64} (hf : sm_find (sm_tab M) pc = some (.lload_n k0, a, b)) (hx : sm_lk lv k0 = some (.long x)) (hpc : pc + 1 = pc') (k : sm_wp d M pc' lv (.long x :: r) h Q) : sm_wp d M pc lv r h Q := by
  subst hpc
  refine wp_p (lv' := lv) hf ?_ k
  simp only [sm_p, sm_ldL, hx]
theorem wl_lld {k0 : Nat} {x : Int64} (hf : sm_find (sm_tab M) pc = some (.lload k0, a, b)) (hx : sm_lk lv k0 = some (.long x)) (hpc : pc + 2 = pc') (k : sm_wp d M pc' lv (.long x :: r) h Q) : sm_wp d M pc lv r h Q := by
  subst hpc
  refine wp_p (lv' := lv) hf ?_ k
  simp only [sm_p, sm_ldL, hx]
theorem wl_ald_n {k0 : Fin 4} {q : Nat} (hf : sm_find (sm_tab M) pc = some (.aload_n k0, a, b)) (hx : sm_lk lv k0 = some (.ref q)) (hpc : pc + 1 = pc') (k : sm_wp d M pc' lv (.ref q :: r) h Q) : sm_wp d M pc lv r h Q := by
  subst hpc
  refine wp_p (lv' := lv) hf ?_ k
  simp only [sm_p, sm_ldA, hx]
theorem wl_ald {k0 q : Nat} (hf : sm_find (sm_tab M) pc = some (.aload k0, a, b)) (hx : sm_lk lv k0 = some (.ref q)) (hpc : pc + 2 = pc') (k : sm_wp d M pc' lv (.ref q :: r) h Q) : sm_wp d M pc lv r h Q := by
  subst hpc
  refine wp_p (lv' := lv) hf ?_ k
  simp only [sm_p, sm_ldA, hx]
/-- a store: what the other locals hold stays -/
theorem wl_st1 {k0 : Nat} {v : Value} (hf : sm_find (sm_tab M) pc = some (i, a, b)) (hp : sm_p none (sm_maxL M) pc i a b lv st h = some (pc', sm_s1 lv k0 v, r)) (k : ∀ lv', sm_lk lv' k0 = some v → (∀ k w, sm_lk lv k = some w → k ≠ k0 → (k + 1 == k0 && w.category == 2) = false → sm_lk lv' k = some w) → sm_wp d M pc' lv' r h Q) : sm_wp d M pc lv st h Q := wp_p hf hp (k _ (lk_s1_i _ _ _) (fun _ _ h1 h2 h3 => lk_s1 h1 h2 h3))
theorem wl_st2 {k0 : Nat} {v : Value} (hf : sm_find (sm_tab M) pc = some (i, a, b)) (hp : sm_p none (sm_maxL M) pc i a b lv st h = some (pc', sm_s2 lv k0 v, r)) (k : ∀ lv', sm_lk lv' k0 = some v → (∀ k w, sm_lk lv k = some w → k ≠ k0 → k ≠ k0 + 1 → (k + 1 == k0 && w.category == 2) = false → sm_lk lv' k = some w) → sm_wp d M pc' lv' r h Q) : sm_wp d M pc lv st h Q := wp_p hf hp (k _ (lk_s2_i _ _ _) (fun _ _ h1 h2 h3 h4 => lk_s2 h1 h2 h3 h4))
theorem wl_iinc {k0 : Nat} {e0 : Int} {x v : Int32} (hf : sm_find (sm_tab M) pc = some (.iinc k0 e0, a, b)) (hx : sm_lk lv k0 = some (.int x)) (hv : x + Int32.ofInt e0 = v) (hn : Nat.blt k0 (sm_maxL M) = true) (hpc : pc + 3 = pc') (k : ∀ lv', sm_lk lv' k0 = some (.int v) → (∀ k w, sm_lk lv k = some w → k ≠ k0 → (k + 1 == k0 && w.category == 2) = false → sm_lk lv' k = some w) → sm_wp d M pc' lv' st h Q) : sm_wp d M pc lv st h Q := wp_iinc hf hx hv hn rfl hpc (k _ (lk_s1_i _ _ _) (fun _ _ h1 h2 h3 => lk_s1 h1 h2 h3))
theorem wl_iaload {q : Nat} {g : List Int32} {x : Int32} (hf : sm_find (sm_tab M) pc = some (.iaload, a, b)) (hq : h[q]? = some (.inl (0, .inl g))) (ho : ok g.length x) (hpc : pc + 1 = pc') (k : sm_wp d M pc' lv (.int (g.getD (ix x) 0) :: r) h Q) : sm_wp d M pc lv (.int x :: .ref q :: r) h Q := by
  subst hpc
  refine wp_p (lv' := lv) hf ?_ k
  show sm_arI h q 0 x _ = _
  unfold sm_arI
  rw [hq]
  exact if_neg ho
theorem wl_caload {q : Nat} {g : List Int32} {x : Int32} (hf : sm_find (sm_tab M) pc = some (.caload, a, b)) (hq : h[q]? = some (.inl (2, .inl g))) (ho : ok g.length x) (hpc : pc + 1 = pc') (k : sm_wp d M pc' lv (.int (g.getD (ix x) 0) :: r) h Q) : sm_wp d M pc lv (.int x :: .ref q :: r) h Q := by
  subst hpc
  refine wp_p (lv' := lv) hf ?_ k
  show sm_arI h q 2 x _ = _
  unfold sm_arI
  rw [hq]
  exact if_neg ho
theorem wl_baload {q : Nat} {g : List Int32} {x : Int32} (hf : sm_find (sm_tab M) pc = some (.baload, a, b)) (hq : h[q]? = some (.inl (3, .inl g))) (ho : ok g.length x) (hpc : pc + 1 = pc') (k : sm_wp d M pc' lv (.int (g.getD (ix x) 0) :: r) h Q) : sm_wp d M pc lv (.int x :: .ref q :: r) h Q := by
  subst hpc
  refine wp_p (lv' := lv) hf ?_ k
  show sm_arI h q 3 x _ = _
  unfold sm_arI
  rw [hq]
  exact if_neg ho
theorem wl_laload {q : Nat} {g : List Int64} {x : Int32} (hf : sm_find (sm_tab M) pc = some (.laload, a, b)) (hq : h[q]? = some (.inl (1, .inr (.inl g)))) (ho : ok g.length x) (hpc : pc + 1 = pc') (k : sm_wp d M pc' lv (.long (g.getD (ix x) 0) :: r) h Q) : sm_wp d M pc lv (.int x :: .ref q :: r) h Q := by
  subst hpc
  refine wp_p (lv' := lv) hf ?_ k
  show sm_arL h q x _ = _
  unfold sm_arL
  rw [hq]
  exact if_neg ho
theorem wl_aaload {q k0 : Nat} {g : List (Option Nat)} {x : Int32} (hf : sm_find (sm_tab M) pc = some (.aaload, a, b)) (hq : h[q]? = some (.inl (4, .inr (.inr g)))) (ho : ok g.length x) (hx : g.getD (ix x) none = some k0) (hpc : pc + 1 = pc') (k : sm_wp d M pc' lv (.ref k0 :: r) h Q) : sm_wp d M pc lv (.int x :: .ref q :: r) h Q := by
  subst hpc
  refine wp_p (lv' := lv) hf ?_ k
  show sm_arQ h q x _ = _
  unfold sm_arQ
  rw [hq]
  refine (if_neg ho).trans ?_
  show (match g.getD (ix x) none with | some k => some (pc + 1, lv, Value.ref k :: r) | none => none) = _
  rw [hx]
theorem wl_iastore {q : Nat} {g : List Int32} {x y : Int32} (hf : sm_find (sm_tab M) pc = some (.iastore, a, b)) (hq : h[q]? = some (.inl (0, .inl g))) (ho : ok g.length x) (hpc : pc + 1 = pc') (hh : h.set q (.inl (0, .inl (g.set (ix x) y))) = h2) (k : sm_wp d M pc' lv r h2 Q) : sm_wp d M pc lv (.int y :: .int x :: .ref q :: r) h Q := by
  refine wp_w (q := q) (x := .inl (0, .inl (g.set (ix x) y))) hf ?_ hpc hh k
  show sm_arI h q 0 x _ = _
  unfold sm_arI
  rw [hq]
  exact if_neg ho
theorem wl_castore {q : Nat} {g : List Int32} {x y : Int32} (hf : sm_find (sm_tab M) pc = some (.castore, a, b)) (hq : h[q]? = some (.inl (2, .inl g))) (ho : ok g.length x) (hpc : pc + 1 = pc') (hh : h.set q (.inl (2, .inl (g.set (ix x) (vp_nar .char y)))) = h2) (k : sm_wp d M pc' lv r h2 Q) : sm_wp d M pc lv (.int y :: .int x :: .ref q :: r) h Q := by
  refine wp_w (q := q) (x := .inl (2, .inl (g.set (ix x) (vp_nar .char y)))) hf ?_ hpc hh k
  show sm_arI h q 2 x _ = _
  unfold sm_arI
  rw [hq]
  exact if_neg ho
theorem wl_bastore {q : Nat} {g : List Int32} {x y : Int32} (hf : sm_find (sm_tab M) pc = some (.bastore, a, b)) (hq : h[q]? = some (.inl (3, .inl g))) (ho : ok g.length x) (hpc : pc + 1 = pc') (hh : h.set q (.inl (3, .inl (g.set (ix x) (vp_nar .boolean y)))) = h2) (k : sm_wp d M pc' lv r h2 Q) : sm_wp d M pc lv (.int y :: .int x :: .ref q :: r) h Q := by
  refine wp_w (q := q) (x := .inl (3, .inl (g.set (ix x) (vp_nar .boolean y)))) hf ?_ hpc hh k
  show sm_arI h q 3 x _ = _
  unfold sm_arI
  rw [hq]
  exact if_neg ho
theorem wl_lastore {q : Nat} {g : List Int64} {x : Int32} {y : Int64} (hf : sm_find (sm_tab M) pc = some (.lastore, a, b)) (hq : h[q]? = some (.inl (1, .inr (.inl g)))) (ho : ok g.length x) (hpc : pc + 1 = pc') (hh : h.set q (.inl (1, .inr (.inl (g.set (ix x) y)))) = h2) (k : sm_wp d M pc' lv r h2 Q) : sm_wp d M pc lv (.long y :: .int x :: .ref q :: r) h Q := by
  refine wp_w (q := q) (x := .inl (1, .inr (.inl (g.set (ix x) y)))) hf ?_ hpc hh k
  show sm_arL h q x _ = _
  unfold sm_arL
  rw [hq]
  exact if_neg ho
theorem wl_len {q t : Nat} {x : sm_A} {v : Int32} (hf : sm_find (sm_tab M) pc = some (.arraylength, a, b)) (hq : h[q]? = some (.inl (t, x))) (ht : Nat.blt t 5 = true) (hv : Int32.ofNat (sm_al x) = v) (hpc : pc + 1 = pc') (k : sm_wp d M pc' lv (.int v :: r) h Q) : sm_wp d M pc lv (.ref q :: r) h Q := by
  subst hpc
  subst hv
  refine wp_p (lv' := lv) hf ?_ k
  show sm_arr h q _ = _
  unfold sm_arr
  rw [hq]
  show (bif Nat.blt t 5 then _ else _) = _
  rw [ht]
  rfl
theorem wl_ret {x : Int32} (hf : sm_find (sm_tab M) pc = some (.ireturn, a, b)) (hr : sm_nr (sm_ret M) x = true) (k : Q (some (.int x)) h) : sm_wp d M pc lv [.int x] h Q := by
  refine wp_r (v := some (.int x)) hf ?_ k
  show (bif sm_nr (sm_ret M) x then some (some (Value.int x), h) else none) = _
  rw [hr]; rfl
theorem wl_put {q idx : Nat} {fs : List Value} {v : Value} (hf : sm_find (sm_tab M) pc = some (.putfield idx, a, b)) (hq : h[q]? = some (.inr (a, fs))) (hb : Nat.blt b fs.length = true) (hfit : sm_fit (sm_fty a b) v = true) (hpc : pc + 3 = pc') (hh : h.set q (.inr (a, fs.set b v)) = h2) (k : sm_wp d M pc' lv r h2 Q) : sm_wp d M pc lv (v :: .ref q :: r) h Q := wp_put hf hq hb hfit rfl hpc hh k
theorem wl_cv {idx : Nat} {As : List Value} {m : Mm} {K : Option Value → Mm → Prop} (hf : sm_find (sm_tab M) pc = some (.invokevirtual idx, a, b)) (hv : sm_inv true a st (hp m) = some (As, r)) (hpc : pc + 3 = pc') (c : WP d a As m K) (k : ∀ v m', K v m' → sm_wp (d + 1) M pc' lv (v.toList ++ r) (hp m') Q) : sm_wp (d + 1) M pc lv st (hp m) Q :=
  wp_cv hf hv hpc (sm_wp.mono c (fun v g q => by obtain ⟨m', rfl, q⟩ := q; exact k v m' q))
theorem wl_cs {idx : Nat} {As : List Value} {m : Mm} {K : Option Value → Mm → Prop} (hf : sm_find (sm_tab M) pc = some (.invokestatic idx, a, b)) (hb : Nat.ble b 2 = true) (hv : sm_inv false a st (hp m) = some (As, r)) (hpc : pc + 3 = pc') (c : WP d a As m K) (k : ∀ v m', K v m' → sm_wp (d + 1) M pc' lv (v.toList ++ r) (hp m') Q) : sm_wp (d + 1) M pc lv st (hp m) Q :=
  wp_cs hf hb hv hpc (sm_wp.mono c (fun v g q => by obtain ⟨m', rfl, q⟩ := q; exact k v m' q))
theorem wl_sw {x y : Int32} (hc : x = y) (hf : sm_find (sm_tab M) pc = some (i, a, b)) (hp : sm_p none (sm_maxL M) pc i a b lv (.int y :: r) h = some (pc', lv, r)) (k : sm_wp d M pc' lv r h Q) : sm_wp d M pc lv (.int x :: r) h Q := by
  subst hc
  exact wp_p hf hp k
theorem wl_td {x : Int32} {df lo hi : Int} {offs : Array Int} (hf : sm_find (sm_tab M) pc = some (.tableswitch df lo hi offs, a, b)) (hx : x.toInt < lo ∨ hi < x.toInt) (ht : sm_tgt pc df lv r = some (pc', lv, r)) (k : sm_wp d M pc' lv r h Q) : sm_wp d M pc lv (.int x :: r) h Q := by
  refine wp_p (lv' := lv) (st' := r) hf ?_ k
  show (if x.toInt < lo ∨ hi < x.toInt then sm_tgt pc df lv r else _) = _
  rw [if_pos hx, ht]
theorem wl_ld {x : Int32} {df o : Int} {ps : Array (Int × Int)} (hf : sm_find (sm_tab M) pc = some (.lookupswitch df ps, a, b)) (hx : lookupswitch.offset ps.toList df x.toInt = o) (ht : sm_tgt pc o lv r = some (pc', lv, r)) (k : sm_wp d M pc' lv r h Q) : sm_wp d M pc lv (.int x :: r) h Q := by
  refine wp_p (lv' := lv) (st' := r) hf ?_ k
  show sm_tgt pc (lookupswitch.offset ps.toList df x.toInt) lv r = _
  rw [hx, ht]
theorem wl_ac {idx q : Nat} {g : List Int64} {sp dp n : Int32} (hf : sm_find (sm_tab M) pc = some (.invokestatic idx, a, 9)) (hq : h[q]? = some (.inl (1, .inr (.inl g)))) (ho : acok g.length sp dp n) (hpc : pc + 3 = pc') (hh : h.set q (.inl (1, .inr (.inl (sm_cpy g g (ix sp) (ix dp) (ix n))))) = h2) (k : sm_wp (d + 1) M pc' lv [] h2 Q) : sm_wp (d + 1) M pc lv [.int n, .int dp, .ref q, .int sp, .ref q] h Q := by
  refine wp_ac (q := q) (x := .inl (1, .inr (.inl (sm_cpy g g (ix sp) (ix dp) (ix n))))) (r := []) hf ?_ hpc hh k
  have e : sm_aq h q = some g := by
    unfold sm_aq
    rw [hq]
    rfl
  show (match sm_aq h q, sm_aq h q with
    | some f, some g => if sp < 0 ∨ dp < 0 ∨ n < 0 ∨ f.length < sp.toNatClampNeg + n.toNatClampNeg ∨ g.length < dp.toNatClampNeg + n.toNatClampNeg ∨ 8 < sm_cat [] then none else some ([], q, sm_E_l (sm_cpy f g sp.toNatClampNeg dp.toNatClampNeg n.toNatClampNeg))
    | _, _ => none) = _
  rw [e]
  refine if_neg (fun z => ho ?_)
  rcases z with z | z | z | z | z | z
  · exact Or.inl z
  · exact Or.inr (Or.inl z)
  · exact Or.inr (Or.inr (Or.inl z))
  · exact Or.inr (Or.inr (Or.inr (Or.inl z)))
  · exact Or.inr (Or.inr (Or.inr (Or.inr z)))
  · exact absurd z (by decide)
end WLR
