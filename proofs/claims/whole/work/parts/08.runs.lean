/-! runs of the small machine: more room, more instructions and a script change no answer; a row an instruction -/
def sm_le (sc sc' : sm_X) : Prop := sc = none ∨ sc = sc'
theorem sm_p_le {sc sc' : sm_X} (hsc : sm_le sc sc') {n pc a b : Nat} {i : Instr} {lv : sm_L} {st : List Value} {h : sm_H} {w : Nat × sm_L × List Value} (hs : sm_p sc n pc i a b lv st h = some w) : sm_p sc' n pc i a b lv st h = some w := by
  rcases hsc with rfl | rfl
  · cases i
    case arraylength =>
      obtain ⟨v, r, rfl, e1⟩ := sm_v_inv (show sm_v st _ = _ from hs)
      cases v with
      | ref q => exact hs
      | float u =>
        show (bif Nat.beq u.toNat 0 then _ else _) = some w
        have e2 : (bif Nat.beq u.toNat 0 then none else _) = some w := e1
        cases hb : Nat.beq u.toNat 0 with
        | true => rw [hb] at e2; exact sm_nn e2
        | false => rw [hb] at e2; exact e2
      | _ => exact sm_nn e1
    case iaload =>
      obtain ⟨i, r, rfl, e0⟩ := sm_i_inv (show sm_i st _ = _ from hs)
      obtain ⟨v, r, rfl, e1⟩ := sm_v_inv e0
      cases v with
      | ref q => exact hs
      | float u =>
        obtain ⟨hb, e2⟩ := sm_b_inv (show (bif Nat.beq u.toNat 0 then none else none) = some w from e1)
        cases e2
      | _ => exact sm_nn e1
    case if_icmp cnd off => cases cnd <;> exact hs
    case ifCond cnd off => cases cnd <;> exact hs
    all_goals exact hs
  · exact hs
theorem sm_go_le {sc sc' : sm_X} {ih ih' : Nat → Nat → Nat → sm_L → List Value → sm_H → sm_O} (hsc : sm_le sc sc') (hle : ∀ (d d' M pc : Nat) (lv : sm_L) (st : List Value) (h : sm_H) (w : Option Value × sm_H), d ≤ d' → ih d M pc lv st h = some w → ih' d' M pc lv st h = some w)
    {d d' M pc a b : Nat} {i : Instr} {lv : sm_L} {st : List Value} {h : sm_H} {w : Option Value × sm_H} (hd : d ≤ d') (hs : sm_go sc ih d M pc i a b lv st h = some w) : sm_go sc' ih' d' M pc i a b lv st h = some w := by
  have hc : ∀ {inst : Bool}, sm_cl ih inst d M pc a lv st h = some w → sm_cl ih' inst d' M pc a lv st h = some w := by
    intro inst h1
    cases d with
    | zero => exact sm_nn h1
    | succ d =>
      cases d' with
      | zero => omega
      | succ d' =>
        unfold sm_cl at h1 ⊢
        dsimp only at h1 ⊢
        split at h1
        · cases h1
        · next As r hinv =>
          split at h1
          · cases h1
          · next v1 g1 hex =>
            rw [hle d d' _ _ _ _ _ _ (by omega) hex]
            exact hle _ _ _ _ _ _ _ _ hd h1
  have ho : sm_oi ih d M pc lv st h = some w → sm_oi ih' d' M pc lv st h = some w := by
    intro h1
    cases d with
    | zero => exact sm_nn h1
    | succ d =>
      cases d' with
      | zero => omega
      | succ d' =>
        obtain ⟨k, r, rfl, h1⟩ := sm_r_inv (show sm_r st _ = _ from h1)
        obtain ⟨hb, h1⟩ := sm_b_inv h1
        show (bif Nat.ble (sm_cat r) 8 then ih' (d' + 1) M (pc + 3) lv r h else none) = some w
        rw [hb]
        exact hle _ _ _ _ _ _ _ _ hd h1
  have hw : (match sm_w i a b st h with | some (r, q, x) => ih d M (pc + sm_ln i) lv r (h.set q x) | none => none) = some w → (match sm_w i a b st h with | some (r, q, x) => ih' d' M (pc + sm_ln i) lv r (h.set q x) | none => none) = some w := by
    intro h1
    split at h1
    · next e => exact hle _ _ _ _ _ _ _ _ hd h1
    · cases h1
  have hn : (match sm_n i a st with | some (r, x) => ih d M (pc + sm_ln i) lv (.ref h.length :: r) (h ++ [x]) | none => none) = some w → (match sm_n i a st with | some (r, x) => ih' d' M (pc + sm_ln i) lv (.ref h.length :: r) (h ++ [x]) | none => none) = some w := by
    intro h1
    split at h1
    · next e => exact hle _ _ _ _ _ _ _ _ hd h1
    · cases h1
  have hp : (match sm_p sc (sm_maxL M) pc i a b lv st h with | some (pc', lv', st') => ih d M pc' lv' st' h | none => none) = some w → (match sm_p sc' (sm_maxL M) pc i a b lv st h with | some (pc', lv', st') => ih' d' M pc' lv' st' h | none => none) = some w := by
    intro h1
    split at h1
    · next e => rw [sm_p_le hsc e]; exact hle _ _ _ _ _ _ _ _ hd h1
    · cases h1
  have hna : sm_nc ih d M pc lv st h = some w → sm_nc ih' d' M pc lv st h = some w := by
    intro h1
    cases d with
    | zero => exact sm_nn h1
    | succ d =>
      cases d' with
      | zero => omega
      | succ d' =>
        unfold sm_nc at h1 ⊢
        dsimp only at h1 ⊢
        split at h1
        · exact hle _ _ _ _ _ _ _ _ hd h1
        · cases h1
  have hmm : sm_mm ih b d M pc lv st h = some w → sm_mm ih' b d' M pc lv st h = some w := by
    intro h1
    cases d with
    | zero => exact sm_nn h1
    | succ d =>
      cases d' with
      | zero => omega
      | succ d' =>
        unfold sm_mm at h1 ⊢
        dsimp only at h1 ⊢
        split at h1
        · exact hle _ _ _ _ _ _ _ _ hd h1
        · cases h1
  have hst : (bif Nat.beq b 9 then sm_nc ih d M pc lv st h else bif Nat.blt 2 b then sm_mm ih b d M pc lv st h else sm_cl ih false d M pc a lv st h) = some w → (bif Nat.beq b 9 then sm_nc ih' d' M pc lv st h else bif Nat.blt 2 b then sm_mm ih' b d' M pc lv st h else sm_cl ih' false d' M pc a lv st h) = some w := by
    cases Nat.beq b 9
    · cases Nat.blt 2 b
      · exact hc
      · exact hmm
    · exact hna
  have hsp : (bif Nat.beq b 2 then sm_oi ih d M pc lv st h else sm_cl ih true d M pc a lv st h) = some w → (bif Nat.beq b 2 then sm_oi ih' d' M pc lv st h else sm_cl ih' true d' M pc a lv st h) = some w := by
    cases Nat.beq b 2
    · exact hc
    · exact ho
  cases i
  case ireturn => exact hs
  case lreturn => exact hs
  case areturn => exact hs
  case return_ => exact hs
  case invokevirtual => exact hc hs
  case invokestatic => exact hst hs
  case invokespecial => exact hsp hs
  case putfield => exact hw hs
  case iastore => exact hw hs
  case castore => exact hw hs
  case bastore => exact hw hs
  case lastore => exact hw hs
  case aastore => exact hw hs
  case new => exact hn hs
  case newarray => exact hn hs
  case anewarray => exact hn hs
  all_goals exact hp hs
theorem sm_up {sc sc' : sm_X} (hsc : sm_le sc sc') : ∀ (n n' : Nat), n ≤ n' → ∀ (d d' M pc : Nat) (lv : sm_L) (st : List Value) (h : sm_H) (w : Option Value × sm_H), d ≤ d' → sm_ex sc n d M pc lv st h = some w → sm_ex sc' n' d' M pc lv st h = some w
  | 0, _, _ => fun _ _ _ _ _ _ _ _ _ hs => sm_nn hs
  | n + 1, 0, hn => fun _ _ _ _ _ _ _ _ _ _ => by omega
  | n + 1, n' + 1, hn => fun d d' M pc lv st h w hd hs => by
    rw [sm_ex_s] at hs ⊢
    unfold sm_body at hs ⊢
    split at hs
    · cases hs
    · next i i1 i2 hfd =>
      exact sm_go_le hsc (sm_up hsc n n' (by omega)) hd hs
def sm_run (sc : sm_X) (d M pc : Nat) (lv : sm_L) (st : List Value) (h : sm_H) (w : Option Value × sm_H) : Prop := ∃ n, sm_ex sc n d M pc lv st h = some w
theorem sm_run.up {sc sc' : sm_X} (hsc : sm_le sc sc') {d d' M pc : Nat} {lv : sm_L} {st : List Value} {h : sm_H} {w : Option Value × sm_H} (hd : d ≤ d') (k : sm_run sc d M pc lv st h w) : sm_run sc' d' M pc lv st h w := by
  obtain ⟨n, hn⟩ := k
  exact ⟨n, sm_up hsc n n (Nat.le_refl _) d d' M pc lv st h w hd hn⟩
theorem sm_run.to {sc : sm_X} {d d' M pc : Nat} {lv : sm_L} {st : List Value} {h : sm_H} {w : Option Value × sm_H} (k : sm_run none d M pc lv st h w) (hd : d ≤ d') : sm_run sc d' M pc lv st h w := k.up (Or.inl rfl) hd
section SMN
variable {sc : sm_X} {d M pc a b pc' : Nat} {i : Instr} {lv lv' : sm_L} {st st' : List Value} {h : sm_H} {w : Option Value × sm_H}
theorem rn_go (hf : sm_find (sm_tab M) pc = some (i, a, b)) {n : Nat} (k : sm_go sc (sm_ex sc n) d M pc i a b lv st h = some w) : sm_run sc d M pc lv st h w := by
  refine ⟨n + 1, ?_⟩
  rw [sm_ex_s]
  unfold sm_body
  rw [hf]
  exact k
theorem rn_p (hf : sm_find (sm_tab M) pc = some (i, a, b)) (hp : sm_p sc (sm_maxL M) pc i a b lv st h = some (pc', lv', st')) (k : sm_run sc d M pc' lv' st' h w) : sm_run sc d M pc lv st h w := by
  obtain ⟨n, hn⟩ := k
  refine rn_go (n := n) hf ?_
  have h1 : (match sm_p sc (sm_maxL M) pc i a b lv st h with | some (pc', lv', st') => sm_ex sc n d M pc' lv' st' h | none => none) = some w := by rw [hp]; exact hn
  cases i
  case ireturn => exact sm_nn hp
  case lreturn => exact sm_nn hp
  case areturn => exact sm_nn hp
  case return_ => exact sm_nn hp
  case invokevirtual => exact sm_nn hp
  case invokestatic => exact sm_nn hp
  case invokespecial => exact sm_nn hp
  case putfield => exact sm_nn hp
  case iastore => exact sm_nn hp
  case castore => exact sm_nn hp
  case bastore => exact sm_nn hp
  case lastore => exact sm_nn hp
  case aastore => exact sm_nn hp
  case new => exact sm_nn hp
  case newarray => exact sm_nn hp
  case anewarray => exact sm_nn hp
  all_goals exact h1
theorem rn_w {r : List Value} {q : Nat} {x : sm_E} (hf : sm_find (sm_tab M) pc = some (i, a, b)) (hp : sm_w i a b st h = some (r, q, x)) (hpc : pc + sm_ln i = pc') (k : sm_run sc d M pc' lv r (h.set q x) w) : sm_run sc d M pc lv st h w := by
  subst hpc
  obtain ⟨n, hn⟩ := k
  refine rn_go (n := n) hf ?_
  have h1 : (match sm_w i a b st h with | some (r, q, x) => sm_ex sc n d M (pc + sm_ln i) lv r (h.set q x) | none => none) = some w := by rw [hp]; exact hn
  cases i
  case putfield => exact h1
  case iastore => exact h1
  case castore => exact h1
  case bastore => exact h1
  case lastore => exact h1
  case aastore => exact h1
  all_goals exact sm_nn hp
theorem rn_n {r : List Value} {x : sm_E} (hf : sm_find (sm_tab M) pc = some (i, a, b)) (hp : sm_n i a st = some (r, x)) (hpc : pc + sm_ln i = pc') (k : sm_run sc d M pc' lv (.ref h.length :: r) (h ++ [x]) w) : sm_run sc d M pc lv st h w := by
  subst hpc
  obtain ⟨n, hn⟩ := k
  refine rn_go (n := n) hf ?_
  have h1 : (match sm_n i a st with | some (r, x) => sm_ex sc n d M (pc + sm_ln i) lv (.ref h.length :: r) (h ++ [x]) | none => none) = some w := by rw [hp]; exact hn
  cases i
  case new => exact h1
  case newarray => exact h1
  case anewarray => exact h1
  all_goals exact sm_nn hp
theorem rn_cl {inst : Bool} {As r : List Value} {v : Option Value} {g : sm_H} (hv : sm_inv inst a st h = some (As, r)) (c : sm_run sc d a 0 (lv_args 0 As) [] h (v, g)) (k : sm_run sc (d + 1) M (pc + 3) lv (v.toList ++ r) g w) : ∃ n, sm_cl (sm_ex sc n) inst (d + 1) M pc a lv st h = some w := by
  obtain ⟨n1, h1⟩ := c
  obtain ⟨n2, h2⟩ := k
  refine ⟨n1 + n2, ?_⟩
  have e1 := sm_up (Or.inr rfl) n1 (n1 + n2) (by omega) _ _ _ _ _ _ _ _ (Nat.le_refl _) h1
  have e2 := sm_up (Or.inr rfl) n2 (n1 + n2) (by omega) _ _ _ _ _ _ _ _ (Nat.le_refl _) h2
  unfold sm_cl
  dsimp only
  rw [hv]
  dsimp only
  rw [e1]
  exact e2
theorem rn_cv {idx : Nat} {As r : List Value} {v : Option Value} {g : sm_H} {st2 : List Value} (hf : sm_find (sm_tab M) pc = some (.invokevirtual idx, a, b)) (hv : sm_inv true a st h = some (As, r)) (hst : v.toList ++ r = st2) (hpc : pc + 3 = pc') (c : sm_run sc d a 0 (lv_args 0 As) [] h (v, g)) (k : sm_run sc (d + 1) M pc' lv st2 g w) : sm_run sc (d + 1) M pc lv st h w := by
  subst hpc
  subst hst
  obtain ⟨n, hn⟩ := rn_cl (pc := pc) hv c k
  exact rn_go hf hn
theorem rn_cs {idx : Nat} {As r : List Value} {v : Option Value} {g : sm_H} {st2 : List Value} (hf : sm_find (sm_tab M) pc = some (.invokestatic idx, a, b)) (hb : Nat.ble b 2 = true) (hv : sm_inv false a st h = some (As, r)) (hst : v.toList ++ r = st2) (hpc : pc + 3 = pc') (c : sm_run sc d a 0 (lv_args 0 As) [] h (v, g)) (k : sm_run sc (d + 1) M pc' lv st2 g w) : sm_run sc (d + 1) M pc lv st h w := by
  subst hpc
  subst hst
  obtain ⟨n, hn⟩ := rn_cl (pc := pc) hv c k
  refine rn_go (n := n) hf ?_
  show (bif Nat.beq b 9 then _ else bif Nat.blt 2 b then _ else sm_cl (sm_ex sc n) false (d + 1) M pc a lv st h) = some w
  have h2 := Nat.le_of_ble_eq_true hb
  have e1 : Nat.beq b 9 = false := by
    rcases (show b = 0 ∨ b = 1 ∨ b = 2 by omega) with rfl | rfl | rfl <;> rfl
  have e2 : Nat.blt 2 b = false := by
    rcases (show b = 0 ∨ b = 1 ∨ b = 2 by omega) with rfl | rfl | rfl <;> rfl
  rw [e1, e2]
  exact hn
theorem rn_ci {idx : Nat} {As r : List Value} {v : Option Value} {g : sm_H} {st2 : List Value} (hf : sm_find (sm_tab M) pc = some (.invokespecial idx, a, b)) (hb : Nat.beq b 2 = false) (hv : sm_inv true a st h = some (As, r)) (hst : v.toList ++ r = st2) (hpc : pc + 3 = pc') (c : sm_run sc d a 0 (lv_args 0 As) [] h (v, g)) (k : sm_run sc (d + 1) M pc' lv st2 g w) : sm_run sc (d + 1) M pc lv st h w := by
  subst hpc
  subst hst
  obtain ⟨n, hn⟩ := rn_cl (pc := pc) hv c k
  refine rn_go (n := n) hf ?_
  show (bif Nat.beq b 2 then _ else sm_cl (sm_ex sc n) true (d + 1) M pc a lv st h) = some w
  rw [hb]
  exact hn
theorem rn_oi {idx q : Nat} {r : List Value} (hf : sm_find (sm_tab M) pc = some (.invokespecial idx, a, 2)) (hst : st = .ref q :: r) (hc : Nat.ble (sm_cat r) 8 = true) (k : sm_run sc (d + 1) M (pc + 3) lv r h w) : sm_run sc (d + 1) M pc lv st h w := by
  obtain ⟨n, hn⟩ := k
  subst hst
  refine rn_go (n := n) hf ?_
  show (bif Nat.ble (sm_cat r) 8 then sm_ex sc n (d + 1) M (pc + 3) lv r h else none) = some w
  rw [hc]
  exact hn
theorem rn_r (hf : sm_find (sm_tab M) pc = some (i, a, b)) (hp : sm_rt M i st h = some w) : sm_run sc d M pc lv st h w := by
  refine rn_go (n := 0) hf ?_
  cases i
  case ireturn => exact hp
  case lreturn => exact hp
  case areturn => exact hp
  case return_ => exact hp
  all_goals exact sm_nn hp
theorem rn_t {c : Prop} {ic : Decidable c} {w2 : Option (Nat × sm_L × List Value)} (hf : sm_find (sm_tab M) pc = some (i, a, b)) (hp : sm_p sc (sm_maxL M) pc i a b lv st h = @ite _ c ic (some (pc', lv', st')) w2) (hc : c) (k : sm_run sc d M pc' lv' st' h w) : sm_run sc d M pc lv st h w :=
  rn_p hf (hp.trans (if_pos hc)) k
theorem rn_f {c : Prop} {ic : Decidable c} {w2 : Option (Nat × sm_L × List Value)} (hf : sm_find (sm_tab M) pc = some (i, a, b)) (hp : sm_p sc (sm_maxL M) pc i a b lv st h = @ite _ c ic w2 (some (pc', lv', st'))) (hc : ¬ c) (k : sm_run sc d M pc' lv' st' h w) : sm_run sc d M pc lv st h w :=
  rn_p hf (hp.trans (if_neg hc)) k
/-- the script's ints -/
theorem rn_x {L j : Nat} {xs : Nat → Int32} {x : Int32} {r : List Value} (hf : sm_find (sm_tab M) pc = some (.iaload, a, b)) (hx : x.toNatClampNeg = j) (h0 : ¬ x < 0) (hj : j < L) (hpc : pc + 1 = pc') (k : sm_run (some (L, xs)) d M pc' lv (.int (xs j) :: r) h w) : sm_run (some (L, xs)) d M pc lv (.int x :: .float 0 :: r) h w := by
  subst hx
  subst hpc
  refine rn_f (c := x < 0 ∨ L ≤ x.toNatClampNeg) (w2 := none) hf rfl (fun q => ?_) k
  rcases q with q | q
  · exact h0 q
  · omega
theorem rn_iadd {x y v : Int32} {r : List Value} (hf : sm_find (sm_tab M) pc = some (.iadd, a, b)) (hv : x + y = v) (hpc : pc + 1 = pc') (k : sm_run sc d M pc' lv (.int v :: r) h w) : sm_run sc d M pc lv (.int y :: .int x :: r) h w := by
  subst hv
  subst hpc
  exact rn_p hf rfl k
theorem rn_isub {x y v : Int32} {r : List Value} (hf : sm_find (sm_tab M) pc = some (.isub, a, b)) (hv : x - y = v) (hpc : pc + 1 = pc') (k : sm_run sc d M pc' lv (.int v :: r) h w) : sm_run sc d M pc lv (.int y :: .int x :: r) h w := by
  subst hv
  subst hpc
  exact rn_p hf rfl k
theorem rn_iand {x y v : Int32} {r : List Value} (hf : sm_find (sm_tab M) pc = some (.iand, a, b)) (hv : x &&& y = v) (hpc : pc + 1 = pc') (k : sm_run sc d M pc' lv (.int v :: r) h w) : sm_run sc d M pc lv (.int y :: .int x :: r) h w := by
  subst hv
  subst hpc
  exact rn_p hf rfl k
theorem rn_lcmp {x y : Int64} {v : Int32} {r : List Value} (hf : sm_find (sm_tab M) pc = some (.lcmp, a, b)) (hv : lg_cmp x y = v) (hpc : pc + 1 = pc') (k : sm_run sc d M pc' lv (.int v :: r) h w) : sm_run sc d M pc lv (.long y :: .long x :: r) h w := by
  subst hv
  subst hpc
  exact rn_p hf rfl k
theorem rn_ts {df lo hi off : Int} {offs : Array Int} {x : Int32} {r : List Value} (hf : sm_find (sm_tab M) pc = some (.tableswitch df lo hi offs, a, b)) (h1 : ¬ (x.toInt < lo ∨ hi < x.toInt)) (ho : offs[(x.toInt - lo).toNat]? = some off) (ht : (pc : Int) + off = (pc' : Int)) (k : sm_run sc d M pc' lv r h w) : sm_run sc d M pc lv (.int x :: r) h w := by
  refine rn_p (pc' := pc') (lv' := lv) (st' := r) hf ?_ k
  show (if x.toInt < lo ∨ hi < x.toInt then sm_tgt pc df lv r else (match offs[(x.toInt - lo).toNat]? with | some off => sm_tgt pc off lv r | none => none)) = _
  rw [if_neg h1, ho]
  show sm_tgt pc off lv r = _
  unfold sm_tgt
  rw [ht, if_pos (Int.natCast_nonneg _), Int.toNat_natCast]
theorem rn_td {df lo hi : Int} {offs : Array Int} {x : Int32} {r : List Value} (hf : sm_find (sm_tab M) pc = some (.tableswitch df lo hi offs, a, b)) (h1 : x.toInt < lo ∨ hi < x.toInt) (ht : (pc : Int) + df = (pc' : Int)) (k : sm_run sc d M pc' lv r h w) : sm_run sc d M pc lv (.int x :: r) h w := by
  refine rn_p (pc' := pc') (lv' := lv) (st' := r) hf ?_ k
  show (if x.toInt < lo ∨ hi < x.toInt then sm_tgt pc df lv r else _) = _
  rw [if_pos h1]
  unfold sm_tgt
  rw [ht, if_pos (Int.natCast_nonneg _), Int.toNat_natCast]
theorem rn_cst {x i : Int32} {q : Nat} {g : List Int32} {r : List Value} (hf : sm_find (sm_tab M) pc = some (.castore, a, b)) (hq : h[q]? = some (.inl (2, .inl g))) (hi : ¬ (i < 0 ∨ g.length ≤ i.toNatClampNeg)) (hpc : pc + 1 = pc') (k : sm_run sc d M pc' lv r (h.set q (.inl (2, .inl (g.set i.toNatClampNeg (vp_nar .char x))))) w) : sm_run sc d M pc lv (.int x :: .int i :: .ref q :: r) h w := by
  refine rn_w (r := r) (q := q) (x := .inl (2, .inl (g.set i.toNatClampNeg (vp_nar .char x)))) hf ?_ hpc k
  show sm_arI h q 2 i _ = _
  unfold sm_arI
  rw [hq]
  show (if i < 0 ∨ g.length ≤ i.toNatClampNeg then none else _) = _
  rw [if_neg hi]
theorem rn_anyI {x : Int32} {r : List Value} (k : ∀ v : Int32, sm_run sc d M pc lv (.int v :: r) h w) : sm_run sc d M pc lv (.int x :: r) h w := k x
theorem rn_anyL {x : Int64} {r : List Value} (k : ∀ v : Int64, sm_run sc d M pc lv (.long v :: r) h w) : sm_run sc d M pc lv (.long x :: r) h w := k x
end SMN
