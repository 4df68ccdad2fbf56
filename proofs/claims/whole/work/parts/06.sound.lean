/-! the whole small machine: what it answers, the machine answers -/
theorem sm_lg : ∀ vs : List Value, (lg_sl vs).length = sm_cat vs
  | [] => rfl
  | v :: vs => by
    have ih := sm_lg vs
    have e1 : lg_sl (v :: vs) = (if v.category = 2 then [.val v, .second] else [.val v]) ++ lg_sl vs := by simp [lg_sl]
    have e2 : sm_cat (v :: vs) = v.category + sm_cat vs := by simp [sm_cat]
    rw [e1, e2, List.length_append, ih]
    rcases lv_cat v with h | h
    · rw [h]; rfl
    · rw [h]; rfl
theorem sm_pop_inv : ∀ {n : Nat} {st A B r : List Value}, sm_pop n st A = some (B, r) → ∃ As : List Value, As.length = n ∧ B = As ++ A ∧ st = As.reverse ++ r
  | 0, st, A, B, r, h => by cases h; exact ⟨[], rfl, rfl, rfl⟩
  | n + 1, [], A, B, r, h => by cases h
  | n + 1, v :: st, A, B, r, h => by
    obtain ⟨As, h1, h2, h3⟩ := sm_pop_inv (n := n) (show sm_pop n st (v :: A) = some (B, r) from h)
    exact ⟨As ++ [v], by rw [List.length_append, h1]; rfl, by rw [h2]; simp, by rw [h3]; simp⟩
theorem sm_inv_i {M : Nat} {st As r : List Value} {h : sm_H} (e : sm_inv true M st h = some (As, r)) : ∃ (v : Value) (A0 : List Value), As = v :: A0 ∧ A0.length = sm_np M ∧ st = A0.reverse ++ v :: r ∧ sm_rc M v h = true ∧ sm_cat r ≤ 8 ∧ sm_cat As ≤ sm_maxL M := by
  unfold sm_inv at e
  split at e
  · cases e
  · next A0 r0 hp =>
    obtain ⟨A1, h1, h2, h3⟩ := sm_pop_inv hp
    obtain ⟨v, r1, rfl, e⟩ := sm_v_inv (show sm_v r0 _ = _ from e)
    obtain ⟨hb, e⟩ := sm_b_inv e
    rw [Bool.and_eq_true, Bool.and_eq_true] at hb
    rw [List.append_nil] at h2
    subst h2
    cases e
    exact ⟨v, A0, rfl, h1, h3, hb.1.1, Nat.le_of_ble_eq_true hb.1.2, Nat.le_of_ble_eq_true hb.2⟩
theorem sm_inv_s {M : Nat} {st As r : List Value} {h : sm_H} (e : sm_inv false M st h = some (As, r)) : As.length = sm_np M ∧ st = As.reverse ++ r ∧ sm_cat r ≤ 8 ∧ sm_cat As ≤ sm_maxL M := by
  unfold sm_inv at e
  split at e
  · cases e
  · next A0 r0 hp =>
    obtain ⟨A1, h1, h2, h3⟩ := sm_pop_inv hp
    obtain ⟨hb, e⟩ := sm_b_inv (show (bif Nat.ble (sm_cat r0) 8 && Nat.ble (sm_cat A0) (sm_maxL M) then some (A0, r0) else none) = _ from e)
    rw [Bool.and_eq_true] at hb
    rw [List.append_nil] at h2
    subst h2
    cases e
    exact ⟨h1, h3, Nat.le_of_ble_eq_true hb.1, Nat.le_of_ble_eq_true hb.2⟩
section SMS
variable {z L : Nat} {b : UInt32 → Option Nat} {xs : Nat → Int32} {H00 : Heap} {D : va_G} {cA : Nat → ClassId}
/-- a return that fits the method -/
def sm_rk (M pc : Nat) (v : Option Value) : Prop :=
  (∃ x ty, v = some (.int x) ∧ decode (sm_code M) pc = .ok (.ireturn, 1) ∧ sm_ret M = some ty ∧ narrow ty (.int x) = .int x) ∨
  (∃ x, v = some (.long x) ∧ decode (sm_code M) pc = .ok (.lreturn, 1) ∧ sm_ret M = some .long) ∨
  (∃ k C, v = some (.ref k) ∧ decode (sm_code M) pc = .ok (.areturn, 1) ∧ sm_ret M = some (.object C)) ∨
  (v = none ∧ decode (sm_code M) pc = .ok (.return_, 1) ∧ sm_ret M = none)
def sm_V (z : Nat) (b : UInt32 → Option Nat) (v : Option Value) : List Value := v.toList.map (sm_rv z b)
def sm_S (z : Nat) (b : UInt32 → Option Nat) (L : Nat) (xs : Nat → Int32) (H00 : Heap) (D : va_G) (cA : Nat → ClassId) (d M pc : Nat) (lv : sm_L) (st : List Value) (h : sm_H) (v : Option Value) (h' : sm_H) : Prop :=
  (h.length ≤ h'.length ∧ sm_ss h ≤ sm_ss h') ∧ ∀ (p : Program) (l : Launch) (e : Env) (R : Room) (s : State) (m : MethodId) (args : Array Value) (below : List Frame) (meth : Method) (c : Code) (Q : State → Prop) (ls : Array Slot) (H : Heap) (locs : List Loc) (cells slots : Nat),
    sm_Fr z b L xs H00 D cA p s m meth c M → sm_R z b H00 D cA h H → (∀ w ∈ locs, z ≤ w.base) → lv_has ls (sm_maxL M) (sm_ml z b lv) → d ≤ R.frames → d * 40 ≤ R.locals → cells + (h'.length - h.length) ≤ R.cells → slots + (sm_ss h' - sm_ss h) ≤ R.slots →
    (∀ (H' : Heap) (locs' : List Loc) (pc' : Nat) (ls' : Array Slot), sm_R z b H00 D cA h' H' → (∀ w ∈ locs', z ≤ w.base) → sm_rk M pc' v → W p l e R s m args below meth c H' locs' (cells + (h'.length - h.length)) (slots + (sm_ss h' - sm_ss h)) Q (F0 m pc' ls' (sm_V z b v))) →
    W p l e R s m args below meth c H locs cells slots Q (F0 m pc ls (st.map (sm_rv z b)))
def sm_Pc (z : Nat) (b : UInt32 → Option Nat) (L : Nat) (xs : Nat → Int32) (H00 : Heap) (D : va_G) (cA : Nat → ClassId) (As : List Value) (h : sm_H) : Array Value → State → Prop := va_Pc (As.map (sm_rv z b)) (fun U => sm_R z b H00 D cA h U.heap ∧ sm_C z b L xs H00 D cA U)
def sm_Qc (z : Nat) (b : UInt32 → Option Nat) (H00 : Heap) (D : va_G) (cA : Nat → ClassId) (v : Option Value) (h' : sm_H) : Array Value → State → Outcome → State → Prop := fun _ _ oc t => oc = .returned (v.map (sm_rv z b)) ∧ sm_R z b H00 D cA h' t.heap
abbrev sm_cw (M : Nat) : Cond := Cond.code (sm_name M) (sm_code M) (sm_maxL M) (sm_ret M)
abbrev sm_rm (d mc ms : Nat) : Room := { frames := d, cells := mc, slots := ms, locals := d * 40 }
/-- a method's contract out of the small machine's answer -/
theorem sm_met {l : Launch} {d M : Nat} {As : List Value} {h h' : sm_H} {v : Option Value} (hok : sm_mok M) (hcat : sm_cat As ≤ sm_maxL M) (hS : sm_S z b L xs H00 D cA d M 0 (lv_args 0 As) [] h v h') :
    Met l (sm_name M) [sm_cw M] (sm_rm d (h'.length - h.length) (sm_ss h' - sm_ss h)) (sm_Pc z b L xs H00 D cA As h) (sm_Qc z b H00 D cA v h') (h'.length - h.length) (sm_ss h' - sm_ss h) (fun q => z ≤ q) := by
  refine Met.ofW (cc := sm_code M) (maxL := sm_maxL M) (ret := sm_ret M) hok.2.2.2.2.1 rfl ?_
  intro p e s m args below meth c s₁ B hml hv
  obtain ⟨rfl, hR, hC⟩ := hv
  have hF : sm_Fr z b L xs H00 D cA p s m meth c M := ⟨B.exec, B.bytes, hml, findClass_of_methodNamed B.named, B.returns, B.notSynchronized, fun hi => (name_of_methodNamed B.named B.method).1.trans hi, hC⟩
  have hl := lv_entry (As.map (sm_rv z b)) (n := sm_maxL M) (by rw [sm_lg]; unfold sm_cat; rw [sm_cat_map]; exact hcat)
  rw [lg_entry_eq]
  generalize (lg_sl (As.map (sm_rv z b)) ++ List.replicate (sm_maxL M - (lg_sl (As.map (sm_rv z b))).length) Slot.unset).toArray = ls at hl ⊢
  rw [sm_ml_args] at hl
  refine hS.2 p l e _ s m _ below meth c _ ls s.heap [] 0 0 hF hR (fun w hw => by cases hw) hl (Nat.le_refl _) (Nat.le_refl _) (by rw [Nat.zero_add]; exact Nat.le_refl _) (by rw [Nat.zero_add]; exact Nat.le_refl _) ?_
  intro H' locs' pc' ls' hR' hlo' hrk
  refine W.cs (Nat.zero_add _) (Nat.zero_add _) ?_
  rcases hrk with ⟨x, ty, rfl, hd, hty, hn⟩ | ⟨x, rfl, hd, hty⟩ | ⟨k, C, rfl, hd, hty⟩ | ⟨rfl, hd, hty⟩
  · exact W.zret B.exec B.bytes (B.returns.trans hty) hn (fun t ht _ => ⟨rfl, by rw [ht]; exact hR'⟩) hlo' hd B.notSynchronized
  · exact W.lret B.exec B.bytes (B.returns.trans hty) (fun t ht _ => ⟨rfl, by rw [ht]; exact hR'⟩) hlo' hd B.notSynchronized
  · exact W.aret B.exec B.bytes (B.returns.trans hty) (Or.inl ⟨C, rfl⟩) (Or.inr ⟨z + k, rfl⟩) (fun t ht _ => ⟨rfl, by rw [ht]; exact hR'⟩) hlo' hd B.notSynchronized
  · exact W.vret B.exec B.bytes (B.returns.trans hty) (fun t ht _ => ⟨rfl, by rw [ht]; exact hR'⟩) hlo' hd B.notSynchronized
theorem sm_blind (As : List Value) (h : sm_H) : FrameBlind (sm_Pc z b L xs H00 D cA As h) := by
  intro a U g mk hq
  obtain ⟨q0, q1, q2⟩ := hq
  exact ⟨q0, q1, sm_C.warm q2 (State.WarmedH.refl U)⟩
section SMC
variable {p : Program} {l : Launch} {e : Env} {R : Room} {s : State} {m : MethodId} {args : Array Value} {below : List Frame} {meth : Method} {c : Code} {H : Heap} {locs : List Loc} {cells slots : Nat} {Q : State → Prop} {ls : Array Slot} {pc : Nat} {st0 rest : List Value}
theorem sm_cont {mc ms : Nat} {v : Option Value} {h1 : sm_H} {A : Array Value} {r : List Value} (hr : va_Run p l e R s m args below meth c H locs cells slots mc ms (F0 m pc ls st0) (r.map (sm_rv z b)) (sm_Qc z b H00 D cA v h1 A) (fun q => z ≤ q)) (hlo : ∀ w ∈ locs, z ≤ w.base)
    (kC : ∀ (H1 : Heap) (locs1 : List Loc), sm_R z b H00 D cA h1 H1 → (∀ w ∈ locs1, z ≤ w.base) → W p l e R s m args below meth c H1 locs1 (cells + mc) (slots + ms) Q (F0 m (pc + 3) ls ((v.toList ++ r).map (sm_rv z b)))) : W p l e R s m args below meth c H locs cells slots Q (F0 m pc ls st0) := by
  intro T hT X
  obtain ⟨v', st₀, t, T', L', h0, X', hL, e1, e2, ⟨hq1, hq2⟩, st⟩ := hr T hT X
  have hv : v' = v.map (sm_rv z b) := Outcome.returned.inj hq1
  subst hv
  have hst : (v.map (sm_rv z b)).toList ++ r.map (sm_rv z b) = (v.toList ++ r).map (sm_rv z b) := by cases v <;> rfl
  have hlo1 : ∀ w ∈ locs ++ L', z ≤ w.base := fun w hw => by
    rcases List.mem_append.mp hw with h1 | h1
    · exact hlo w h1
    · exact hL w h1
  obtain ⟨t2, a1, b1⟩ := kC t.heap (locs ++ L') hq2 hlo1 T' e1 X'
  rw [← hst] at a1
  exact ⟨t2, st t2 a1, b1⟩
end SMC
theorem sm_recv {p : Program} {s : State} {m : MethodId} {meth : Method} {c : Code} {H : Heap} {M M2 : Nat} {v : Value} {h : sm_H} (hF : sm_Fr z b L xs H00 D cA p s m meth c M) (hR : sm_R z b H00 D cA h H) (hrc : sm_rc M2 v h = true) (hmi : sm_mI M2) : ∃ y : Nat, sm_rv z b v = .ref y ∧ ∃ cell : Cell, H[y]? = some cell ∧ cell.vm.isStatics = false ∧ s.vm.findClass (sm_name M2).cls = some cell.cls := by
  unfold sm_rc at hrc
  split at hrc
  · next k =>
    split at hrc
    · next ci fs hk =>
      have e1 := Nat.eq_of_beq_eq_true hrc
      subst e1
      rcases hmi.2 with ⟨q, hq1, hq2⟩ | ⟨h100, -⟩
      · have hr := va_recv (sm_hK hF) hR.2.2 hq1 (sm_ws_at hk)
        rw [hq2] at hr
        exact ⟨z + k, rfl, hr⟩
      · obtain ⟨w, hw, -⟩ := hR.2.2 k _ (sm_ws_at hk)
        rw [h100] at hw
        exact sm_no100 hw
    · cases hrc
  · next u =>
    split at hrc
    · next i hi =>
      have h100 := Nat.eq_of_beq_eq_true hrc
      obtain ⟨hi1, hu⟩ := sm_sK_inv hi
      rcases hmi.2 with ⟨q, hq1, -⟩ | ⟨-, hcl⟩
      · rw [h100] at hq1
        exact sm_no100 hq1
      · obtain ⟨kk, vv, t1, t2, t3, t4, t5⟩ := sm_hT hF
        obtain ⟨cell, h1, h2, h3, -⟩ := (t2.1 i hi1).1.kept (sm_kept hR)
        refine ⟨kk i, ?_, cell, h1, h2, by rw [hcl]; exact h3⟩
        show va_rf (b u) = _
        rw [hu, (t1 i hi1).1]; rfl
    · cases hrc
  · cases hrc
/-- a call, by its three kinds -/
theorem sm_calls {n d M pc i1 i2 : Nat} {lv : sm_L} {st : List Value} {h h' : sm_H} {v : Option Value} {i : Instr} (inst : Bool) (hk : (inst = true ∧ ∃ idx, i = .invokevirtual idx) ∨ (inst = false ∧ i2 ≤ 2 ∧ ∃ idx, i = .invokestatic idx) ∨ (inst = true ∧ i2 ≠ 2 ∧ ∃ idx, i = .invokespecial idx))
    (ih : ∀ (d M pc : Nat) (lv : sm_L) (st : List Value) (h : sm_H) (v : Option Value) (h' : sm_H), sm_ex (some (L, xs)) n d M pc lv st h = some (v, h') → sm_S z b L xs H00 D cA d M pc lv st h v h')
    (hd : sm_ok M (pc, i, i1, i2)) (hs : sm_cl (sm_ex (some (L, xs)) n) inst d M pc i1 lv st h = some (v, h')) : sm_S z b L xs H00 D cA d M pc lv st h v h' := by
  cases d with
  | zero => exact sm_nn hs
  | succ d =>
    unfold sm_cl at hs
    dsimp only at hs
    split at hs
    · cases hs
    · next As r hinv =>
      split at hs
      · cases hs
      · next v1 h1 hex =>
        have S1 := ih _ _ _ _ _ _ _ _ hex
        have S2 := ih _ _ _ _ _ _ _ _ hs
        refine ⟨⟨Nat.le_trans S1.1.1 S2.1.1, Nat.le_trans S1.1.2 S2.1.2⟩, ?_⟩
        intro p l e R s m args below meth c Q ls H locs cells slots hF hR hlo hl hfr hlc hcc hcs hQ
        have m1 := S1.1.1
        have m2 := S1.1.2
        have m3 := S2.1.1
        have m4 := S2.1.2
        have hgo : ∀ (H1 : Heap) (locs1 : List Loc), sm_R z b H00 D cA h1 H1 → (∀ w ∈ locs1, z ≤ w.base) → W p l e R s m args below meth c H1 locs1 (cells + (h1.length - h.length)) (slots + (sm_ss h1 - sm_ss h)) Q (F0 m (pc + 3) ls ((v1.toList ++ r).map (sm_rv z b))) := by
          intro H1 locs1 hR1 hlo1
          refine S2.2 p l e R s m args below meth c Q ls H1 locs1 _ _ hF hR1 hlo1 hl hfr hlc (by omega) (by omega) ?_
          intro H' locs' pc' ls' a1 a2 a3
          exact W.cs (by omega) (by omega) (hQ H' locs' pc' ls' a1 a2 a3)
        have words : sm_mok i1 → ∀ w ∈ [sm_cw i1], ∀ (a' : Array Value) (U : State), s.WarmedH U.vm → w.before a' U = true := by
          intro hok w hw a' U hW
          rw [List.mem_singleton.mp hw]
          exact (sm_C.warm hF.2.2.2.2.2.2.2 hW).2.2.1 _ hok.1 a'
        have pars : sm_mok i1 → ∀ sig, parseMethodDescriptor (sm_name i1).desc = some sig → sm_np i1 = sig.parameters.length := by
          intro hok sig hsig
          have h2 := hok.2.2.2.1
          rw [hsig] at h2
          exact (Option.some.inj h2).symm
        have room : sm_mok i1 → 8 + (sm_maxL i1 + 11) + d * 40 ≤ R.locals := by
          intro hok
          have h2 := hok.2.2.2.2.2
          omega
        have capc : cells + (h1.length - h.length) ≤ R.cells ∧ slots + (sm_ss h1 - sm_ss h) ≤ R.slots := ⟨by omega, by omega⟩
        have fix : CallFix p m c (sm_code M) (sm_maxL M) s args sm_tbl (sm_name M).cls := ⟨hF.1, hF.2.1, hF.2.2.1, hF.2.2.2.1, sm_wds hF⟩
        rcases hk with ⟨rfl, idx, rfl⟩ | ⟨rfl, hi9, idx, rfl⟩ | ⟨rfl, hi2, idx, rfl⟩
        · obtain ⟨hd, hok, hmi, hsel, hlk⟩ := hd
          obtain ⟨v0, A0, rfl, a1, a2, a3, a4, a5⟩ := sm_inv_i hinv
          have hM := sm_met (l := l) hok a5 S1
          obtain ⟨y, hy, hrecv⟩ := sm_recv hF hR a3 hmi
          have hp : PreV s H (sm_name i1).cls y (sm_Pc z b L xs H00 D cA (v0 :: A0) h) (A0.map (sm_rv z b)) := ⟨sm_blind _ _, hrecv, fun U hU hW => ⟨by rw [List.map_cons, hy], by rw [hU]; exact hR, sm_C.warm hF.2.2.2.2.2.2.2 hW⟩⟩
          have hstk : (F0 m pc ls (st.map (sm_rv z b))).stack = (A0.map (sm_rv z b)).reverse ++ .ref y :: r.map (sm_rv z b) := by
            show st.map (sm_rv z b) = _
            rw [a2, List.map_append, List.map_reverse, List.map_cons, hy]
          rcases hlk with hlk | ⟨host, hlk⟩
          · exact sm_cont (va_runV (C := (sm_name i1).cls) (bytes := sm_code i1) (maxL := sm_maxL i1) (ret := sm_ret i1) (n := sm_np i1) (index := idx) fix hM ⟨⟨rfl, rfl, hfr, room hok, words hok, List.mem_singleton.mpr rfl, sm_wd hF hok.1, sm_wd hF hok.2.1, hok.2.2.1, pars hok, sm_wd hF hlk⟩, sm_wd hF hmi.1, sm_wd hF hsel⟩ hp rfl (by rw [List.length_map]; exact a1) hl.1 hstk (lv_room (by rw [sm_cat_map]; exact a4)) hd capc) hlo hgo
          · exact sm_cont (va_runVN (C := (sm_name i1).cls) (host := host) (bytes := sm_code i1) (maxL := sm_maxL i1) (ret := sm_ret i1) (n := sm_np i1) (index := idx) fix hM ⟨⟨⟨rfl, rfl, hfr, room hok, words hok, List.mem_singleton.mpr rfl⟩, sm_wd hF hok.1, sm_wd hF hok.2.1, hok.2.2.1, pars hok, sm_wd hF hlk⟩, sm_wd hF hmi.1, sm_wd hF hsel⟩ hp rfl (by rw [List.length_map]; exact a1) hl.1 hstk (lv_room (by rw [sm_cat_map]; exact a4)) hd capc) hlo hgo
        · obtain ⟨hd, hst0⟩ := hd
          rcases hst0 with ⟨-, hok, hst, hlk⟩ | ⟨h9, -⟩ | ⟨h9, -⟩ | ⟨h9, -⟩ | ⟨h9, -⟩ | ⟨h9, -⟩
          rotate_left
          · have h9 : i2 = 9 := h9
            omega
          · have h9 : i2 = 3 := h9
            omega
          · have h9 : i2 = 4 := h9
            omega
          · have h9 : i2 = 5 := h9
            omega
          · have h9 : i2 = 6 := h9
            omega
          obtain ⟨a1, a2, a4, a5⟩ := sm_inv_s hinv
          have hM := sm_met (l := l) hok a5 S1
          have hp : PreS s H (sm_Pc z b L xs H00 D cA As h) (As.map (sm_rv z b)) := ⟨sm_blind _ _, fun U hU hW => ⟨rfl, by rw [hU]; exact hR, sm_C.warm hF.2.2.2.2.2.2.2 hW⟩⟩
          have hstk : (F0 m pc ls (st.map (sm_rv z b))).stack = (As.map (sm_rv z b)).reverse ++ r.map (sm_rv z b) := by
            show st.map (sm_rv z b) = _
            rw [a2, List.map_append, List.map_reverse]
          rcases hlk with hlk | ⟨host, hlk⟩
          · exact sm_cont (va_runS (bytes := sm_code i1) (maxL := sm_maxL i1) (ret := sm_ret i1) (n := sm_np i1) (index := idx) fix hM ⟨⟨rfl, rfl, hfr, room hok, words hok, List.mem_singleton.mpr rfl, sm_wd hF hok.1, sm_wd hF hok.2.1, hok.2.2.1, pars hok, sm_wd hF hlk⟩, sm_wd hF hst⟩ hp rfl (by rw [List.length_map]; exact a1) hl.1 hstk (lv_room (by rw [sm_cat_map]; exact a4)) hd capc) hlo hgo
          · exact sm_cont (va_runSN (host := host) (bytes := sm_code i1) (maxL := sm_maxL i1) (ret := sm_ret i1) (n := sm_np i1) (index := idx) fix hM ⟨⟨⟨rfl, rfl, hfr, room hok, words hok, List.mem_singleton.mpr rfl⟩, sm_wd hF hok.1, sm_wd hF hok.2.1, hok.2.2.1, pars hok, sm_wd hF hlk⟩, sm_wd hF hst, trivial⟩ hp rfl (by rw [List.length_map]; exact a1) hl.1 hstk (lv_room (by rw [sm_cat_map]; exact a4)) hd capc) hlo hgo
        · obtain ⟨hd, hsp⟩ := hd
          rcases hsp with ⟨h2, -⟩ | ⟨-, hok, hmi, hnm, hret, hlk⟩
          · exact absurd h2 hi2
          obtain ⟨v0, A0, rfl, a1, a2, a3, a4, a5⟩ := sm_inv_i hinv
          have hM := sm_met (l := l) hok a5 S1
          obtain ⟨y, hy, hrecv⟩ := sm_recv hF hR a3 hmi
          have hp : PreS s H (sm_Pc z b L xs H00 D cA (v0 :: A0) h) (.ref y :: A0.map (sm_rv z b)) := ⟨sm_blind _ _, fun U hU hW => ⟨by rw [List.map_cons, hy], by rw [hU]; exact hR, sm_C.warm hF.2.2.2.2.2.2.2 hW⟩⟩
          have hstk : (F0 m pc ls (st.map (sm_rv z b))).stack = (A0.map (sm_rv z b)).reverse ++ .ref y :: r.map (sm_rv z b) := by
            show st.map (sm_rv z b) = _
            rw [a2, List.map_append, List.map_reverse, List.map_cons, hy]
          have hcw : sm_cw i1 = Cond.code (sm_name i1) (sm_code i1) (sm_maxL i1) none := by unfold sm_cw; rw [hret]
          rcases hlk with hlk | ⟨host, hlk⟩
          · exact sm_cont (va_runI (bytes := sm_code i1) (maxL := sm_maxL i1) (n := sm_np i1) (index := idx) fix hM ⟨⟨rfl, rfl, hfr, room hok, words hok, List.mem_singleton.mpr hcw.symm, by rw [← hcw]; exact sm_wd hF hok.1, sm_wd hF hok.2.1, hok.2.2.1, pars hok, sm_wd hF hlk⟩, hnm, sm_wd hF hmi.1⟩ hp rfl (by rw [List.length_map]; exact a1) hl.1 hstk (lv_room (by rw [sm_cat_map]; exact a4)) hd capc) hlo hgo
          · exact sm_cont (va_runIN (host := host) (bytes := sm_code i1) (maxL := sm_maxL i1) (n := sm_np i1) (index := idx) fix hM ⟨⟨⟨rfl, rfl, hfr, room hok, words hok, List.mem_singleton.mpr hcw.symm⟩, by rw [← hcw]; exact sm_wd hF hok.1, sm_wd hF hok.2.1, hok.2.2.1, pars hok, sm_wd hF hlk⟩, hnm, sm_wd hF hmi.1⟩ hp rfl (by rw [List.length_map]; exact a1) hl.1 hstk (lv_room (by rw [sm_cat_map]; exact a4)) hd capc) hlo hgo
theorem sm_aq_inv {h : sm_H} {q : Nat} {g : List Int64} (e : sm_aq h q = some g) : h[q]? = some (.inl (1, .inr (.inl g))) := by
  unfold sm_aq at e
  split at e
  · next t g' hq =>
    obtain ⟨h1, h2⟩ := sm_b_inv e
    have e3 : t = 1 := Nat.eq_of_beq_eq_true h1
    cases h2
    rw [hq, e3]
  · cases e
theorem sm_cpy_len (f g : List Int64) (sp dp n : Nat) : (sm_cpy f g sp dp n).length = g.length := by simp [sm_cpy]
theorem sm_cpy_get (f g : List Int64) (sp dp n j : Nat) (hj : j < g.length) : (sm_cpy f g sp dp n).getD j 0 = va_cpy (fun j => f.getD j 0) (fun j => g.getD j 0) sp dp n j := by
  unfold sm_cpy va_cpy
  rw [List.getD_eq_getElem?_getD, List.getElem?_map, List.getElem?_range hj]
  rfl
theorem sm_ac_inv {st r : List Value} {h : sm_H} {q : Nat} {x : sm_E} (e : sm_ac st h = some (r, q, x)) : ∃ (n dp sp : Int32) (a0 : Nat) (f g : List Int64), st = .int n :: .int dp :: .ref q :: .int sp :: .ref a0 :: r ∧ h[a0]? = some (.inl (1, .inr (.inl f))) ∧ h[q]? = some (.inl (1, .inr (.inl g))) ∧ x = .inl (1, .inr (.inl (sm_cpy f g sp.toNatClampNeg dp.toNatClampNeg n.toNatClampNeg))) ∧ ¬ sp < 0 ∧ ¬ dp < 0 ∧ ¬ n < 0 ∧ sp.toNatClampNeg + n.toNatClampNeg ≤ f.length ∧ dp.toNatClampNeg + n.toNatClampNeg ≤ g.length ∧ sm_cat r ≤ 8 := by
  unfold sm_ac at e
  obtain ⟨dp, n, r1, rfl, e1⟩ := sm_ii_inv e
  obtain ⟨a, r2, rfl, e2⟩ := sm_r_inv e1
  obtain ⟨sp, r3, rfl, e3⟩ := sm_i_inv e2
  obtain ⟨a0, r4, rfl, e4⟩ := sm_r_inv e3
  split at e4
  · next f g hf hg =>
    obtain ⟨hc, e5⟩ := sm_if_inv e4
    cases e5
    refine ⟨n, dp, sp, a0, f, g, rfl, sm_aq_inv hf, sm_aq_inv hg, rfl, fun z => hc (Or.inl z), fun z => hc (Or.inr (Or.inl z)), fun z => hc (Or.inr (Or.inr (Or.inl z))), ?_, ?_, ?_⟩
    · exact Nat.not_lt.mp fun z => hc (Or.inr (Or.inr (Or.inr (Or.inl z))))
    · exact Nat.not_lt.mp fun z => hc (Or.inr (Or.inr (Or.inr (Or.inr (Or.inl z)))))
    · exact Nat.not_lt.mp fun z => hc (Or.inr (Or.inr (Or.inr (Or.inr (Or.inr z)))))
  · cases e4
theorem sm_ac_size {st r : List Value} {h : sm_H} {q : Nat} {x : sm_E} (e : sm_ac st h = some (r, q, x)) : (h.set q x).length = h.length ∧ sm_ss (h.set q x) = sm_ss h := by
  obtain ⟨n, dp, sp, a0, f, g, -, -, hq, rfl, -⟩ := sm_ac_inv e
  refine ⟨List.length_set, ?_⟩
  unfold sm_ss
  rw [List.map_set]
  congr 1
  apply List.ext_getElem?
  intro j
  rw [List.getElem?_set]
  by_cases hj : q = j
  · subst hj
    rw [if_pos rfl, List.length_map, List.getElem?_map, hq]
    have hl : q < h.length := (List.getElem?_eq_some_iff.mp hq).1
    rw [if_pos hl]
    show some (sm_cpy f g _ _ _).length = some g.length
    rw [sm_cpy_len]
  · rw [if_neg hj]
theorem sm_copy {p : Program} {l : Launch} {e : Env} {R : Room} {s : State} {m : MethodId} {args : Array Value} {below : List Frame} {meth : Method} {c : Code} {H : Heap} {locs : List Loc} {cells slots : Nat} {Q : State → Prop} {ls : Array Slot} {M pc idx d : Nat} {st r : List Value} {h : sm_H} {q : Nat} {x : sm_E} {lv : sm_L}
    (hF : sm_Fr z b L xs H00 D cA p s m meth c M) (hR : sm_R z b H00 D cA h H) (hlo : ∀ w ∈ locs, z ≤ w.base) (hl : lv_has ls (sm_maxL M) (sm_ml z b lv)) (hfr : d + 1 ≤ R.frames) (hlc : (d + 1) * 40 ≤ R.locals) (w1 : Cond.methodLink (sm_name M).cls idx arraycopyName ∈ sm_tbl) (w2 : Cond.native arraycopyName ∈ sm_tbl) (w3 : Cond.static arraycopyName ∈ sm_tbl) (w4 : Cond.initialized "java/lang/System" ∈ sm_tbl)
    (hd : decode (sm_code M) pc = .ok (.invokestatic idx, 3)) (hs : sm_ac st h = some (r, q, x))
    (kC : ∀ (H1 : Heap) (locs1 : List Loc), sm_R z b H00 D cA (h.set q x) H1 → (∀ w ∈ locs1, z ≤ w.base) → W p l e R s m args below meth c H1 locs1 cells slots Q (F0 m (pc + 3) ls (r.map (sm_rv z b)))) : W p l e R s m args below meth c H locs cells slots Q (F0 m pc ls (st.map (sm_rv z b))) := by
  obtain ⟨n, dp, sp, a0, f, g, rfl, hq0, hq, rfl, h1, h2, h3, h4, h5, h8⟩ := sm_ac_inv hs
  have nn : ∀ y : Int32, ¬ y < 0 → y.toInt = (y.toNatClampNeg : Int) := by
    intro y hy
    have hy0 : (0 : Int) ≤ y.toInt := by
      have := Int32.not_lt.mp hy
      simpa using Int32.le_iff_toInt_le.mp this
    show y.toInt = ((y.toInt.toNat : Nat) : Int)
    omega
  intro T hT X
  have hc0 : H[z + a0]? = some (vp_cell (cA 1) (f.length, .inr (.inl (fun j => f.getD j 0)))) := hR.2.2 a0 _ (sm_ws_at hq0)
  have hc1 : H[z + q]? = some (vp_cell (cA 1) (g.length, .inr (.inl (fun j => g.getD j 0)))) := hR.2.2 q _ (sm_ws_at hq)
  obtain ⟨-, k0, hk0, cm0, hkk0⟩ := ((sm_hK hF).2 1 _ rfl).1 f.length (fun j => .long (f.getD j 0))
  have hnf : nativeFrameWords "java/lang/System" "arraycopy" 5 ≤ 20 := by decide
  obtain ⟨vm', X', step⟩ := X.arraycopy hF.1 hF.2.2.2.1 (sm_wd hF w1) (sm_wd hF w2) (sm_wd hF w3) (sm_wd hF w4) (src := z + a0) (dst := z + q) (cs := vp_cell (cA 1) (f.length, .inr (.inl (fun j => f.getD j 0)))) (cd := vp_cell (cA 1) (g.length, .inr (.inl (fun j => g.getD j 0)))) (srcPos := sp) (destPos := dp) (n := n) (by rw [hT]; exact hc0) (by rw [hT]; exact hc1)
    (fun _ h => by cases h) (fun _ h => by cases h) (fun h => by cases h) (fun h => by cases h) hk0 hk0 hkk0 hkk0 rfl h1 h2 h3
    (by rw [nn sp h1, nn n h3]; show ¬ _ > ((arrV (cA 1) f.length (fun j => .long (f.getD j 0))).slots.size : Int); rw [arrV_size]; omega)
    (by rw [nn dp h2, nn n h3]; show ¬ _ > ((arrV (cA 1) g.length (fun j => .long (g.getD j 0))).slots.size : Int); rw [arrV_size]; omega)
    (fun vm₁ _ i hi => by
      have e : (vp_cell (cA 1) (f.length, .inr (.inl (fun j => f.getD j 0)))).slots.getD (sp.toNatClampNeg + i) .null = .long (f.getD (sp.toNatClampNeg + i) 0) := by
        show (arrV _ _ _).slots.getD _ _ = _
        rw [Array.getD_eq_getD_getElem?, arrV_read _ _ (by omega)]
        rfl
      refine ⟨?_, ?_⟩
      · rw [e]; rfl
      · rw [e]
        exact trivial)
    (g := F0 m pc ls (.int n :: .int dp :: .ref (z + q) :: .int sp :: .ref (z + a0) :: r.map (sm_rv z b))) rfl (hl.1.trans hF.2.2.1.symm) (rest := r.map (sm_rv z b)) rfl (by rw [hF.2.1]; exact hd) (by omega) (by show 2 * 0 + _ + _ ≤ _; rw [sm_cat_map]; omega)
  have e1 : copied (vp_cell (cA 1) (f.length, .inr (.inl (fun j => f.getD j 0)))) (vp_cell (cA 1) (g.length, .inr (.inl (fun j => g.getD j 0)))) sp dp n = vp_cell (cA 1) (sm_ia z (.inr (.inl (sm_cpy f g sp.toNatClampNeg dp.toNatClampNeg n.toNatClampNeg)))) := by
    refine (va_copied (fun y => .long y) (cA 1) (cA 1) (fun j => f.getD j 0) (fun j => g.getD j 0) h4).trans ?_
    show _ = vp_cell (cA 1) ((sm_cpy f g _ _ _).length, .inr (.inl (fun j => (sm_cpy f g sp.toNatClampNeg dp.toNatClampNeg n.toNatClampNeg).getD j 0)))
    rw [vp_cell_l, sm_cpy_len]
    show ({ cls := cA 1, slots := Array.ofFn (n := g.length) fun j => _, vm := .none } : Cell) = { cls := cA 1, slots := Array.ofFn (n := g.length) fun j => _, vm := .none }
    congr 2
    funext j
    exact congrArg Value.long (sm_cpy_get f g _ _ _ j.val j.isLt).symm
  rw [e1] at X' step
  have hlt : z + q < H.size := (Array.getElem?_eq_some_iff.mp hc1).1
  have hR1 : sm_R z b H00 D cA (h.set q (.inl (1, .inr (.inl (sm_cpy f g sp.toNatClampNeg dp.toNatClampNeg n.toNatClampNeg))))) (H.setIfInBounds (z + q) (vp_cell (cA 1) (sm_ia z (.inr (.inl (sm_cpy f g sp.toNatClampNeg dp.toNatClampNeg n.toNatClampNeg)))))) := by
    refine hR.put hq (by simp) (fun i hi => by simp [Array.getElem?_setIfInBounds, Ne.symm hi]) ?_
    show (H.setIfInBounds (z + q) _)[z + q]? = some _
    simp [Array.getElem?_setIfInBounds, hlt]
  have hheap : ((T.setVm vm').setCell (z + q) (vp_cell (cA 1) (sm_ia z (.inr (.inl (sm_cpy f g sp.toNatClampNeg dp.toNatClampNeg n.toNatClampNeg)))))).heap = H.setIfInBounds (z + q) (vp_cell (cA 1) (sm_ia z (.inr (.inl (sm_cpy f g sp.toNatClampNeg dp.toNatClampNeg n.toNatClampNeg))))) := by rw [← hT]; rfl
  obtain ⟨t, a1, b1⟩ := kC _ _ hR1 (fun w hw => by
      rcases List.mem_append.mp hw with h' | h'
      · exact hlo w h'
      · obtain ⟨y, -, hy⟩ := List.mem_map.mp h'
        rw [← hy]
        exact Nat.le_add_right z q) _ hheap X'
  exact ⟨t, step t a1, b1⟩
theorem sm_rets {d M pc i1 i2 : Nat} {lv : sm_L} {st : List Value} {h h' : sm_H} {v : Option Value} {i : Instr} (hi : i = .ireturn ∨ i = .lreturn ∨ i = .areturn ∨ i = .return_) (hd : sm_ok M (pc, i, i1, i2)) (hs : sm_rt M i st h = some (v, h')) : sm_S z b L xs H00 D cA d M pc lv st h v h' := by
  have key : h' = h ∧ st = v.toList ∧ sm_rk M pc v := by
    rcases hi with rfl | rfl | rfl | rfl
    · have hd : decode (sm_code M) pc = .ok (.ireturn, 1) := hd
      unfold sm_rt at hs
      dsimp only at hs
      split at hs
      · next x =>
        obtain ⟨hb, hs⟩ := sm_b_inv hs
        cases hs
        refine ⟨rfl, rfl, Or.inl ?_⟩
        unfold sm_nr at hb
        split at hb
        · next hr => exact ⟨x, _, rfl, hd, hr, rfl⟩
        · next hr =>
          have hx : x = 0 ∨ x = 1 := by simpa using hb
          refine ⟨x, _, rfl, hd, hr, ?_⟩
          rcases hx with rfl | rfl <;> decide
        · next hr =>
          have hx : x = (x.toUInt32 % 65536).toInt32 := by simpa using hb
          refine ⟨x, _, rfl, hd, hr, ?_⟩
          rw [hx]
          exact pk_nc x
        · next hr =>
          have hx : x = x.toInt8.toInt32 := by simpa using hb
          refine ⟨x, _, rfl, hd, hr, ?_⟩
          rw [hx]
          exact pk_nb x
        · cases hb
      · cases hs
    · have hd : decode (sm_code M) pc = .ok (.lreturn, 1) := hd
      unfold sm_rt at hs
      dsimp only at hs
      split at hs
      · next x =>
        split at hs
        · next hr =>
          cases hs
          exact ⟨rfl, rfl, Or.inr (Or.inl ⟨x, rfl, hd, hr⟩)⟩
        · cases hs
      · cases hs
    · have hd : decode (sm_code M) pc = .ok (.areturn, 1) := hd
      unfold sm_rt at hs
      dsimp only at hs
      split at hs
      · next x =>
        split at hs
        · next hr =>
          cases hs
          exact ⟨rfl, rfl, Or.inr (Or.inr (Or.inl ⟨x, _, rfl, hd, hr⟩))⟩
        · cases hs
      · cases hs
    · have hd : decode (sm_code M) pc = .ok (.return_, 1) := hd
      unfold sm_rt at hs
      dsimp only at hs
      split at hs
      · split at hs
        · next hr =>
          cases hs
          exact ⟨rfl, rfl, Or.inr (Or.inr (Or.inr ⟨rfl, hd, hr⟩))⟩
        · cases hs
      · cases hs
  obtain ⟨rfl, rfl, hrk⟩ := key
  refine ⟨⟨Nat.le_refl _, Nat.le_refl _⟩, ?_⟩
  intro p l e R s m args below meth c Q ls H locs cells slots hF hR hlo hl hfr hlc hcc hcs hQ
  exact W.cs (by omega) (by omega) (hQ H locs pc ls hR hlo hrk)
theorem sm_sound : ∀ (n d M pc : Nat) (lv : sm_L) (st : List Value) (h : sm_H) (v : Option Value) (h' : sm_H), sm_ex (some (L, xs)) n d M pc lv st h = some (v, h') → sm_S z b L xs H00 D cA d M pc lv st h v h' := by
  intro n
  induction n with
  | zero => intro d M pc lv st h v h' hs; exact sm_nn hs
  | succ n ih =>
    intro d M pc lv st h v h' hs
    rw [sm_ex_s] at hs
    unfold sm_body at hs
    split at hs
    · cases hs
    · next i i1 i2 hfd =>
      have hd := sm_all M _ (sm_find_mem hfd)
      have hw : ∀ {r : List Value} {q : Nat} {x : sm_E}, sm_w i i1 i2 st h = some (r, q, x) → sm_ex (some (L, xs)) n d M (pc + sm_ln i) lv r (h.set q x) = some (v, h') → sm_S z b L xs H00 D cA d M pc lv st h v h' := by
        intro r q x h1 h2
        have S2 := ih _ _ _ _ _ _ _ _ h2
        obtain ⟨e1, e2⟩ := sw_set h1
        have m1 := S2.1.1
        have m2 := S2.1.2
        rw [e1] at m1
        rw [e2] at m2
        refine ⟨⟨m1, m2⟩, ?_⟩
        intro p l e R s m args below meth c Q ls H locs cells slots hF hR hlo hl hfr hlc hcc hcs hQ
        refine sw_all hF hR hlo hd h1 fun H1 locs1 hR1 hlo1 => ?_
        refine S2.2 p l e R s m args below meth c Q ls H1 locs1 cells slots hF hR1 hlo1 hl hfr hlc (by rw [e1]; exact hcc) (by rw [e2]; exact hcs) ?_
        rw [e1, e2]
        exact hQ
      have hn : ∀ {r : List Value} {x : sm_E}, sm_n i i1 st = some (r, x) → sm_ex (some (L, xs)) n d M (pc + sm_ln i) lv (.ref h.length :: r) (h ++ [x]) = some (v, h') → sm_S z b L xs H00 D cA d M pc lv st h v h' := by
        intro r x h1 h2
        have S2 := ih _ _ _ _ _ _ _ _ h2
        have e1 : (h ++ [x]).length = h.length + 1 := by rw [List.length_append]; rfl
        have e2 := sm_ss_push h x
        have m1 := S2.1.1
        have m2 := S2.1.2
        rw [e1] at m1
        rw [e2] at m2
        refine ⟨⟨by omega, by omega⟩, ?_⟩
        intro p l e R s m args below meth c Q ls H locs cells slots hF hR hlo hl hfr hlc hcc hcs hQ
        refine sn_all hF hR hlo hd h1 (by omega) (by omega) fun H1 hR1 => ?_
        refine S2.2 p l e R s m args below meth c Q ls H1 locs _ _ hF hR1 hlo hl hfr hlc (by rw [e1]; omega) (by rw [e2]; omega) ?_
        intro H' locs' pc' ls' a1 a2 a3
        exact W.cs (by rw [e1]; omega) (by rw [e2]; omega) (hQ H' locs' pc' ls' a1 a2 a3)
      have hp : ∀ {pc' : Nat} {lv' : sm_L} {st' : List Value}, sm_p (some (L, xs)) (sm_maxL M) pc i i1 i2 lv st h = some (pc', lv', st') → sm_ex (some (L, xs)) n d M pc' lv' st' h = some (v, h') → sm_S z b L xs H00 D cA d M pc lv st h v h' := by
        intro pc' lv' st' h1 h2
        have S2 := ih _ _ _ _ _ _ _ _ h2
        refine ⟨S2.1, ?_⟩
        intro p l e R s m args below meth c Q ls H locs cells slots hF hR hlo hl hfr hlc hcc hcs hQ
        refine sp_all hF hR hlo hl hd h1 fun ls' hl' => ?_
        exact S2.2 p l e R s m args below meth c Q ls' H locs cells slots hF hR hlo hl' hfr hlc hcc hcs hQ
      unfold sm_go at hs
      split at hs
      · exact sm_rets (Or.inl rfl) hd hs
      · exact sm_rets (Or.inr (Or.inl rfl)) hd hs
      · exact sm_rets (Or.inr (Or.inr (Or.inl rfl))) hd hs
      · exact sm_rets (Or.inr (Or.inr (Or.inr rfl))) hd hs
      · next idx => exact sm_calls true (Or.inl ⟨rfl, idx, rfl⟩) ih hd hs
      · next idx =>
        cases hb : Nat.beq i2 9 with
        | false =>
          rw [hb] at hs
          cases hb2 : Nat.blt 2 i2 with
          | false =>
            rw [hb2] at hs
            have h2 : i2 ≤ 2 := Nat.not_lt.mp fun q => by rw [show Nat.blt 2 i2 = true from Nat.ble_eq_true_of_le q] at hb2; cases hb2
            exact sm_calls false (Or.inr (Or.inl ⟨rfl, h2, idx, rfl⟩)) ih hd hs
          | true =>
            rw [hb2] at hs
            have h2 : 2 < i2 := Nat.le_of_ble_eq_true hb2
            have h9 : i2 ≠ 9 := fun q => by rw [q] at hb; cases hb
            obtain ⟨hd, hst⟩ := hd
            have hs : sm_mm (sm_ex (some (L, xs)) n) i2 d M pc lv st h = some (v, h') := hs
            cases d with
            | zero => exact sm_nn hs
            | succ d =>
              unfold sm_mm at hs
              dsimp only at hs
              split at hs
              · next r hmt =>
                have S2 := ih _ _ _ _ _ _ _ _ hs
                refine ⟨S2.1, ?_⟩
                intro p l e R s m args below meth c Q ls H locs cells slots hF hR hlo hl hfr hlc hcc hcs hQ
                have hk := S2.2 p l e R s m args below meth c Q ls H locs cells slots hF hR hlo hl hfr hlc hcc hcs hQ
                have hml : c.maxLocals = ls.size := hF.2.2.1.trans hl.1.symm
                rcases hst with ⟨h3, -⟩ | ⟨h3, -⟩ | ⟨h3, w1, w2, w3, w4⟩ | ⟨h3, w1, w2, w3, w4⟩ | ⟨h3, w1, w2, w3, w4⟩ | ⟨h3, w1, w2, w3, w4⟩
                · have h3 : i2 ≤ 2 := h3
                  omega
                · exact absurd h3 h9
                · have h3 : i2 = 3 := h3
                  subst h3
                  obtain ⟨x, y, r0, rfl, e1⟩ := sm_ii_inv (show sm_ii st _ = _ from hmt)
                  obtain ⟨h8, e2⟩ := sm_b_inv e1
                  have h8 := Nat.le_of_ble_eq_true h8
                  cases e2
                  exact va_mmin hF.1 hF.2.1 hml hF.2.2.2.1 (sm_wd hF w1) (sm_wd hF w2) (sm_wd hF w3) (sm_wd hF w4) (by omega) (by rw [sm_cat_map]; omega) (by omega) (by omega) hd hk
                · have h3 : i2 = 4 := h3
                  subst h3
                  obtain ⟨x, y, r0, rfl, e1⟩ := sm_ii_inv (show sm_ii st _ = _ from hmt)
                  obtain ⟨h8, e2⟩ := sm_b_inv e1
                  have h8 := Nat.le_of_ble_eq_true h8
                  cases e2
                  exact va_mmax hF.1 hF.2.1 hml hF.2.2.2.1 (sm_wd hF w1) (sm_wd hF w2) (sm_wd hF w3) (sm_wd hF w4) (by omega) (by rw [sm_cat_map]; omega) (by omega) (by omega) hd hk
                · have h3 : i2 = 5 := h3
                  subst h3
                  obtain ⟨x, y, r0, rfl, e1⟩ := sm_ll_inv (show sm_ll st _ = _ from hmt)
                  obtain ⟨h8, e2⟩ := sm_b_inv e1
                  have h8 := Nat.le_of_ble_eq_true h8
                  cases e2
                  exact va_mmin_long hF.1 hF.2.1 hml hF.2.2.2.1 (sm_wd hF w1) (sm_wd hF w2) (sm_wd hF w3) (sm_wd hF w4) (by omega) (by rw [sm_cat_map]; omega) (by omega) (by omega) hd hk
                · have h3 : i2 = 6 := h3
                  subst h3
                  obtain ⟨x, y, r0, rfl, e1⟩ := sm_ll_inv (show sm_ll st _ = _ from hmt)
                  obtain ⟨h8, e2⟩ := sm_b_inv e1
                  have h8 := Nat.le_of_ble_eq_true h8
                  cases e2
                  exact va_mmax_long hF.1 hF.2.1 hml hF.2.2.2.1 (sm_wd hF w1) (sm_wd hF w2) (sm_wd hF w3) (sm_wd hF w4) (by omega) (by rw [sm_cat_map]; omega) (by omega) (by omega) hd hk
              · cases hs
        | true =>
          rw [hb] at hs
          have e2 : i2 = 9 := Nat.eq_of_beq_eq_true hb
          obtain ⟨hd, hst⟩ := hd
          rcases hst with ⟨h9, -⟩ | ⟨-, w1, w2, w3, w4⟩ | ⟨h9, -⟩ | ⟨h9, -⟩ | ⟨h9, -⟩ | ⟨h9, -⟩
          · have h9 : i2 ≤ 2 := h9
            omega
          · have hs : sm_nc (sm_ex (some (L, xs)) n) d M pc lv st h = some (v, h') := hs
            cases d with
            | zero => exact sm_nn hs
            | succ d =>
              unfold sm_nc at hs
              dsimp only at hs
              split at hs
              · next r q x hac =>
                have S2 := ih _ _ _ _ _ _ _ _ hs
                obtain ⟨e1, e2⟩ := sm_ac_size hac
                have m1 := S2.1.1
                have m2 := S2.1.2
                rw [e1] at m1
                rw [e2] at m2
                refine ⟨⟨m1, m2⟩, ?_⟩
                intro p l e R s m args below meth c Q ls H locs cells slots hF hR hlo hl hfr hlc hcc hcs hQ
                refine sm_copy (d := d) hF hR hlo hl hfr hlc w1 w2 w3 w4 hd hac fun H1 locs1 hR1 hlo1 => ?_
                refine S2.2 p l e R s m args below meth c Q ls H1 locs1 cells slots hF hR1 hlo1 hl hfr hlc (by rw [e1]; exact hcc) (by rw [e2]; exact hcs) ?_
                rw [e1, e2]
                exact hQ
              · cases hs
          · have h9 : i2 = 3 := h9
            omega
          · have h9 : i2 = 4 := h9
            omega
          · have h9 : i2 = 5 := h9
            omega
          · have h9 : i2 = 6 := h9
            omega
      · next idx =>
        cases hb : Nat.beq i2 2 with
        | false =>
          rw [hb] at hs
          exact sm_calls true (Or.inr (Or.inr ⟨rfl, (fun q => by rw [q] at hb; cases hb), idx, rfl⟩)) ih hd hs
        | true =>
          rw [hb] at hs
          have e2 : i2 = 2 := Nat.eq_of_beq_eq_true hb
          obtain ⟨hd, hsp⟩ := hd
          rcases hsp with ⟨-, w1, w2, w3⟩ | ⟨h2, -⟩
          · have hs : sm_oi (sm_ex (some (L, xs)) n) d M pc lv st h = some (v, h') := hs
            cases d with
            | zero => exact sm_nn hs
            | succ d =>
              obtain ⟨k, r, rfl, hs⟩ := sm_r_inv (show sm_r st _ = _ from hs)
              obtain ⟨hb2, hs⟩ := sm_b_inv hs
              have S2 := ih _ _ _ _ _ _ _ _ hs
              refine ⟨S2.1, ?_⟩
              intro p l e R s m args below meth c Q ls H locs cells slots hF hR hlo hl hfr hlc hcc hcs hQ
              have h8 := Nat.le_of_ble_eq_true hb2
              have hk := S2.2 p l e R s m args below meth c Q ls H locs cells slots hF hR hlo hl hfr hlc hcc hcs hQ
              refine W.objInit hF.1 hF.2.1 hF.2.2.2.1 (sm_wd hF w1) (sm_wd hF w2) (sm_wd hF w3) rfl (hl.1.trans hF.2.2.1.symm) rfl hd (by omega) ?_ hk
              have hr0 : 2 * (F0 m pc ls ((Value.ref k :: r).map (sm_rv z b))).monitorRoom + ((r.map (sm_rv z b)).map fun v => v.category).sum ≤ 8 := lv_room (by rw [sm_cat_map]; exact h8)
              exact Nat.le_trans (Nat.add_le_add_right hr0 12) (by omega)
          · exact absurd e2 h2
      all_goals first
        | (split at hs
           · next h1 => exact hw h1 hs
           · cases hs)
        | (split at hs
           · next h1 => exact hn h1 hs
           · cases hs)
        | (split at hs
           · next h1 => exact hp h1 hs
           · cases hs)
end SMS
