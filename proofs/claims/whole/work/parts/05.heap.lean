/-! instructions that write a cell, and that make one -/
section SMW
variable {p : Program} {l : Launch} {e : Env} {R : Room} {s : State} {m : MethodId} {args : Array Value} {below : List Frame} {meth : Method} {c : Code} {H : Heap} {locs : List Loc} {cells slots : Nat} {Q : State → Prop}
variable {z L : Nat} {b : UInt32 → Option Nat} {xs : Nat → Int32} {H00 : Heap} {D : va_G} {cA : Nat → ClassId} {M pc i1 i2 : Nat} {lv : sm_L} {st r : List Value} {h : sm_H} {ls : Array Slot} {q : Nat} {x : sm_E}
theorem sm_lo {q i : Nat} (hlo : ∀ w ∈ locs, z ≤ w.base) : ∀ w ∈ locs ++ [⟨z + q, i⟩], z ≤ w.base := by
  intro w hw
  rcases List.mem_append.mp hw with h1 | h1
  · exact hlo w h1
  · rw [List.mem_singleton.mp h1]; exact Nat.le_add_right z q
theorem sm_fit_ok {ty : FieldType} {v : Value} (hv : sm_fit ty v = true) : narrow ty (sm_rv z b v) = sm_rv z b v ∧ fits ty (sm_rv z b v) = true := by
  unfold sm_fit at hv
  split at hv
  · exact ⟨rfl, rfl⟩
  · exact ⟨rfl, rfl⟩
  · next x =>
    have hx : x = 0 ∨ x = 1 := by simpa using hv
    rcases hx with rfl | rfl
    · exact ⟨(by decide : narrow .boolean (.int 0) = .int 0), (by decide : fits .boolean (.int 0) = true)⟩
    · exact ⟨(by decide : narrow .boolean (.int 1) = .int 1), (by decide : fits .boolean (.int 1) = true)⟩
  · exact ⟨rfl, rfl⟩
  · exact ⟨rfl, rfl⟩
  · cases hv
theorem sm_map_set (fs : List Value) (k : Nat) (v : Value) : (fs.map (sm_rv z b)).set k (sm_rv z b v) = (fs.set k v).map (sm_rv z b) := by
  rw [List.map_set]
theorem sw_putfield {idx : Nat} (hF : sm_Fr z b L xs H00 D cA p s m meth c M) (hR : sm_R z b H00 D cA h H) (hlo : ∀ w ∈ locs, z ≤ w.base) (hd : sm_ok M (pc, .putfield idx, i1, i2)) (hs : sm_w (.putfield idx) i1 i2 st h = some (r, q, x))
    (kC : ∀ (H1 : Heap) (locs1 : List Loc), sm_R z b H00 D cA (h.set q x) H1 → (∀ w ∈ locs1, z ≤ w.base) → W p l e R s m args below meth c H1 locs1 cells slots Q (F0 m (pc + 3) ls (r.map (sm_rv z b)))) : W p l e R s m args below meth c H locs cells slots Q (F0 m pc ls (st.map (sm_rv z b))) := by
  have hs : (sm_v st (fun v r => sm_r r (fun q r => sm_obj h q i1 (fun fs => bif Nat.blt i2 fs.length && sm_fit (sm_fty i1 i2) v then some (r, q, .inr (i1, fs.set i2 v)) else none)))) = some (r, q, x) := hs
  obtain ⟨hd, w, hw, hk, hfl⟩ := hd
  obtain ⟨v, r', rfl, e1⟩ := sm_v_inv hs
  obtain ⟨q', r', rfl, e2⟩ := sm_r_inv e1
  obtain ⟨fs, hq, e3⟩ := sm_obj_inv e2
  obtain ⟨hb, e4⟩ := sm_b_inv e3
  cases e4
  rw [Bool.and_eq_true] at hb
  have hlen : i2 < (fs.map (sm_rv z b)).length := by rw [List.length_map]; exact sm_blt hb.1
  have hc := sm_cls i1 w hw
  obtain ⟨C, T, N⟩ := w
  obtain ⟨hn, hfit⟩ := sm_fit_ok (z := z) (b := b) hb.2
  have hty := hc.2.1 i2 hk
  have hap := va_apart (own := C) (sm_wds (args := args) hF) hc.1 (sm_fty i1) hc.2.1 hc.2.2.1 (sm_hK hF) hw
  have he := sm_ws_at (z := z) (b := b) (cA := cA) hq
  obtain ⟨r2, h1, cell, q1, q2, q3, q4⟩ := hR.2.2 q _ he
  have hr : r2 = (C, T, N) := Option.some.inj (h1.symm.trans hw)
  subst hr
  obtain ⟨hS, hfc, kC', hkC, hkind⟩ := (sm_hK hF).1 i1 _ hw
  obtain ⟨cf, kf, fi, f, hi, hsl⟩ := hS i2 hk
  have hlay := sm_wd (args := args) hF (hc.1 _ (u_in_lay hk))
  have hst := (u_facts hfc hkC (u_lays (sm_wds (args := args) hF) hc.1 hk) hi).1
  have key : ∀ H1 : Heap, H1[z + q]? = some (cell.setSlot (D.2 i1 i2) (sm_rv z b v)) → H1.size = H.size → (∀ i : Nat, i ≠ z + q → H1[i]? = H[i]?) → sm_R z b H00 D cA (h.set q (.inr (i1, fs.set i2 v))) H1 := by
    intro H1 e1 e2 e3
    refine hR.put hq e2 e3 ⟨_, hw, ?_⟩
    rw [show (fs.set i2 v).map (sm_rv z b) = (fs.map (sm_rv z b)).set i2 (sm_rv z b v) from (sm_map_set fs i2 v).symm]
    exact t_OB.to (V := updV (vp_V (fs.map (sm_rv z b))) i2 (sm_rv z b v)) ⟨_, e1, q2, q3, t_set q4 hap hk _⟩ (fun j _ => vp_updV_set hlen _ j)
  rcases hfl with ⟨hfin, hfl⟩ | ⟨hfin, hin, hdecl, hfl⟩
  · unfold u_lay at hlay
    rw [if_neg (by rw [hfin]; decide)] at hlay
    have h6 := u_store hfc hkC hkind hlay hi hty hn hfit
    rcases hfl with hfl | ⟨host, hfl⟩
    · refine W.putK hF.1 hF.2.1 (f := f) ⟨hF.2.2.2.1, sm_wd hF hfl, ⟨_, _, _, hi⟩, hst⟩ (by rw [q2]; exact h6) q1 q3 (by rw [hsl]; exact k2_hasslot (q4 i2 hk)) rfl rfl hd fun H1 e1 e2 e3 => ?_
      rw [hsl] at e1
      exact kC H1 _ (key H1 e1 e2 e3) (sm_lo hlo)
    · refine va_WputK hF.1 hF.2.1 (f := f) hF.2.2.2.1 (sm_wd hF hfl) hi hst (by rw [q2]; exact h6) q1 q3 (by rw [hsl]; exact k2_hasslot (q4 i2 hk)) rfl rfl hd fun H1 e1 e2 e3 => ?_
      rw [hsl] at e1
      exact kC H1 _ (key H1 e1 e2 e3) (sm_lo hlo)
  · unfold u_lay at hlay
    rw [if_pos hfin] at hlay
    have hcf : m.cls = cf := by
      obtain ⟨_, _, c', _, _, _, -, -, hf', -, -, -, hown2, -⟩ := Cond.laysFinal_spec hlay
      have e1 : c' = cf := by have := hi.symm.trans hf'; simp at this; exact this.1.symm
      rw [hdecl] at hown2
      rw [← e1]; exact Option.some.inj (hF.2.2.2.1.symm.trans hown2)
    have h6 := u_fits hfc hkC hkind (Or.inr hlay) hi hty hn hfit
    refine W.putFinK hF.1 hF.2.1 hF.2.2.2.1 (sm_wd hF hfl) hi hst hcf (hF.2.2.2.2.2.2.1 hin) (by rw [q2]; exact h6) q1 q3 (by rw [hsl]; exact k2_hasslot (q4 i2 hk)) rfl rfl hd fun H1 e1 e2 e3 => ?_
    rw [hsl] at e1
    exact kC H1 _ (key H1 e1 e2 e3) (sm_lo hlo)
theorem sw_iastore (hF : sm_Fr z b L xs H00 D cA p s m meth c M) (hR : sm_R z b H00 D cA h H) (hlo : ∀ w ∈ locs, z ≤ w.base) (hd : sm_ok M (pc, .iastore, i1, i2)) (hs : sm_w .iastore i1 i2 st h = some (r, q, x))
    (kC : ∀ (H1 : Heap) (locs1 : List Loc), sm_R z b H00 D cA (h.set q x) H1 → (∀ w ∈ locs1, z ≤ w.base) → W p l e R s m args below meth c H1 locs1 cells slots Q (F0 m (pc + 1) ls (r.map (sm_rv z b)))) : W p l e R s m args below meth c H locs cells slots Q (F0 m pc ls (st.map (sm_rv z b))) := by
  have hd : decode (sm_code M) pc = .ok (.iastore, 1) := hd
  have hs : (sm_ii st (fun i x r => sm_r r (fun q r => sm_arI h q 0 i (fun g => some (r, q, .inl (0, .inl (g.set i.toNatClampNeg x))))))) = some (r, q, x) := hs
  obtain ⟨i, v, r', rfl, e1⟩ := sm_ii_inv hs
  obtain ⟨q', r', rfl, e2⟩ := sm_r_inv e1
  obtain ⟨g, hq, hin, e3⟩ := sm_arI_inv e2
  cases e3
  have hP := hR.2.2 q _ (sm_ws_at hq)
  refine W.iast hF.1 hF.2.1 hP (((sm_hK hF).2 0 _ rfl).1 g.length (fun j => .int (g.getD j 0))) (fun q => by cases q) (by show ¬ (i < 0 ∨ (arrV _ _ _).slots.size ≤ _); rw [arrV_size]; exact hin) rfl rfl hd fun H1 e1 e2 e3 => ?_
  refine kC H1 _ (hR.put hq e2 e3 ?_) (sm_lo hlo)
  show H1[z + q]? = some (vp_cell (cA 0) (sm_ia z (.inl (g.set i.toNatClampNeg v))))
  rw [e1]
  show some ((vp_cell (cA 0) (g.length, .inl (fun j => g.getD j 0))).setSlot _ _) = some (vp_cell (cA 0) ((g.set i.toNatClampNeg v).length, .inl (fun j => (g.set i.toNatClampNeg v).getD j 0)))
  rw [vp_cell_i, vp_cell_i, arrV_store, List.length_set]
  congr 2
  funext j
  have hlt : i.toNatClampNeg < g.length := Nat.not_le.mp fun q => hin (Or.inr q)
  by_cases hj : j = i.toNatClampNeg
  · subst hj; simp [updV, hlt]
  · simp [updV, hj, Ne.symm hj]
theorem sw_castore (hF : sm_Fr z b L xs H00 D cA p s m meth c M) (hR : sm_R z b H00 D cA h H) (hlo : ∀ w ∈ locs, z ≤ w.base) (hd : sm_ok M (pc, .castore, i1, i2)) (hs : sm_w .castore i1 i2 st h = some (r, q, x))
    (kC : ∀ (H1 : Heap) (locs1 : List Loc), sm_R z b H00 D cA (h.set q x) H1 → (∀ w ∈ locs1, z ≤ w.base) → W p l e R s m args below meth c H1 locs1 cells slots Q (F0 m (pc + 1) ls (r.map (sm_rv z b)))) : W p l e R s m args below meth c H locs cells slots Q (F0 m pc ls (st.map (sm_rv z b))) := by
  have hd : decode (sm_code M) pc = .ok (.castore, 1) := hd
  have hs : (sm_ii st (fun i x r => sm_r r (fun q r => sm_arI h q 2 i (fun g => some (r, q, .inl (2, .inl (g.set i.toNatClampNeg (vp_nar .char x)))))))) = some (r, q, x) := hs
  obtain ⟨i, v, r', rfl, e1⟩ := sm_ii_inv hs
  obtain ⟨q', r', rfl, e2⟩ := sm_r_inv e1
  obtain ⟨g, hq, hin, e3⟩ := sm_arI_inv e2
  cases e3
  have hP := hR.2.2 q _ (sm_ws_at hq)
  refine W.cast hF.1 hF.2.1 hP (((sm_hK hF).2 2 _ rfl).1 g.length (fun j => .int (g.getD j 0))) (fun q => by cases q) (by show ¬ (i < 0 ∨ (arrV _ _ _).slots.size ≤ _); rw [arrV_size]; exact hin) rfl rfl hd fun H1 e1 e2 e3 => ?_
  refine kC H1 _ (hR.put hq e2 e3 ?_) (sm_lo hlo)
  show H1[z + q]? = some (vp_cell (cA 2) (sm_ia z (.inl (g.set i.toNatClampNeg (vp_nar .char v)))))
  rw [e1]
  show some ((vp_cell (cA 2) (g.length, .inl (fun j => g.getD j 0))).setSlot _ _) = some (vp_cell (cA 2) ((g.set i.toNatClampNeg (vp_nar .char v)).length, .inl (fun j => (g.set i.toNatClampNeg (vp_nar .char v)).getD j 0)))
  rw [vp_cell_i, vp_cell_i, arrV_store, List.length_set]
  congr 2
  funext j
  have hlt : i.toNatClampNeg < g.length := Nat.not_le.mp fun q => hin (Or.inr q)
  by_cases hj : j = i.toNatClampNeg
  · subst hj; simp [updV, hlt, vp_nar]; try rfl
  · simp [updV, hj, Ne.symm hj]
theorem sw_bastore (hF : sm_Fr z b L xs H00 D cA p s m meth c M) (hR : sm_R z b H00 D cA h H) (hlo : ∀ w ∈ locs, z ≤ w.base) (hd : sm_ok M (pc, .bastore, i1, i2)) (hs : sm_w .bastore i1 i2 st h = some (r, q, x))
    (kC : ∀ (H1 : Heap) (locs1 : List Loc), sm_R z b H00 D cA (h.set q x) H1 → (∀ w ∈ locs1, z ≤ w.base) → W p l e R s m args below meth c H1 locs1 cells slots Q (F0 m (pc + 1) ls (r.map (sm_rv z b)))) : W p l e R s m args below meth c H locs cells slots Q (F0 m pc ls (st.map (sm_rv z b))) := by
  have hd : decode (sm_code M) pc = .ok (.bastore, 1) := hd
  have hs : (sm_ii st (fun i x r => sm_r r (fun q r => sm_arI h q 3 i (fun g => some (r, q, .inl (3, .inl (g.set i.toNatClampNeg (vp_nar .boolean x)))))))) = some (r, q, x) := hs
  obtain ⟨i, v, r', rfl, e1⟩ := sm_ii_inv hs
  obtain ⟨q', r', rfl, e2⟩ := sm_r_inv e1
  obtain ⟨g, hq, hin, e3⟩ := sm_arI_inv e2
  cases e3
  have hP := hR.2.2 q _ (sm_ws_at hq)
  refine W.zast hF.1 hF.2.1 hP (((sm_hK hF).2 3 _ rfl).1 g.length (fun j => .int (g.getD j 0))) (fun q => by cases q) (by show ¬ (i < 0 ∨ (arrV _ _ _).slots.size ≤ _); rw [arrV_size]; exact hin) rfl rfl hd fun H1 e1 e2 e3 => ?_
  refine kC H1 _ (hR.put hq e2 e3 ?_) (sm_lo hlo)
  show H1[z + q]? = some (vp_cell (cA 3) (sm_ia z (.inl (g.set i.toNatClampNeg (vp_nar .boolean v)))))
  rw [e1]
  show some ((vp_cell (cA 3) (g.length, .inl (fun j => g.getD j 0))).setSlot _ _) = some (vp_cell (cA 3) ((g.set i.toNatClampNeg (vp_nar .boolean v)).length, .inl (fun j => (g.set i.toNatClampNeg (vp_nar .boolean v)).getD j 0)))
  rw [vp_cell_i, vp_cell_i, arrV_store, List.length_set]
  congr 2
  funext j
  have hlt : i.toNatClampNeg < g.length := Nat.not_le.mp fun q => hin (Or.inr q)
  by_cases hj : j = i.toNatClampNeg
  · subst hj; simp [updV, hlt, vp_nar]; try rfl
  · simp [updV, hj, Ne.symm hj]
theorem sw_lastore (hF : sm_Fr z b L xs H00 D cA p s m meth c M) (hR : sm_R z b H00 D cA h H) (hlo : ∀ w ∈ locs, z ≤ w.base) (hd : sm_ok M (pc, .lastore, i1, i2)) (hs : sm_w .lastore i1 i2 st h = some (r, q, x))
    (kC : ∀ (H1 : Heap) (locs1 : List Loc), sm_R z b H00 D cA (h.set q x) H1 → (∀ w ∈ locs1, z ≤ w.base) → W p l e R s m args below meth c H1 locs1 cells slots Q (F0 m (pc + 1) ls (r.map (sm_rv z b)))) : W p l e R s m args below meth c H locs cells slots Q (F0 m pc ls (st.map (sm_rv z b))) := by
  have hd : decode (sm_code M) pc = .ok (.lastore, 1) := hd
  have hs : (sm_l st (fun x r => sm_i r (fun i r => sm_r r (fun q r => sm_arL h q i (fun g => some (r, q, .inl (1, .inr (.inl (g.set i.toNatClampNeg x))))))))) = some (r, q, x) := hs
  obtain ⟨v, r', rfl, e1⟩ := sm_l_inv hs
  obtain ⟨i, r', rfl, e2⟩ := sm_i_inv e1
  obtain ⟨q', r', rfl, e3⟩ := sm_r_inv e2
  obtain ⟨g, hq, hin, e4⟩ := sm_arL_inv e3
  cases e4
  have hP := hR.2.2 q _ (sm_ws_at hq)
  refine W.last hF.1 hF.2.1 hP (((sm_hK hF).2 1 _ rfl).1 g.length (fun j => .long (g.getD j 0))) (fun q => by cases q) (by show ¬ (i < 0 ∨ (arrV _ _ _).slots.size ≤ _); rw [arrV_size]; exact hin) rfl rfl hd fun H1 e1 e2 e3 => ?_
  refine kC H1 _ (hR.put hq e2 e3 ?_) (sm_lo hlo)
  show H1[z + q]? = some (vp_cell (cA 1) (sm_ia z (.inr (.inl (g.set i.toNatClampNeg v)))))
  rw [e1]
  show some ((vp_cell (cA 1) (g.length, .inr (.inl (fun j => g.getD j 0)))).setSlot _ _) = some (vp_cell (cA 1) ((g.set i.toNatClampNeg v).length, .inr (.inl (fun j => (g.set i.toNatClampNeg v).getD j 0))))
  rw [vp_cell_l, vp_cell_l, arrV_store, List.length_set]
  congr 2
  funext j
  have hlt : i.toNatClampNeg < g.length := Nat.not_le.mp fun q => hin (Or.inr q)
  by_cases hj : j = i.toNatClampNeg
  · subst hj; simp [updV, hlt]
  · simp [updV, hj, Ne.symm hj]
theorem sw_aastore (hF : sm_Fr z b L xs H00 D cA p s m meth c M) (hR : sm_R z b H00 D cA h H) (hlo : ∀ w ∈ locs, z ≤ w.base) (hd : sm_ok M (pc, .aastore, i1, i2)) (hs : sm_w .aastore i1 i2 st h = some (r, q, x))
    (kC : ∀ (H1 : Heap) (locs1 : List Loc), sm_R z b H00 D cA (h.set q x) H1 → (∀ w ∈ locs1, z ≤ w.base) → W p l e R s m args below meth c H1 locs1 cells slots Q (F0 m (pc + 1) ls (r.map (sm_rv z b)))) : W p l e R s m args below meth c H locs cells slots Q (F0 m pc ls (st.map (sm_rv z b))) := by
  have hd : decode (sm_code M) pc = .ok (.aastore, 1) := hd
  have hs : (sm_r st (fun k r => sm_i r (fun i r => sm_r r (fun q r => sm_arQ h q i (fun g => sm_obj h k sm_ct (fun _ => some (r, q, .inl (4, .inr (.inr (g.set i.toNatClampNeg (some k))))))))))) = some (r, q, x) := hs
  obtain ⟨k, r', rfl, e1⟩ := sm_r_inv hs
  obtain ⟨i, r', rfl, e2⟩ := sm_i_inv e1
  obtain ⟨q', r', rfl, e3⟩ := sm_r_inv e2
  obtain ⟨g, hq, hin, e4⟩ := sm_arQ_inv e3
  obtain ⟨fs, hk, e5⟩ := sm_obj_inv e4
  cases e5
  have hP := hR.2.2 q _ (sm_ws_at hq)
  have hlt : i.toNatClampNeg < g.length := Nat.not_le.mp fun q => hin (Or.inr q)
  have h0 : ¬ i < 0 := fun q => hin (Or.inl q)
  obtain ⟨r', hr', cellV, g1, g2, g3, -⟩ := hR.2.2 k _ (sm_ws_at hk)
  have hcls := ((sm_hK hF).1 sm_ct _ sm_ct_at).2
  obtain ⟨kA, comp, k1, k2, k3, -⟩ := ((sm_hK hF).2 4 _ rfl).2
  have hcomp : comp = D.1 sm_ct := Option.some.inj (k3.symm.trans hcls.1)
  subst hcomp
  obtain ⟨kC', hkC, -⟩ := hcls.2
  refine W.aast hF.1 hF.2.1 hP (fun q h => by cases h) (fun h => by cases h) k1 k2 rfl hkC ⟨h0, by show _ < (arrV _ _ _).slots.size; rw [arrV_size]; exact hlt⟩ g1 (fun q h => by rw [g3] at h; cases h) (by rw [g2]; exact hkC) (by rw [g2]; exact va_assign hcls) rfl rfl hd fun H1 e1 e2 e3 => ?_
  refine kC H1 _ (hR.put hq e2 e3 ?_) (sm_lo hlo)
  show H1[z + q]? = some (vp_cell (cA 4) (sm_ia z (.inr (.inr (g.set i.toNatClampNeg (some k))))))
  rw [e1]
  show some ((vp_cell (cA 4) (g.length, .inr (.inr (.inr (.inr (fun j => (g.getD j none).map (fun k => z + k))))))).setSlot _ _) = some (vp_cell (cA 4) ((g.set i.toNatClampNeg (some k)).length, .inr (.inr (.inr (.inr (fun j => ((g.set i.toNatClampNeg (some k)).getD j none).map (fun k => z + k)))))))
  rw [vp_cell_q, vp_cell_q, arrV_store, List.length_set]
  congr 2
  funext j
  by_cases hj : j = i.toNatClampNeg
  · subst hj; simp [updV, hlt, va_rf]
  · simp [updV, hj, Ne.symm hj]
theorem sw_all {i : Instr} (hF : sm_Fr z b L xs H00 D cA p s m meth c M) (hR : sm_R z b H00 D cA h H) (hlo : ∀ w ∈ locs, z ≤ w.base) (hd : sm_ok M (pc, i, i1, i2)) (hs : sm_w i i1 i2 st h = some (r, q, x))
    (kC : ∀ (H1 : Heap) (locs1 : List Loc), sm_R z b H00 D cA (h.set q x) H1 → (∀ w ∈ locs1, z ≤ w.base) → W p l e R s m args below meth c H1 locs1 cells slots Q (F0 m (pc + sm_ln i) ls (r.map (sm_rv z b)))) : W p l e R s m args below meth c H locs cells slots Q (F0 m pc ls (st.map (sm_rv z b))) := by
  cases i
  case putfield => exact sw_putfield hF hR hlo hd hs kC
  case iastore => exact sw_iastore hF hR hlo hd hs kC
  case castore => exact sw_castore hF hR hlo hd hs kC
  case bastore => exact sw_bastore hF hR hlo hd hs kC
  case lastore => exact sw_lastore hF hR hlo hd hs kC
  case aastore => exact sw_aastore hF hR hlo hd hs kC
  all_goals exact sm_nn hs
theorem sn_new {idx : Nat} (hF : sm_Fr z b L xs H00 D cA p s m meth c M) (hR : sm_R z b H00 D cA h H) (hlo : ∀ w ∈ locs, z ≤ w.base) (hd : sm_ok M (pc, .new idx, i1, i2)) (hs : sm_n (.new idx) i1 st = some (r, x)) (hcells : cells + 1 ≤ R.cells) (hslots : slots + sm_sz x ≤ R.slots)
    (kC : ∀ H1 : Heap, sm_R z b H00 D cA (h ++ [x]) H1 → W p l e R s m args below meth c H1 locs (cells + 1) (slots + sm_sz x) Q (F0 m (pc + 3) ls ((.ref h.length :: r).map (sm_rv z b)))) : W p l e R s m args below meth c H locs cells slots Q (F0 m pc ls (st.map (sm_rv z b))) := by
  have hs : (match sm_dfl[i1]? with | some fs => some (st, .inr (i1, fs)) | none => none) = some (r, x) := hs
  obtain ⟨hd, w, hw, hlk⟩ := hd
  have hc := sm_cls i1 w hw
  obtain ⟨C, T, N⟩ := w
  obtain ⟨c1, c2, c3, c4, c5, fs, c6, c7, c8, c9⟩ := hc
  rw [c6] at hs
  cases hs
  have hKn := (sm_hK hF).1 i1 _ hw
  have c7 : fs.length = N := c7
  have hsz : slots + N ≤ R.slots := by rw [← c7]; exact hslots
  have hkk : ∀ H1 : Heap, sm_R z b H00 D cA (h ++ [.inr (i1, fs)]) H1 → W p l e R s m args below meth c H1 locs (cells + 1) (slots + N) Q (F0 m (pc + 3) ls (.ref (z + h.length) :: st.map (sm_rv z b))) := by
    intro H1 h1
    have h2 := kC H1 h1
    rw [show sm_sz (.inr (i1, fs)) = N from c7] at h2
    exact h2
  refine W.newcK hF.1 hF.2.1 hF.2.2.2.1 (sm_wd hF hlk) (sm_wd hF c4) (sm_wd hF c5) rfl hd hcells hsz hKn.2.1 hR.1 fun H1 kC' hkC e1 z1 o1 => ?_
  refine hkk H1 (hR.push (by rw [z1, hR.1]) (fun i hi => o1 i (by rw [hR.1] at hi; exact hi)) ⟨_, hw, ?_⟩)
  refine t_OB.to (u_born (sm_fty i1) (sm_wds (args := args) hF) c1 hKn hkC e1 c2) (fun j hj => ?_)
  rw [c8 j hj]
  show vp_V fs j = vp_V (fs.map (sm_rv z b)) j
  unfold vp_V
  rw [List.getD_eq_getElem?_getD, List.getD_eq_getElem?_getD, List.getElem?_map]
  cases hj2 : fs[j]? with
  | none => rfl
  | some v =>
    rcases c9 v (List.mem_of_getElem? hj2) with rfl | rfl | rfl <;> rfl
theorem sn_newarray {t : ArrayType} (hF : sm_Fr z b L xs H00 D cA p s m meth c M) (hR : sm_R z b H00 D cA h H) (hlo : ∀ w ∈ locs, z ≤ w.base) (hd : sm_ok M (pc, .newarray t, i1, i2)) (hs : sm_n (.newarray t) i1 st = some (r, x)) (hcells : cells + 1 ≤ R.cells) (hslots : slots + sm_sz x ≤ R.slots)
    (kC : ∀ H1 : Heap, sm_R z b H00 D cA (h ++ [x]) H1 → W p l e R s m args below meth c H1 locs (cells + 1) (slots + sm_sz x) Q (F0 m (pc + 2) ls ((.ref h.length :: r).map (sm_rv z b)))) : W p l e R s m args below meth c H locs cells slots Q (F0 m pc ls (st.map (sm_rv z b))) := by
  have hs : (sm_i st (fun x r => if x < 0 ∨ 1000000 < x.toNatClampNeg then none else (match sm_ar0 i1 x.toNatClampNeg with | some y => some (r, .inl (i1, y)) | none => none))) = some (r, x) := hs
  obtain ⟨hd, harr, ht⟩ := hd
  obtain ⟨n, r', rfl, e1⟩ := sm_i_inv hs
  obtain ⟨hn, e2⟩ := sm_if_inv e1
  have hn0 : ¬ n < 0 := fun q => hn (Or.inl q)
  have hn1 : n.toNatClampNeg ≤ 1000000 := Nat.not_lt.mp fun q => hn (Or.inr q)
  have key : ∀ (cB : ClassId) (y : sm_A), sm_ar0 i1 n.toNatClampNeg = some y → ArrOfT s cB (newarray.typeOf t) → s.vm.findClass ("[" ++ (newarray.typeOf t).toString) = some cB → cB = cA i1 ∧ vp_cell (cA i1) (sm_ia z y) = arrV (cA i1) n.toNatClampNeg (fun _ => defaultValue (newarray.typeOf t)) := by
    intro cB y hy _ hfc
    have g32 : ∀ j : Nat, (List.replicate n.toNatClampNeg (0 : Int32)).getD j 0 = 0 := fun j => by
      rw [List.getD_eq_getElem?_getD, List.getElem?_replicate]; split <;> rfl
    have g64 : ∀ j : Nat, (List.replicate n.toNatClampNeg (0 : Int64)).getD j 0 = 0 := fun j => by
      rw [List.getD_eq_getElem?_getD, List.getElem?_replicate]; split <;> rfl
    rcases ht with ⟨rfl, rfl⟩ | ⟨rfl, rfl⟩ | ⟨rfl, rfl⟩ | ⟨rfl, rfl⟩
    · cases hy
      have h2 := ((sm_hK hF).2 0 _ rfl).2
      refine ⟨Option.some.inj (hfc.symm.trans h2), ?_⟩
      show vp_cell (cA 0) ((List.replicate n.toNatClampNeg (0 : Int32)).length, .inl (fun j => (List.replicate n.toNatClampNeg (0 : Int32)).getD j 0)) = _
      rw [vp_cell_i, List.length_replicate]
      exact congrArg (arrV (cA 0) n.toNatClampNeg) (funext fun j => by rw [g32]; rfl)
    · cases hy
      have h2 := ((sm_hK hF).2 1 _ rfl).2
      refine ⟨Option.some.inj (hfc.symm.trans h2), ?_⟩
      show vp_cell (cA 1) ((List.replicate n.toNatClampNeg (0 : Int64)).length, .inr (.inl (fun j => (List.replicate n.toNatClampNeg (0 : Int64)).getD j 0))) = _
      rw [vp_cell_l, List.length_replicate]
      exact congrArg (arrV (cA 1) n.toNatClampNeg) (funext fun j => by rw [g64]; rfl)
    · cases hy
      have h2 := ((sm_hK hF).2 2 _ rfl).2
      refine ⟨Option.some.inj (hfc.symm.trans h2), ?_⟩
      show vp_cell (cA 2) ((List.replicate n.toNatClampNeg (0 : Int32)).length, .inl (fun j => (List.replicate n.toNatClampNeg (0 : Int32)).getD j 0)) = _
      rw [vp_cell_i, List.length_replicate]
      exact congrArg (arrV (cA 2) n.toNatClampNeg) (funext fun j => by rw [g32]; rfl)
    · cases hy
      have h2 := ((sm_hK hF).2 3 _ rfl).2
      refine ⟨Option.some.inj (hfc.symm.trans h2), ?_⟩
      show vp_cell (cA 3) ((List.replicate n.toNatClampNeg (0 : Int32)).length, .inl (fun j => (List.replicate n.toNatClampNeg (0 : Int32)).getD j 0)) = _
      rw [vp_cell_i, List.length_replicate]
      exact congrArg (arrV (cA 3) n.toNatClampNeg) (funext fun j => by rw [g32]; rfl)
  have hbytes : n.toNatClampNeg * componentBytes (newarray.typeOf t) ≤ 536870912 := by
    rcases ht with ⟨-, rfl⟩ | ⟨-, rfl⟩ | ⟨-, rfl⟩ | ⟨-, rfl⟩
    · show n.toNatClampNeg * 4 ≤ _
      omega
    · show n.toNatClampNeg * 8 ≤ _
      omega
    · show n.toNatClampNeg * 2 ≤ _
      omega
    · show n.toNatClampNeg * 1 ≤ _
      omega
  split at e2
  · next y hy =>
    cases e2
    have hy1 : sm_al y = n.toNatClampNeg := by
      rcases ht with ⟨rfl, -⟩ | ⟨rfl, -⟩ | ⟨rfl, -⟩ | ⟨rfl, -⟩ <;> cases hy <;> exact List.length_replicate
    have hsz : sm_sz (.inl (i1, y)) = n.toNatClampNeg := hy1
    rw [hsz] at hslots
    refine va_newaK hF.1 hF.2.1 (sm_wd hF harr) rfl hd rfl hn0 rfl hbytes hcells hslots hR.1 fun H1 cB e1 z1 o1 hAr hNm => ?_
    obtain ⟨k1, k4⟩ := key cB y hy hAr hNm
    subst k1
    have h2 := kC H1 (hR.push (by rw [z1, hR.1]) (fun i hi => o1 i (by rw [hR.1] at hi; exact hi)) (by
      show H1[z + h.length]? = some (vp_cell (cA i1) (sm_ia z y))
      rw [k4]; exact e1))
    rw [hsz] at h2
    exact h2
  · cases e2
theorem sn_anewarray {idx : Nat} (hF : sm_Fr z b L xs H00 D cA p s m meth c M) (hR : sm_R z b H00 D cA h H) (hlo : ∀ w ∈ locs, z ≤ w.base) (hd : sm_ok M (pc, .anewarray idx, i1, i2)) (hs : sm_n (.anewarray idx) i1 st = some (r, x)) (hcells : cells + 1 ≤ R.cells) (hslots : slots + sm_sz x ≤ R.slots)
    (kC : ∀ H1 : Heap, sm_R z b H00 D cA (h ++ [x]) H1 → W p l e R s m args below meth c H1 locs (cells + 1) (slots + sm_sz x) Q (F0 m (pc + 3) ls ((.ref h.length :: r).map (sm_rv z b)))) : W p l e R s m args below meth c H locs cells slots Q (F0 m pc ls (st.map (sm_rv z b))) := by
  have hs : (sm_i st (fun x r => if x < 0 ∨ 1000000 < x.toNatClampNeg then none else some (r, .inl (4, .inr (.inr (List.replicate x.toNatClampNeg none)))))) = some (r, x) := hs
  obtain ⟨hd, hcl, hov⟩ := hd
  obtain ⟨n, r', rfl, e1⟩ := sm_i_inv hs
  obtain ⟨hn, e2⟩ := sm_if_inv e1
  cases e2
  have hn0 : ¬ n < 0 := fun q => hn (Or.inl q)
  have hn1 : n.toNatClampNeg ≤ 1000000 := Nat.not_lt.mp fun q => hn (Or.inr q)
  have hsz : sm_sz (.inl (4, .inr (.inr (List.replicate n.toNatClampNeg none)))) = n.toNatClampNeg := List.length_replicate
  have gq : ∀ j : Nat, va_rf (((List.replicate n.toNatClampNeg (none : Option Nat)).getD j none).map (fun k => z + k)) = .null := fun j => by
    rw [List.getD_eq_getElem?_getD, List.getElem?_replicate]; split <;> rfl
  refine W.anew hF.1 hF.2.1 hF.2.2.2.1 (sm_wd hF hcl) (sm_wd hF hov) rfl hd rfl hn0 (by omega) hcells (by rw [← hsz]; exact hslots) fun cB kA comp f1 f2 f3 f4 => ?_
  generalize hH1 : H.push ({ cls := cB, slots := Array.replicate n.toNatClampNeg .null, vm := .none } : Cell) = H1
  have z1 : H1.size = H.size + 1 := by rw [← hH1, Array.size_push]
  have e1 : H1[H.size]? = some (arrV cB n.toNatClampNeg (fun _ => .null)) := by rw [← hH1, Array.getElem?_push_size, ← arrV_new]
  have o1 : ∀ q : Nat, q < H.size → H1[q]? = H[q]? := fun q hq => by rw [← hH1, Array.getElem?_push, if_neg (Nat.ne_of_lt hq)]
  obtain ⟨kA2, comp2, -, -, -, k4⟩ := ((sm_hK hF).2 4 _ rfl).2
  have hcB : cB = cA 4 := Option.some.inj (f1.symm.trans k4)
  subst hcB
  rw [hR.1] at e1
  have h2 := kC H1 (hR.push z1 o1 (by
    show H1[z + h.length]? = some (vp_cell (cA 4) ((List.replicate n.toNatClampNeg (none : Option Nat)).length, .inr (.inr (.inr (.inr (fun j => ((List.replicate n.toNatClampNeg (none : Option Nat)).getD j none).map (fun k => z + k)))))))
    rw [vp_cell_q, List.length_replicate, funext gq]
    exact e1))
  rw [hR.1]
  rw [hsz] at h2
  exact h2
theorem sn_all {i : Instr} (hF : sm_Fr z b L xs H00 D cA p s m meth c M) (hR : sm_R z b H00 D cA h H) (hlo : ∀ w ∈ locs, z ≤ w.base) (hd : sm_ok M (pc, i, i1, i2)) (hs : sm_n i i1 st = some (r, x)) (hcells : cells + 1 ≤ R.cells) (hslots : slots + sm_sz x ≤ R.slots)
    (kC : ∀ H1 : Heap, sm_R z b H00 D cA (h ++ [x]) H1 → W p l e R s m args below meth c H1 locs (cells + 1) (slots + sm_sz x) Q (F0 m (pc + sm_ln i) ls ((.ref h.length :: r).map (sm_rv z b)))) : W p l e R s m args below meth c H locs cells slots Q (F0 m pc ls (st.map (sm_rv z b))) := by
  cases i
  case new => exact sn_new hF hR hlo hd hs hcells hslots kC
  case newarray => exact sn_newarray hF hR hlo hd hs hcells hslots kC
  case anewarray => exact sn_anewarray hF hR hlo hd hs hcells hslots kC
  all_goals exact sm_nn hs
theorem sw_set {i : Instr} (hs : sm_w i i1 i2 st h = some (r, q, x)) : (h.set q x).length = h.length ∧ sm_ss (h.set q x) = sm_ss h := by
  refine ⟨List.length_set, ?_⟩
  have key : ∃ y, h[q]? = some y ∧ sm_sz y = sm_sz x := by
    cases i
    case putfield =>
      obtain ⟨v, r', rfl, e1⟩ := sm_v_inv (show sm_v st _ = _ from hs)
      obtain ⟨q', r', rfl, e2⟩ := sm_r_inv e1
      obtain ⟨fs, hq, e3⟩ := sm_obj_inv e2
      obtain ⟨hb, e4⟩ := sm_b_inv e3
      cases e4
      exact ⟨_, hq, (List.length_set).symm⟩
    case iastore =>
      obtain ⟨i, v, r', rfl, e5⟩ := sm_ii_inv (show sm_ii st _ = _ from hs)
      obtain ⟨q', r', rfl, e6⟩ := sm_r_inv e5
      obtain ⟨g, hq, hin, e7⟩ := sm_arI_inv e6
      cases e7
      exact ⟨_, hq, (List.length_set).symm⟩
    case castore =>
      obtain ⟨i, v, r', rfl, e8⟩ := sm_ii_inv (show sm_ii st _ = _ from hs)
      obtain ⟨q', r', rfl, e9⟩ := sm_r_inv e8
      obtain ⟨g, hq, hin, e10⟩ := sm_arI_inv e9
      cases e10
      exact ⟨_, hq, (List.length_set).symm⟩
    case bastore =>
      obtain ⟨i, v, r', rfl, e11⟩ := sm_ii_inv (show sm_ii st _ = _ from hs)
      obtain ⟨q', r', rfl, e12⟩ := sm_r_inv e11
      obtain ⟨g, hq, hin, e13⟩ := sm_arI_inv e12
      cases e13
      exact ⟨_, hq, (List.length_set).symm⟩
    case lastore =>
      obtain ⟨v, r', rfl, e14⟩ := sm_l_inv (show sm_l st _ = _ from hs)
      obtain ⟨i, r', rfl, e15⟩ := sm_i_inv e14
      obtain ⟨q', r', rfl, e16⟩ := sm_r_inv e15
      obtain ⟨g, hq, hin, e17⟩ := sm_arL_inv e16
      cases e17
      exact ⟨_, hq, (List.length_set).symm⟩
    case aastore =>
      obtain ⟨k, r', rfl, e18⟩ := sm_r_inv (show sm_r st _ = _ from hs)
      obtain ⟨i, r', rfl, e19⟩ := sm_i_inv e18
      obtain ⟨q', r', rfl, e20⟩ := sm_r_inv e19
      obtain ⟨g, hq, hin, e21⟩ := sm_arQ_inv e20
      obtain ⟨fs, hk, e22⟩ := sm_obj_inv e21
      cases e22
      exact ⟨_, hq, (List.length_set).symm⟩
    all_goals exact sm_nn hs
  obtain ⟨y, hy, hsz⟩ := key
  unfold sm_ss
  rw [List.map_set]
  congr 1
  apply List.ext_getElem?
  intro j
  rw [List.getElem?_set]
  by_cases hj : q = j
  · subst hj
    rw [if_pos rfl, List.length_map, List.getElem?_map, hy]
    have hl : q < h.length := (List.getElem?_eq_some_iff.mp hy).1
    rw [if_pos hl, ← hsz]; rfl
  · rw [if_neg hj]
theorem sm_ss_push (h : sm_H) (x : sm_E) : sm_ss (h ++ [x]) = sm_ss h + sm_sz x := by
  unfold sm_ss
  rw [List.map_append, List.sum_append]
  simp
end SMW
