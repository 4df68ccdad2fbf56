/-! the machine goes with the small machine: instructions that leave the heap -/
section SMP
variable {p : Program} {l : Launch} {e : Env} {R : Room} {s : State} {m : MethodId} {args : Array Value} {below : List Frame} {meth : Method} {c : Code} {H : Heap} {locs : List Loc} {cells slots : Nat} {Q : State → Prop}
variable {z L : Nat} {b : UInt32 → Option Nat} {xs : Nat → Int32} {H00 : Heap} {D : va_G} {cA : Nat → ClassId} {M pc i1 i2 : Nat} {lv lv' : sm_L} {st st' : List Value} {h : sm_H} {pc' : Nat} {ls : Array Slot}
theorem sm_wd (hF : sm_Fr z b L xs H00 D cA p s m meth c M) {w : Cond} (hw : w ∈ sm_tbl) : w.before args s = true := hF.2.2.2.2.2.2.2.2.2.1 w hw args
theorem sm_wds (hF : sm_Fr z b L xs H00 D cA p s m meth c M) : ∀ w ∈ sm_tbl, w.before args s = true := fun _ hw => sm_wd hF hw
theorem sm_hK (hF : sm_Fr z b L xs H00 D cA p s m meth c M) : va_K D sm_classes (sm_tys cA) s := hF.2.2.2.2.2.2.2.1
theorem sm_hT (hF : sm_Fr z b L xs H00 D cA p s m meth c M) : sm_T z b H00 s := hF.2.2.2.2.2.2.2.2.2.2
theorem sm_hX (hF : sm_Fr z b L xs H00 D cA p s m meth c M) (hR : sm_R z b H00 D cA h H) : ∃ sb, b 0 = some sb ∧ va_X sb L xs s H ∧ sb < H.size ∧ ¬ z ≤ sb := by
  obtain ⟨sb, h0, h2, h3⟩ := hF.2.2.2.2.2.2.2.2.1
  have h1 := hR.1
  exact ⟨sb, h0, va_X.kept h2 (hR.2.1 sb h3), by omega, by omega⟩
theorem sm_kept (hR : sm_R z b H00 D cA h H) : ∀ a : Nat, a < H00.size → ¬ z ≤ a → H[a]? = H00[a]? := fun a _ h => hR.2.1 a (by omega)
theorem sm_no100 {q : vw_C} {P : Prop} (h : sm_classes[100]? = some q) : P := sm_nn h
theorem sp_iconst {k : Int} (hF : sm_Fr z b L xs H00 D cA p s m meth c M) (hR : sm_R z b H00 D cA h H) (hlo : ∀ q ∈ locs, z ≤ q.base) (hl : lv_has ls (sm_maxL M) (sm_ml z b lv)) (hd : sm_ok M (pc, .iconst k, i1, i2)) (hs : sm_p (some (L, xs)) (sm_maxL M) pc (.iconst k) i1 i2 lv st h = some (pc', lv', st'))
    (kC : ∀ ls' : Array Slot, lv_has ls' (sm_maxL M) (sm_ml z b lv') → W p l e R s m args below meth c H locs cells slots Q (F0 m pc' ls' (st'.map (sm_rv z b)))) : W p l e R s m args below meth c H locs cells slots Q (F0 m pc ls (st.map (sm_rv z b))) := by
  have hs : (some (pc + 1, lv, .int (Int32.ofInt k) :: st)) = some (pc', lv', st') := hs
  have hd : decode (sm_code M) pc = .ok (.iconst k, 1) := hd
  cases hs
  exact lv_iconst hF.1 hF.2.1 hd rfl (kC ls hl)
theorem sp_bipush {k : Int} (hF : sm_Fr z b L xs H00 D cA p s m meth c M) (hR : sm_R z b H00 D cA h H) (hlo : ∀ q ∈ locs, z ≤ q.base) (hl : lv_has ls (sm_maxL M) (sm_ml z b lv)) (hd : sm_ok M (pc, .bipush k, i1, i2)) (hs : sm_p (some (L, xs)) (sm_maxL M) pc (.bipush k) i1 i2 lv st h = some (pc', lv', st'))
    (kC : ∀ ls' : Array Slot, lv_has ls' (sm_maxL M) (sm_ml z b lv') → W p l e R s m args below meth c H locs cells slots Q (F0 m pc' ls' (st'.map (sm_rv z b)))) : W p l e R s m args below meth c H locs cells slots Q (F0 m pc ls (st.map (sm_rv z b))) := by
  have hs : (some (pc + 2, lv, .int (Int8.ofInt k).toInt32 :: st)) = some (pc', lv', st') := hs
  have hd : decode (sm_code M) pc = .ok (.bipush k, 2) := hd
  cases hs
  exact lv_bipush hF.1 hF.2.1 hd rfl (kC ls hl)
theorem sp_sipush {k : Int} (hF : sm_Fr z b L xs H00 D cA p s m meth c M) (hR : sm_R z b H00 D cA h H) (hlo : ∀ q ∈ locs, z ≤ q.base) (hl : lv_has ls (sm_maxL M) (sm_ml z b lv)) (hd : sm_ok M (pc, .sipush k, i1, i2)) (hs : sm_p (some (L, xs)) (sm_maxL M) pc (.sipush k) i1 i2 lv st h = some (pc', lv', st'))
    (kC : ∀ ls' : Array Slot, lv_has ls' (sm_maxL M) (sm_ml z b lv') → W p l e R s m args below meth c H locs cells slots Q (F0 m pc' ls' (st'.map (sm_rv z b)))) : W p l e R s m args below meth c H locs cells slots Q (F0 m pc ls (st.map (sm_rv z b))) := by
  have hs : (some (pc + 3, lv, .int (Int16.ofInt k).toInt32 :: st)) = some (pc', lv', st') := hs
  have hd : decode (sm_code M) pc = .ok (.sipush k, 3) := hd
  cases hs
  exact lv_sipush hF.1 hF.2.1 hd rfl (kC ls hl)
theorem sp_lconst {k : Fin 2} (hF : sm_Fr z b L xs H00 D cA p s m meth c M) (hR : sm_R z b H00 D cA h H) (hlo : ∀ q ∈ locs, z ≤ q.base) (hl : lv_has ls (sm_maxL M) (sm_ml z b lv)) (hd : sm_ok M (pc, .lconst k, i1, i2)) (hs : sm_p (some (L, xs)) (sm_maxL M) pc (.lconst k) i1 i2 lv st h = some (pc', lv', st'))
    (kC : ∀ ls' : Array Slot, lv_has ls' (sm_maxL M) (sm_ml z b lv') → W p l e R s m args below meth c H locs cells slots Q (F0 m pc' ls' (st'.map (sm_rv z b)))) : W p l e R s m args below meth c H locs cells slots Q (F0 m pc ls (st.map (sm_rv z b))) := by
  have hs : (some (pc + 1, lv, .long (Int64.ofNat (k : Nat)) :: st)) = some (pc', lv', st') := hs
  have hd : decode (sm_code M) pc = .ok (.lconst k, 1) := hd
  cases hs
  exact lv_lconst hF.1 hF.2.1 hd rfl (kC ls hl)
theorem sp_ldc {idx : Nat} (hF : sm_Fr z b L xs H00 D cA p s m meth c M) (hR : sm_R z b H00 D cA h H) (hlo : ∀ q ∈ locs, z ≤ q.base) (hl : lv_has ls (sm_maxL M) (sm_ml z b lv)) (hd : sm_ok M (pc, .ldc idx, i1, i2)) (hs : sm_p (some (L, xs)) (sm_maxL M) pc (.ldc idx) i1 i2 lv st h = some (pc', lv', st'))
    (kC : ∀ ls' : Array Slot, lv_has ls' (sm_maxL M) (sm_ml z b lv') → W p l e R s m args below meth c H locs cells slots Q (F0 m pc' ls' (st'.map (sm_rv z b)))) : W p l e R s m args below meth c H locs cells slots Q (F0 m pc ls (st.map (sm_rv z b))) := by
  have hs : (bif Nat.blt i1 1000 then (match sm_kI[i1]? with | some x => some (pc + 2, lv, .int x :: st) | none => none) else bif Nat.blt (i1 - 1000) sm_nS then some (pc + 2, lv, .float (UInt32.ofNat (2 * (i1 - 1000) + 1)) :: st) else none) = some (pc', lv', st') := hs
  have hd : decode (sm_code M) pc = .ok (.ldc idx, 2) ∧ (∀ v, sm_kI[i1]? = some v → Cond.constant (sm_name M).cls idx v ∈ sm_tbl) ∧ (1000 ≤ i1 → ∃ tx, (i1 - 1000, (sm_name M).cls, idx, tx) ∈ sm_lits) := hd
  obtain ⟨hd, hc, hk⟩ := hd
  cases hb : Nat.blt i1 1000 with
  | true =>
    rw [hb, cond_true] at hs
    have hs : (match sm_kI[i1]? with | some x => some (pc + 2, lv, Value.int x :: st) | none => none) = some (pc', lv', st') := hs
    split at hs
    · next x hx =>
      cases hs
      exact lv_ldc hF.1 hF.2.1 hF.2.2.2.1 (sm_wd hF (hc x hx)) hd (kC ls hl)
    · cases hs
  | false =>
    rw [hb, cond_false] at hs
    obtain ⟨hb2, e1⟩ := sm_b_inv hs
    cases e1
    have h5 : ¬ i1 < 1000 := fun q => by rw [show Nat.blt i1 1000 = true from Nat.ble_eq_true_of_le q] at hb; cases hb
    obtain ⟨tx, ht⟩ := hk (by omega)
    obtain ⟨kk, vv, t1, t2, t3, t4, t5⟩ := sm_hT hF
    have e2 : sm_rv z b (.float (UInt32.ofNat (2 * (i1 - 1000) + 1))) = .ref (kk (i1 - 1000)) := by
      show va_rf (b _) = _
      rw [(t1 _ (sm_blt hb2)).1]; rfl
    have k2 := kC ls hl
    rw [List.map_cons, e2] at k2
    exact va_ldcS hF.1 hF.2.1 hF.2.2.2.1 (t5 _ _ _ _ ht) hd k2
theorem sp_getstatic {idx : Nat} (hF : sm_Fr z b L xs H00 D cA p s m meth c M) (hR : sm_R z b H00 D cA h H) (hlo : ∀ q ∈ locs, z ≤ q.base) (hl : lv_has ls (sm_maxL M) (sm_ml z b lv)) (hd : sm_ok M (pc, .getstatic idx, i1, i2)) (hs : sm_p (some (L, xs)) (sm_maxL M) pc (.getstatic idx) i1 i2 lv st h = some (pc', lv', st'))
    (kC : ∀ ls' : Array Slot, lv_has ls' (sm_maxL M) (sm_ml z b lv') → W p l e R s m args below meth c H locs cells slots Q (F0 m pc' ls' (st'.map (sm_rv z b)))) : W p l e R s m args below meth c H locs cells slots Q (F0 m pc ls (st.map (sm_rv z b))) := by
  have hs : (bif Nat.beq i1 1 then some (pc + 3, lv, .int 1 :: st) else bif Nat.beq i1 2 then some (pc + 3, lv, .float 1000 :: st) else none) = some (pc', lv', st') := hs
  have hd : decode (sm_code M) pc = .ok (.getstatic idx, 3) ∧ (i1 = 1 → Cond.fieldLink (sm_name M).cls idx "java/lang/String" "COMPACT_STRINGS" "Z" ∈ sm_tbl) ∧ (i1 = 2 → Cond.fieldLink (sm_name M).cls idx "jdk/internal/util/Preconditions" "SIOOBE_FORMATTER" "Ljava/util/function/BiFunction;" ∈ sm_tbl) := hd
  obtain ⟨hd, hc, hk⟩ := hd
  obtain ⟨kk, vv, t1, t2, t3, t4, t5⟩ := sm_hT hF
  cases hb : Nat.beq i1 1 with
  | true =>
    rw [hb] at hs
    have e1 : some (pc + 3, lv, Value.int 1 :: st) = some (pc', lv', st') := hs
    cases e1
    obtain ⟨cf, kf, fi, f, a, cell, h1, h2, h3, h4, h5, h6, h7, h8⟩ := t3.kept (sm_kept hR)
    exact W.gets hF.1 hF.2.1 hF.2.2.2.1 (sm_wd hF (hc (sm_beq hb))) h1 h2 h3 h4 h5 (fun e => by rw [e] at h6; cases h6) h7 rfl hd (kC ls hl)
  | false =>
    rw [hb] at hs
    obtain ⟨hb2, e1⟩ := sm_b_inv (show (bif Nat.beq i1 2 then some (pc + 3, lv, Value.float 1000 :: st) else none) = some (pc', lv', st') from hs)
    cases e1
    obtain ⟨cf, kf, fi, f, a, cell, h1, h2, h3, h4, h5, h6, h7, h8⟩ := t4.kept (sm_kept hR)
    exact W.gets hF.1 hF.2.1 hF.2.2.2.1 (sm_wd hF (hk (sm_beq hb2))) h1 h2 h3 h4 h5 (fun e => by rw [e] at h6; cases h6) h7 rfl hd (kC ls hl)
theorem sp_ldc2 {idx : Nat} (hF : sm_Fr z b L xs H00 D cA p s m meth c M) (hR : sm_R z b H00 D cA h H) (hlo : ∀ q ∈ locs, z ≤ q.base) (hl : lv_has ls (sm_maxL M) (sm_ml z b lv)) (hd : sm_ok M (pc, .ldc2_w idx, i1, i2)) (hs : sm_p (some (L, xs)) (sm_maxL M) pc (.ldc2_w idx) i1 i2 lv st h = some (pc', lv', st'))
    (kC : ∀ ls' : Array Slot, lv_has ls' (sm_maxL M) (sm_ml z b lv') → W p l e R s m args below meth c H locs cells slots Q (F0 m pc' ls' (st'.map (sm_rv z b)))) : W p l e R s m args below meth c H locs cells slots Q (F0 m pc ls (st.map (sm_rv z b))) := by
  have hs : ((match sm_kL[i1]? with | some x => some (pc + 3, lv, .long x :: st) | none => none)) = some (pc', lv', st') := hs
  have hd : decode (sm_code M) pc = .ok (.ldc2_w idx, 3) ∧ ∀ v, sm_kL[i1]? = some v → Cond.constantLong (sm_name M).cls idx v ∈ sm_tbl := hd
  obtain ⟨hd, hc⟩ := hd
  split at hs
  · next x hx =>
    cases hs
    exact lv_ldc2 hF.1 hF.2.1 hF.2.2.2.1 (sm_wd hF (hc x hx)) hd (kC ls hl)
  · cases hs
theorem sp_iload_n {k : Fin 4} (hF : sm_Fr z b L xs H00 D cA p s m meth c M) (hR : sm_R z b H00 D cA h H) (hlo : ∀ q ∈ locs, z ≤ q.base) (hl : lv_has ls (sm_maxL M) (sm_ml z b lv)) (hd : sm_ok M (pc, .iload_n k, i1, i2)) (hs : sm_p (some (L, xs)) (sm_maxL M) pc (.iload_n k) i1 i2 lv st h = some (pc', lv', st'))
    (kC : ∀ ls' : Array Slot, lv_has ls' (sm_maxL M) (sm_ml z b lv') → W p l e R s m args below meth c H locs cells slots Q (F0 m pc' ls' (st'.map (sm_rv z b)))) : W p l e R s m args below meth c H locs cells slots Q (F0 m pc ls (st.map (sm_rv z b))) := by
  have hs : (sm_ldI lv k (fun x => some (pc + 1, lv, .int x :: st))) = some (pc', lv', st') := hs
  have hd : decode (sm_code M) pc = .ok (.iload_n k, 1) := hd
  obtain ⟨x, hx, e1⟩ := sm_ldI_inv hs
  cases e1
  exact lv_iload_n hF.1 hF.2.1 hd rfl (sm_has hl hx) (kC ls hl)
theorem sp_iload {k : Nat} (hF : sm_Fr z b L xs H00 D cA p s m meth c M) (hR : sm_R z b H00 D cA h H) (hlo : ∀ q ∈ locs, z ≤ q.base) (hl : lv_has ls (sm_maxL M) (sm_ml z b lv)) (hd : sm_ok M (pc, .iload k, i1, i2)) (hs : sm_p (some (L, xs)) (sm_maxL M) pc (.iload k) i1 i2 lv st h = some (pc', lv', st'))
    (kC : ∀ ls' : Array Slot, lv_has ls' (sm_maxL M) (sm_ml z b lv') → W p l e R s m args below meth c H locs cells slots Q (F0 m pc' ls' (st'.map (sm_rv z b)))) : W p l e R s m args below meth c H locs cells slots Q (F0 m pc ls (st.map (sm_rv z b))) := by
  have hs : (sm_ldI lv k (fun x => some (pc + 2, lv, .int x :: st))) = some (pc', lv', st') := hs
  have hd : decode (sm_code M) pc = .ok (.iload k, 2) := hd
  obtain ⟨x, hx, e1⟩ := sm_ldI_inv hs
  cases e1
  exact lv_iload hF.1 hF.2.1 hd (sm_has hl hx) (kC ls hl)
theorem sp_lload_n {k : Fin 4} (hF : sm_Fr z b L xs H00 D cA p s m meth c M) (hR : sm_R z b H00 D cA h H) (hlo : ∀ q ∈ locs, z ≤ q.base) (hl : lv_has ls (sm_maxL M) (sm_ml z b lv)) (hd : sm_ok M (pc, .lload_n k, i1, i2)) (hs : sm_p (some (L, xs)) (sm_maxL M) pc (.lload_n k) i1 i2 lv st h = some (pc', lv', st'))
    (kC : ∀ ls' : Array Slot, lv_has ls' (sm_maxL M) (sm_ml z b lv') → W p l e R s m args below meth c H locs cells slots Q (F0 m pc' ls' (st'.map (sm_rv z b)))) : W p l e R s m args below meth c H locs cells slots Q (F0 m pc ls (st.map (sm_rv z b))) := by
  have hs : (sm_ldL lv k (fun x => some (pc + 1, lv, .long x :: st))) = some (pc', lv', st') := hs
  have hd : decode (sm_code M) pc = .ok (.lload_n k, 1) := hd
  obtain ⟨x, hx, e1⟩ := sm_ldL_inv hs
  cases e1
  exact lv_lload_n hF.1 hF.2.1 hd rfl (sm_has hl hx) (kC ls hl)
theorem sp_lload {k : Nat} (hF : sm_Fr z b L xs H00 D cA p s m meth c M) (hR : sm_R z b H00 D cA h H) (hlo : ∀ q ∈ locs, z ≤ q.base) (hl : lv_has ls (sm_maxL M) (sm_ml z b lv)) (hd : sm_ok M (pc, .lload k, i1, i2)) (hs : sm_p (some (L, xs)) (sm_maxL M) pc (.lload k) i1 i2 lv st h = some (pc', lv', st'))
    (kC : ∀ ls' : Array Slot, lv_has ls' (sm_maxL M) (sm_ml z b lv') → W p l e R s m args below meth c H locs cells slots Q (F0 m pc' ls' (st'.map (sm_rv z b)))) : W p l e R s m args below meth c H locs cells slots Q (F0 m pc ls (st.map (sm_rv z b))) := by
  have hs : (sm_ldL lv k (fun x => some (pc + 2, lv, .long x :: st))) = some (pc', lv', st') := hs
  have hd : decode (sm_code M) pc = .ok (.lload k, 2) := hd
  obtain ⟨x, hx, e1⟩ := sm_ldL_inv hs
  cases e1
  exact lv_lload hF.1 hF.2.1 hd (sm_has hl hx) (kC ls hl)
theorem sp_aload_n {k : Fin 4} (hF : sm_Fr z b L xs H00 D cA p s m meth c M) (hR : sm_R z b H00 D cA h H) (hlo : ∀ q ∈ locs, z ≤ q.base) (hl : lv_has ls (sm_maxL M) (sm_ml z b lv)) (hd : sm_ok M (pc, .aload_n k, i1, i2)) (hs : sm_p (some (L, xs)) (sm_maxL M) pc (.aload_n k) i1 i2 lv st h = some (pc', lv', st'))
    (kC : ∀ ls' : Array Slot, lv_has ls' (sm_maxL M) (sm_ml z b lv') → W p l e R s m args below meth c H locs cells slots Q (F0 m pc' ls' (st'.map (sm_rv z b)))) : W p l e R s m args below meth c H locs cells slots Q (F0 m pc ls (st.map (sm_rv z b))) := by
  have hs : (sm_ldA lv k (fun x => some (pc + 1, lv, x :: st))) = some (pc', lv', st') := hs
  have hd : decode (sm_code M) pc = .ok (.aload_n k, 1) := hd
  obtain ⟨v, hx, hv, e1⟩ := sm_ldA_inv z b hs
  cases e1
  have hy := sm_has hl hx
  have kk := kC ls hl
  rcases hv with ⟨y, hv⟩ | hv
  · rw [hv] at hy
    rw [List.map_cons, hv] at kk
    exact lv_aload_n hF.1 hF.2.1 hd rfl hy kk
  · rw [hv] at hy
    rw [List.map_cons, hv] at kk
    exact lv_aload_nN hF.1 hF.2.1 hd rfl hy kk
theorem sp_aload {k : Nat} (hF : sm_Fr z b L xs H00 D cA p s m meth c M) (hR : sm_R z b H00 D cA h H) (hlo : ∀ q ∈ locs, z ≤ q.base) (hl : lv_has ls (sm_maxL M) (sm_ml z b lv)) (hd : sm_ok M (pc, .aload k, i1, i2)) (hs : sm_p (some (L, xs)) (sm_maxL M) pc (.aload k) i1 i2 lv st h = some (pc', lv', st'))
    (kC : ∀ ls' : Array Slot, lv_has ls' (sm_maxL M) (sm_ml z b lv') → W p l e R s m args below meth c H locs cells slots Q (F0 m pc' ls' (st'.map (sm_rv z b)))) : W p l e R s m args below meth c H locs cells slots Q (F0 m pc ls (st.map (sm_rv z b))) := by
  have hs : (sm_ldA lv k (fun x => some (pc + 2, lv, x :: st))) = some (pc', lv', st') := hs
  have hd : decode (sm_code M) pc = .ok (.aload k, 2) := hd
  obtain ⟨v, hx, hv, e1⟩ := sm_ldA_inv z b hs
  cases e1
  have hy := sm_has hl hx
  have kk := kC ls hl
  rcases hv with ⟨y, hv⟩ | hv
  · rw [hv] at hy
    rw [List.map_cons, hv] at kk
    exact lv_aload hF.1 hF.2.1 hd hy kk
  · rw [hv] at hy
    rw [List.map_cons, hv] at kk
    exact lv_aloadN hF.1 hF.2.1 hd hy kk
theorem sp_istore_n {k : Fin 4} (hF : sm_Fr z b L xs H00 D cA p s m meth c M) (hR : sm_R z b H00 D cA h H) (hlo : ∀ q ∈ locs, z ≤ q.base) (hl : lv_has ls (sm_maxL M) (sm_ml z b lv)) (hd : sm_ok M (pc, .istore_n k, i1, i2)) (hs : sm_p (some (L, xs)) (sm_maxL M) pc (.istore_n k) i1 i2 lv st h = some (pc', lv', st'))
    (kC : ∀ ls' : Array Slot, lv_has ls' (sm_maxL M) (sm_ml z b lv') → W p l e R s m args below meth c H locs cells slots Q (F0 m pc' ls' (st'.map (sm_rv z b)))) : W p l e R s m args below meth c H locs cells slots Q (F0 m pc ls (st.map (sm_rv z b))) := by
  have hs : (sm_stI (sm_maxL M) lv k (pc + 1) st) = some (pc', lv', st') := hs
  have hd : decode (sm_code M) pc = .ok (.istore_n k, 1) := hd
  obtain ⟨x, r, rfl, e1⟩ := sm_i_inv hs
  obtain ⟨hb, e2⟩ := sm_b_inv e1
  cases e2
  exact lv_istore_n hF.1 hF.2.1 hd rfl hl (sm_blt hb) (sm_ml_s1 z b lv k (.int x)) kC
theorem sp_istore {k : Nat} (hF : sm_Fr z b L xs H00 D cA p s m meth c M) (hR : sm_R z b H00 D cA h H) (hlo : ∀ q ∈ locs, z ≤ q.base) (hl : lv_has ls (sm_maxL M) (sm_ml z b lv)) (hd : sm_ok M (pc, .istore k, i1, i2)) (hs : sm_p (some (L, xs)) (sm_maxL M) pc (.istore k) i1 i2 lv st h = some (pc', lv', st'))
    (kC : ∀ ls' : Array Slot, lv_has ls' (sm_maxL M) (sm_ml z b lv') → W p l e R s m args below meth c H locs cells slots Q (F0 m pc' ls' (st'.map (sm_rv z b)))) : W p l e R s m args below meth c H locs cells slots Q (F0 m pc ls (st.map (sm_rv z b))) := by
  have hs : (sm_stI (sm_maxL M) lv k (pc + 2) st) = some (pc', lv', st') := hs
  have hd : decode (sm_code M) pc = .ok (.istore k, 2) := hd
  obtain ⟨x, r, rfl, e1⟩ := sm_i_inv hs
  obtain ⟨hb, e2⟩ := sm_b_inv e1
  cases e2
  exact lv_istore hF.1 hF.2.1 hd hl (sm_blt hb) (sm_ml_s1 z b lv k (.int x)) kC
theorem sp_lstore_n {k : Fin 4} (hF : sm_Fr z b L xs H00 D cA p s m meth c M) (hR : sm_R z b H00 D cA h H) (hlo : ∀ q ∈ locs, z ≤ q.base) (hl : lv_has ls (sm_maxL M) (sm_ml z b lv)) (hd : sm_ok M (pc, .lstore_n k, i1, i2)) (hs : sm_p (some (L, xs)) (sm_maxL M) pc (.lstore_n k) i1 i2 lv st h = some (pc', lv', st'))
    (kC : ∀ ls' : Array Slot, lv_has ls' (sm_maxL M) (sm_ml z b lv') → W p l e R s m args below meth c H locs cells slots Q (F0 m pc' ls' (st'.map (sm_rv z b)))) : W p l e R s m args below meth c H locs cells slots Q (F0 m pc ls (st.map (sm_rv z b))) := by
  have hs : (sm_stL (sm_maxL M) lv k (pc + 1) st) = some (pc', lv', st') := hs
  have hd : decode (sm_code M) pc = .ok (.lstore_n k, 1) := hd
  obtain ⟨x, r, rfl, e1⟩ := sm_l_inv hs
  obtain ⟨hb, e2⟩ := sm_b_inv e1
  cases e2
  exact lv_lstore_n hF.1 hF.2.1 hd rfl hl (sm_blt hb) (sm_ml_s2 z b lv k (.long x)) kC
theorem sp_lstore {k : Nat} (hF : sm_Fr z b L xs H00 D cA p s m meth c M) (hR : sm_R z b H00 D cA h H) (hlo : ∀ q ∈ locs, z ≤ q.base) (hl : lv_has ls (sm_maxL M) (sm_ml z b lv)) (hd : sm_ok M (pc, .lstore k, i1, i2)) (hs : sm_p (some (L, xs)) (sm_maxL M) pc (.lstore k) i1 i2 lv st h = some (pc', lv', st'))
    (kC : ∀ ls' : Array Slot, lv_has ls' (sm_maxL M) (sm_ml z b lv') → W p l e R s m args below meth c H locs cells slots Q (F0 m pc' ls' (st'.map (sm_rv z b)))) : W p l e R s m args below meth c H locs cells slots Q (F0 m pc ls (st.map (sm_rv z b))) := by
  have hs : (sm_stL (sm_maxL M) lv k (pc + 2) st) = some (pc', lv', st') := hs
  have hd : decode (sm_code M) pc = .ok (.lstore k, 2) := hd
  obtain ⟨x, r, rfl, e1⟩ := sm_l_inv hs
  obtain ⟨hb, e2⟩ := sm_b_inv e1
  cases e2
  exact lv_lstore hF.1 hF.2.1 hd hl (sm_blt hb) (sm_ml_s2 z b lv k (.long x)) kC
theorem sp_astore_n {k : Fin 4} (hF : sm_Fr z b L xs H00 D cA p s m meth c M) (hR : sm_R z b H00 D cA h H) (hlo : ∀ q ∈ locs, z ≤ q.base) (hl : lv_has ls (sm_maxL M) (sm_ml z b lv)) (hd : sm_ok M (pc, .astore_n k, i1, i2)) (hs : sm_p (some (L, xs)) (sm_maxL M) pc (.astore_n k) i1 i2 lv st h = some (pc', lv', st'))
    (kC : ∀ ls' : Array Slot, lv_has ls' (sm_maxL M) (sm_ml z b lv') → W p l e R s m args below meth c H locs cells slots Q (F0 m pc' ls' (st'.map (sm_rv z b)))) : W p l e R s m args below meth c H locs cells slots Q (F0 m pc ls (st.map (sm_rv z b))) := by
  have hs : (sm_stA (sm_maxL M) lv k (pc + 1) st) = some (pc', lv', st') := hs
  have hd : decode (sm_code M) pc = .ok (.astore_n k, 1) := hd
  obtain ⟨x, r, rfl, e1⟩ := sm_r_inv hs
  obtain ⟨hb, e2⟩ := sm_b_inv e1
  cases e2
  exact lv_astore_n hF.1 hF.2.1 hd rfl hl (sm_blt hb) (sm_ml_s1 z b lv k (.ref x)) kC
theorem sp_astore {k : Nat} (hF : sm_Fr z b L xs H00 D cA p s m meth c M) (hR : sm_R z b H00 D cA h H) (hlo : ∀ q ∈ locs, z ≤ q.base) (hl : lv_has ls (sm_maxL M) (sm_ml z b lv)) (hd : sm_ok M (pc, .astore k, i1, i2)) (hs : sm_p (some (L, xs)) (sm_maxL M) pc (.astore k) i1 i2 lv st h = some (pc', lv', st'))
    (kC : ∀ ls' : Array Slot, lv_has ls' (sm_maxL M) (sm_ml z b lv') → W p l e R s m args below meth c H locs cells slots Q (F0 m pc' ls' (st'.map (sm_rv z b)))) : W p l e R s m args below meth c H locs cells slots Q (F0 m pc ls (st.map (sm_rv z b))) := by
  have hs : (sm_stA (sm_maxL M) lv k (pc + 2) st) = some (pc', lv', st') := hs
  have hd : decode (sm_code M) pc = .ok (.astore k, 2) := hd
  obtain ⟨x, r, rfl, e1⟩ := sm_r_inv hs
  obtain ⟨hb, e2⟩ := sm_b_inv e1
  cases e2
  exact lv_astore hF.1 hF.2.1 hd hl (sm_blt hb) (sm_ml_s1 z b lv k (.ref x)) kC
theorem sp_iinc {k : Nat} {d : Int} (hF : sm_Fr z b L xs H00 D cA p s m meth c M) (hR : sm_R z b H00 D cA h H) (hlo : ∀ q ∈ locs, z ≤ q.base) (hl : lv_has ls (sm_maxL M) (sm_ml z b lv)) (hd : sm_ok M (pc, .iinc k d, i1, i2)) (hs : sm_p (some (L, xs)) (sm_maxL M) pc (.iinc k d) i1 i2 lv st h = some (pc', lv', st'))
    (kC : ∀ ls' : Array Slot, lv_has ls' (sm_maxL M) (sm_ml z b lv') → W p l e R s m args below meth c H locs cells slots Q (F0 m pc' ls' (st'.map (sm_rv z b)))) : W p l e R s m args below meth c H locs cells slots Q (F0 m pc ls (st.map (sm_rv z b))) := by
  have hs : (sm_ldI lv k (fun x => bif Nat.blt k (sm_maxL M) then some (pc + 3, sm_s1 lv k (.int (x + Int32.ofInt d)), st) else none)) = some (pc', lv', st') := hs
  have hd : decode (sm_code M) pc = .ok (.iinc k d, 3) := hd
  obtain ⟨x, hx, e1⟩ := sm_ldI_inv hs
  obtain ⟨hb, e2⟩ := sm_b_inv e1
  cases e2
  obtain ⟨j, hj⟩ := sm_hasI hl hx
  exact lv_iinc hF.1 hF.2.1 hd hl hj rfl (sm_blt hb) (sm_ml_s1 z b lv k (.int (x + Int32.ofInt d))) kC
theorem sp_iadd  (hF : sm_Fr z b L xs H00 D cA p s m meth c M) (hR : sm_R z b H00 D cA h H) (hlo : ∀ q ∈ locs, z ≤ q.base) (hl : lv_has ls (sm_maxL M) (sm_ml z b lv)) (hd : sm_ok M (pc, .iadd, i1, i2)) (hs : sm_p (some (L, xs)) (sm_maxL M) pc (.iadd) i1 i2 lv st h = some (pc', lv', st'))
    (kC : ∀ ls' : Array Slot, lv_has ls' (sm_maxL M) (sm_ml z b lv') → W p l e R s m args below meth c H locs cells slots Q (F0 m pc' ls' (st'.map (sm_rv z b)))) : W p l e R s m args below meth c H locs cells slots Q (F0 m pc ls (st.map (sm_rv z b))) := by
  have hs : (sm_ii st (fun x y r => some (pc + 1, lv, .int (x + y) :: r))) = some (pc', lv', st') := hs
  have hd : decode (sm_code M) pc = .ok (.iadd, 1) := hd
  obtain ⟨x, y, r, rfl, e1⟩ := sm_ii_inv hs
  cases e1
  exact lv_iadd hF.1 hF.2.1 hd (kC ls hl)
theorem sp_isub  (hF : sm_Fr z b L xs H00 D cA p s m meth c M) (hR : sm_R z b H00 D cA h H) (hlo : ∀ q ∈ locs, z ≤ q.base) (hl : lv_has ls (sm_maxL M) (sm_ml z b lv)) (hd : sm_ok M (pc, .isub, i1, i2)) (hs : sm_p (some (L, xs)) (sm_maxL M) pc (.isub) i1 i2 lv st h = some (pc', lv', st'))
    (kC : ∀ ls' : Array Slot, lv_has ls' (sm_maxL M) (sm_ml z b lv') → W p l e R s m args below meth c H locs cells slots Q (F0 m pc' ls' (st'.map (sm_rv z b)))) : W p l e R s m args below meth c H locs cells slots Q (F0 m pc ls (st.map (sm_rv z b))) := by
  have hs : (sm_ii st (fun x y r => some (pc + 1, lv, .int (x - y) :: r))) = some (pc', lv', st') := hs
  have hd : decode (sm_code M) pc = .ok (.isub, 1) := hd
  obtain ⟨x, y, r, rfl, e1⟩ := sm_ii_inv hs
  cases e1
  exact lv_isub hF.1 hF.2.1 hd (kC ls hl)
theorem sp_imul  (hF : sm_Fr z b L xs H00 D cA p s m meth c M) (hR : sm_R z b H00 D cA h H) (hlo : ∀ q ∈ locs, z ≤ q.base) (hl : lv_has ls (sm_maxL M) (sm_ml z b lv)) (hd : sm_ok M (pc, .imul, i1, i2)) (hs : sm_p (some (L, xs)) (sm_maxL M) pc (.imul) i1 i2 lv st h = some (pc', lv', st'))
    (kC : ∀ ls' : Array Slot, lv_has ls' (sm_maxL M) (sm_ml z b lv') → W p l e R s m args below meth c H locs cells slots Q (F0 m pc' ls' (st'.map (sm_rv z b)))) : W p l e R s m args below meth c H locs cells slots Q (F0 m pc ls (st.map (sm_rv z b))) := by
  have hs : (sm_ii st (fun x y r => some (pc + 1, lv, .int (x * y) :: r))) = some (pc', lv', st') := hs
  have hd : decode (sm_code M) pc = .ok (.imul, 1) := hd
  obtain ⟨x, y, r, rfl, e1⟩ := sm_ii_inv hs
  cases e1
  exact lv_imul hF.1 hF.2.1 hd (kC ls hl)
theorem sp_iand  (hF : sm_Fr z b L xs H00 D cA p s m meth c M) (hR : sm_R z b H00 D cA h H) (hlo : ∀ q ∈ locs, z ≤ q.base) (hl : lv_has ls (sm_maxL M) (sm_ml z b lv)) (hd : sm_ok M (pc, .iand, i1, i2)) (hs : sm_p (some (L, xs)) (sm_maxL M) pc (.iand) i1 i2 lv st h = some (pc', lv', st'))
    (kC : ∀ ls' : Array Slot, lv_has ls' (sm_maxL M) (sm_ml z b lv') → W p l e R s m args below meth c H locs cells slots Q (F0 m pc' ls' (st'.map (sm_rv z b)))) : W p l e R s m args below meth c H locs cells slots Q (F0 m pc ls (st.map (sm_rv z b))) := by
  have hs : (sm_ii st (fun x y r => some (pc + 1, lv, .int (x &&& y) :: r))) = some (pc', lv', st') := hs
  have hd : decode (sm_code M) pc = .ok (.iand, 1) := hd
  obtain ⟨x, y, r, rfl, e1⟩ := sm_ii_inv hs
  cases e1
  exact lv_iand hF.1 hF.2.1 hd (kC ls hl)
theorem sp_ior  (hF : sm_Fr z b L xs H00 D cA p s m meth c M) (hR : sm_R z b H00 D cA h H) (hlo : ∀ q ∈ locs, z ≤ q.base) (hl : lv_has ls (sm_maxL M) (sm_ml z b lv)) (hd : sm_ok M (pc, .ior, i1, i2)) (hs : sm_p (some (L, xs)) (sm_maxL M) pc (.ior) i1 i2 lv st h = some (pc', lv', st'))
    (kC : ∀ ls' : Array Slot, lv_has ls' (sm_maxL M) (sm_ml z b lv') → W p l e R s m args below meth c H locs cells slots Q (F0 m pc' ls' (st'.map (sm_rv z b)))) : W p l e R s m args below meth c H locs cells slots Q (F0 m pc ls (st.map (sm_rv z b))) := by
  have hs : (sm_ii st (fun x y r => some (pc + 1, lv, .int (x ||| y) :: r))) = some (pc', lv', st') := hs
  have hd : decode (sm_code M) pc = .ok (.ior, 1) := hd
  obtain ⟨x, y, r, rfl, e1⟩ := sm_ii_inv hs
  cases e1
  exact lv_ior hF.1 hF.2.1 hd (kC ls hl)
theorem sp_ixor  (hF : sm_Fr z b L xs H00 D cA p s m meth c M) (hR : sm_R z b H00 D cA h H) (hlo : ∀ q ∈ locs, z ≤ q.base) (hl : lv_has ls (sm_maxL M) (sm_ml z b lv)) (hd : sm_ok M (pc, .ixor, i1, i2)) (hs : sm_p (some (L, xs)) (sm_maxL M) pc (.ixor) i1 i2 lv st h = some (pc', lv', st'))
    (kC : ∀ ls' : Array Slot, lv_has ls' (sm_maxL M) (sm_ml z b lv') → W p l e R s m args below meth c H locs cells slots Q (F0 m pc' ls' (st'.map (sm_rv z b)))) : W p l e R s m args below meth c H locs cells slots Q (F0 m pc ls (st.map (sm_rv z b))) := by
  have hs : (sm_ii st (fun x y r => some (pc + 1, lv, .int (x ^^^ y) :: r))) = some (pc', lv', st') := hs
  have hd : decode (sm_code M) pc = .ok (.ixor, 1) := hd
  obtain ⟨x, y, r, rfl, e1⟩ := sm_ii_inv hs
  cases e1
  exact lv_ixor hF.1 hF.2.1 hd (kC ls hl)
theorem sp_ishl  (hF : sm_Fr z b L xs H00 D cA p s m meth c M) (hR : sm_R z b H00 D cA h H) (hlo : ∀ q ∈ locs, z ≤ q.base) (hl : lv_has ls (sm_maxL M) (sm_ml z b lv)) (hd : sm_ok M (pc, .ishl, i1, i2)) (hs : sm_p (some (L, xs)) (sm_maxL M) pc (.ishl) i1 i2 lv st h = some (pc', lv', st'))
    (kC : ∀ ls' : Array Slot, lv_has ls' (sm_maxL M) (sm_ml z b lv') → W p l e R s m args below meth c H locs cells slots Q (F0 m pc' ls' (st'.map (sm_rv z b)))) : W p l e R s m args below meth c H locs cells slots Q (F0 m pc ls (st.map (sm_rv z b))) := by
  have hs : (sm_ii st (fun x y r => some (pc + 1, lv, .int (x <<< (y &&& 31)) :: r))) = some (pc', lv', st') := hs
  have hd : decode (sm_code M) pc = .ok (.ishl, 1) := hd
  obtain ⟨x, y, r, rfl, e1⟩ := sm_ii_inv hs
  cases e1
  exact lv_ishl hF.1 hF.2.1 hd (kC ls hl)
theorem sp_ishr  (hF : sm_Fr z b L xs H00 D cA p s m meth c M) (hR : sm_R z b H00 D cA h H) (hlo : ∀ q ∈ locs, z ≤ q.base) (hl : lv_has ls (sm_maxL M) (sm_ml z b lv)) (hd : sm_ok M (pc, .ishr, i1, i2)) (hs : sm_p (some (L, xs)) (sm_maxL M) pc (.ishr) i1 i2 lv st h = some (pc', lv', st'))
    (kC : ∀ ls' : Array Slot, lv_has ls' (sm_maxL M) (sm_ml z b lv') → W p l e R s m args below meth c H locs cells slots Q (F0 m pc' ls' (st'.map (sm_rv z b)))) : W p l e R s m args below meth c H locs cells slots Q (F0 m pc ls (st.map (sm_rv z b))) := by
  have hs : (sm_ii st (fun x y r => some (pc + 1, lv, .int (x >>> (y &&& 31)) :: r))) = some (pc', lv', st') := hs
  have hd : decode (sm_code M) pc = .ok (.ishr, 1) := hd
  obtain ⟨x, y, r, rfl, e1⟩ := sm_ii_inv hs
  cases e1
  exact lv_ishr hF.1 hF.2.1 hd (kC ls hl)
theorem sp_idiv  (hF : sm_Fr z b L xs H00 D cA p s m meth c M) (hR : sm_R z b H00 D cA h H) (hlo : ∀ q ∈ locs, z ≤ q.base) (hl : lv_has ls (sm_maxL M) (sm_ml z b lv)) (hd : sm_ok M (pc, .idiv, i1, i2)) (hs : sm_p (some (L, xs)) (sm_maxL M) pc (.idiv) i1 i2 lv st h = some (pc', lv', st'))
    (kC : ∀ ls' : Array Slot, lv_has ls' (sm_maxL M) (sm_ml z b lv') → W p l e R s m args below meth c H locs cells slots Q (F0 m pc' ls' (st'.map (sm_rv z b)))) : W p l e R s m args below meth c H locs cells slots Q (F0 m pc ls (st.map (sm_rv z b))) := by
  have hs : (sm_ii st (fun x y r => if y = 0 then none else some (pc + 1, lv, .int (x / y) :: r))) = some (pc', lv', st') := hs
  have hd : decode (sm_code M) pc = .ok (.idiv, 1) := hd
  obtain ⟨x, y, r, rfl, e1⟩ := sm_ii_inv hs
  obtain ⟨hn, e2⟩ := sm_if_inv e1
  cases e2
  exact lv_idiv hF.1 hF.2.1 hd hn (kC ls hl)
theorem sp_irem  (hF : sm_Fr z b L xs H00 D cA p s m meth c M) (hR : sm_R z b H00 D cA h H) (hlo : ∀ q ∈ locs, z ≤ q.base) (hl : lv_has ls (sm_maxL M) (sm_ml z b lv)) (hd : sm_ok M (pc, .irem, i1, i2)) (hs : sm_p (some (L, xs)) (sm_maxL M) pc (.irem) i1 i2 lv st h = some (pc', lv', st'))
    (kC : ∀ ls' : Array Slot, lv_has ls' (sm_maxL M) (sm_ml z b lv') → W p l e R s m args below meth c H locs cells slots Q (F0 m pc' ls' (st'.map (sm_rv z b)))) : W p l e R s m args below meth c H locs cells slots Q (F0 m pc ls (st.map (sm_rv z b))) := by
  have hs : (sm_ii st (fun x y r => if y = 0 then none else some (pc + 1, lv, .int (x - x / y * y) :: r))) = some (pc', lv', st') := hs
  have hd : decode (sm_code M) pc = .ok (.irem, 1) := hd
  obtain ⟨x, y, r, rfl, e1⟩ := sm_ii_inv hs
  obtain ⟨hn, e2⟩ := sm_if_inv e1
  cases e2
  exact lv_irem hF.1 hF.2.1 hd hn (kC ls hl)
theorem sp_ineg  (hF : sm_Fr z b L xs H00 D cA p s m meth c M) (hR : sm_R z b H00 D cA h H) (hlo : ∀ q ∈ locs, z ≤ q.base) (hl : lv_has ls (sm_maxL M) (sm_ml z b lv)) (hd : sm_ok M (pc, .ineg, i1, i2)) (hs : sm_p (some (L, xs)) (sm_maxL M) pc (.ineg) i1 i2 lv st h = some (pc', lv', st'))
    (kC : ∀ ls' : Array Slot, lv_has ls' (sm_maxL M) (sm_ml z b lv') → W p l e R s m args below meth c H locs cells slots Q (F0 m pc' ls' (st'.map (sm_rv z b)))) : W p l e R s m args below meth c H locs cells slots Q (F0 m pc ls (st.map (sm_rv z b))) := by
  have hs : (sm_i st (fun x r => some (pc + 1, lv, .int (-x) :: r))) = some (pc', lv', st') := hs
  have hd : decode (sm_code M) pc = .ok (.ineg, 1) := hd
  obtain ⟨x, r, rfl, e1⟩ := sm_i_inv hs
  cases e1
  exact lv_ineg hF.1 hF.2.1 hd (kC ls hl)
theorem sp_ladd  (hF : sm_Fr z b L xs H00 D cA p s m meth c M) (hR : sm_R z b H00 D cA h H) (hlo : ∀ q ∈ locs, z ≤ q.base) (hl : lv_has ls (sm_maxL M) (sm_ml z b lv)) (hd : sm_ok M (pc, .ladd, i1, i2)) (hs : sm_p (some (L, xs)) (sm_maxL M) pc (.ladd) i1 i2 lv st h = some (pc', lv', st'))
    (kC : ∀ ls' : Array Slot, lv_has ls' (sm_maxL M) (sm_ml z b lv') → W p l e R s m args below meth c H locs cells slots Q (F0 m pc' ls' (st'.map (sm_rv z b)))) : W p l e R s m args below meth c H locs cells slots Q (F0 m pc ls (st.map (sm_rv z b))) := by
  have hs : (sm_ll st (fun x y r => some (pc + 1, lv, .long (x + y) :: r))) = some (pc', lv', st') := hs
  have hd : decode (sm_code M) pc = .ok (.ladd, 1) := hd
  obtain ⟨x, y, r, rfl, e1⟩ := sm_ll_inv hs
  cases e1
  exact lv_ladd hF.1 hF.2.1 hd (kC ls hl)
theorem sp_lsub  (hF : sm_Fr z b L xs H00 D cA p s m meth c M) (hR : sm_R z b H00 D cA h H) (hlo : ∀ q ∈ locs, z ≤ q.base) (hl : lv_has ls (sm_maxL M) (sm_ml z b lv)) (hd : sm_ok M (pc, .lsub, i1, i2)) (hs : sm_p (some (L, xs)) (sm_maxL M) pc (.lsub) i1 i2 lv st h = some (pc', lv', st'))
    (kC : ∀ ls' : Array Slot, lv_has ls' (sm_maxL M) (sm_ml z b lv') → W p l e R s m args below meth c H locs cells slots Q (F0 m pc' ls' (st'.map (sm_rv z b)))) : W p l e R s m args below meth c H locs cells slots Q (F0 m pc ls (st.map (sm_rv z b))) := by
  have hs : (sm_ll st (fun x y r => some (pc + 1, lv, .long (x - y) :: r))) = some (pc', lv', st') := hs
  have hd : decode (sm_code M) pc = .ok (.lsub, 1) := hd
  obtain ⟨x, y, r, rfl, e1⟩ := sm_ll_inv hs
  cases e1
  exact lv_lsub hF.1 hF.2.1 hd (kC ls hl)
theorem sp_lmul  (hF : sm_Fr z b L xs H00 D cA p s m meth c M) (hR : sm_R z b H00 D cA h H) (hlo : ∀ q ∈ locs, z ≤ q.base) (hl : lv_has ls (sm_maxL M) (sm_ml z b lv)) (hd : sm_ok M (pc, .lmul, i1, i2)) (hs : sm_p (some (L, xs)) (sm_maxL M) pc (.lmul) i1 i2 lv st h = some (pc', lv', st'))
    (kC : ∀ ls' : Array Slot, lv_has ls' (sm_maxL M) (sm_ml z b lv') → W p l e R s m args below meth c H locs cells slots Q (F0 m pc' ls' (st'.map (sm_rv z b)))) : W p l e R s m args below meth c H locs cells slots Q (F0 m pc ls (st.map (sm_rv z b))) := by
  have hs : (sm_ll st (fun x y r => some (pc + 1, lv, .long (x * y) :: r))) = some (pc', lv', st') := hs
  have hd : decode (sm_code M) pc = .ok (.lmul, 1) := hd
  obtain ⟨x, y, r, rfl, e1⟩ := sm_ll_inv hs
  cases e1
  exact lv_lmul hF.1 hF.2.1 hd (kC ls hl)
theorem sp_land  (hF : sm_Fr z b L xs H00 D cA p s m meth c M) (hR : sm_R z b H00 D cA h H) (hlo : ∀ q ∈ locs, z ≤ q.base) (hl : lv_has ls (sm_maxL M) (sm_ml z b lv)) (hd : sm_ok M (pc, .land, i1, i2)) (hs : sm_p (some (L, xs)) (sm_maxL M) pc (.land) i1 i2 lv st h = some (pc', lv', st'))
    (kC : ∀ ls' : Array Slot, lv_has ls' (sm_maxL M) (sm_ml z b lv') → W p l e R s m args below meth c H locs cells slots Q (F0 m pc' ls' (st'.map (sm_rv z b)))) : W p l e R s m args below meth c H locs cells slots Q (F0 m pc ls (st.map (sm_rv z b))) := by
  have hs : (sm_ll st (fun x y r => some (pc + 1, lv, .long (x &&& y) :: r))) = some (pc', lv', st') := hs
  have hd : decode (sm_code M) pc = .ok (.land, 1) := hd
  obtain ⟨x, y, r, rfl, e1⟩ := sm_ll_inv hs
  cases e1
  exact lv_land hF.1 hF.2.1 hd (kC ls hl)
theorem sp_lor  (hF : sm_Fr z b L xs H00 D cA p s m meth c M) (hR : sm_R z b H00 D cA h H) (hlo : ∀ q ∈ locs, z ≤ q.base) (hl : lv_has ls (sm_maxL M) (sm_ml z b lv)) (hd : sm_ok M (pc, .lor, i1, i2)) (hs : sm_p (some (L, xs)) (sm_maxL M) pc (.lor) i1 i2 lv st h = some (pc', lv', st'))
    (kC : ∀ ls' : Array Slot, lv_has ls' (sm_maxL M) (sm_ml z b lv') → W p l e R s m args below meth c H locs cells slots Q (F0 m pc' ls' (st'.map (sm_rv z b)))) : W p l e R s m args below meth c H locs cells slots Q (F0 m pc ls (st.map (sm_rv z b))) := by
  have hs : (sm_ll st (fun x y r => some (pc + 1, lv, .long (x ||| y) :: r))) = some (pc', lv', st') := hs
  have hd : decode (sm_code M) pc = .ok (.lor, 1) := hd
  obtain ⟨x, y, r, rfl, e1⟩ := sm_ll_inv hs
  cases e1
  exact lv_lor hF.1 hF.2.1 hd (kC ls hl)
theorem sp_ldiv  (hF : sm_Fr z b L xs H00 D cA p s m meth c M) (hR : sm_R z b H00 D cA h H) (hlo : ∀ q ∈ locs, z ≤ q.base) (hl : lv_has ls (sm_maxL M) (sm_ml z b lv)) (hd : sm_ok M (pc, .ldiv, i1, i2)) (hs : sm_p (some (L, xs)) (sm_maxL M) pc (.ldiv) i1 i2 lv st h = some (pc', lv', st'))
    (kC : ∀ ls' : Array Slot, lv_has ls' (sm_maxL M) (sm_ml z b lv') → W p l e R s m args below meth c H locs cells slots Q (F0 m pc' ls' (st'.map (sm_rv z b)))) : W p l e R s m args below meth c H locs cells slots Q (F0 m pc ls (st.map (sm_rv z b))) := by
  have hs : (sm_ll st (fun x y r => if y = 0 then none else some (pc + 1, lv, .long (x / y) :: r))) = some (pc', lv', st') := hs
  have hd : decode (sm_code M) pc = .ok (.ldiv, 1) := hd
  obtain ⟨x, y, r, rfl, e1⟩ := sm_ll_inv hs
  obtain ⟨hn, e2⟩ := sm_if_inv e1
  cases e2
  exact lv_ldiv hF.1 hF.2.1 hd hn (kC ls hl)
theorem sp_lneg  (hF : sm_Fr z b L xs H00 D cA p s m meth c M) (hR : sm_R z b H00 D cA h H) (hlo : ∀ q ∈ locs, z ≤ q.base) (hl : lv_has ls (sm_maxL M) (sm_ml z b lv)) (hd : sm_ok M (pc, .lneg, i1, i2)) (hs : sm_p (some (L, xs)) (sm_maxL M) pc (.lneg) i1 i2 lv st h = some (pc', lv', st'))
    (kC : ∀ ls' : Array Slot, lv_has ls' (sm_maxL M) (sm_ml z b lv') → W p l e R s m args below meth c H locs cells slots Q (F0 m pc' ls' (st'.map (sm_rv z b)))) : W p l e R s m args below meth c H locs cells slots Q (F0 m pc ls (st.map (sm_rv z b))) := by
  have hs : (sm_l st (fun x r => some (pc + 1, lv, .long (-x) :: r))) = some (pc', lv', st') := hs
  have hd : decode (sm_code M) pc = .ok (.lneg, 1) := hd
  obtain ⟨x, r, rfl, e1⟩ := sm_l_inv hs
  cases e1
  exact lv_lneg hF.1 hF.2.1 hd (kC ls hl)
theorem sp_lcmp  (hF : sm_Fr z b L xs H00 D cA p s m meth c M) (hR : sm_R z b H00 D cA h H) (hlo : ∀ q ∈ locs, z ≤ q.base) (hl : lv_has ls (sm_maxL M) (sm_ml z b lv)) (hd : sm_ok M (pc, .lcmp, i1, i2)) (hs : sm_p (some (L, xs)) (sm_maxL M) pc (.lcmp) i1 i2 lv st h = some (pc', lv', st'))
    (kC : ∀ ls' : Array Slot, lv_has ls' (sm_maxL M) (sm_ml z b lv') → W p l e R s m args below meth c H locs cells slots Q (F0 m pc' ls' (st'.map (sm_rv z b)))) : W p l e R s m args below meth c H locs cells slots Q (F0 m pc ls (st.map (sm_rv z b))) := by
  have hs : (sm_ll st (fun x y r => some (pc + 1, lv, .int (lg_cmp x y) :: r))) = some (pc', lv', st') := hs
  have hd : decode (sm_code M) pc = .ok (.lcmp, 1) := hd
  obtain ⟨x, y, r, rfl, e1⟩ := sm_ll_inv hs
  cases e1
  exact W.lcmp hF.1 hF.2.1 hd (kC ls hl)
theorem sp_lshl  (hF : sm_Fr z b L xs H00 D cA p s m meth c M) (hR : sm_R z b H00 D cA h H) (hlo : ∀ q ∈ locs, z ≤ q.base) (hl : lv_has ls (sm_maxL M) (sm_ml z b lv)) (hd : sm_ok M (pc, .lshl, i1, i2)) (hs : sm_p (some (L, xs)) (sm_maxL M) pc (.lshl) i1 i2 lv st h = some (pc', lv', st'))
    (kC : ∀ ls' : Array Slot, lv_has ls' (sm_maxL M) (sm_ml z b lv') → W p l e R s m args below meth c H locs cells slots Q (F0 m pc' ls' (st'.map (sm_rv z b)))) : W p l e R s m args below meth c H locs cells slots Q (F0 m pc ls (st.map (sm_rv z b))) := by
  have hs : (sm_li st (fun x y r => some (pc + 1, lv, .long (x <<< (y.toInt64 &&& 63)) :: r))) = some (pc', lv', st') := hs
  have hd : decode (sm_code M) pc = .ok (.lshl, 1) := hd
  obtain ⟨x, y, r, rfl, e1⟩ := sm_li_inv hs
  cases e1
  exact lv_lshl hF.1 hF.2.1 hd rfl (kC ls hl)
theorem sp_i2l  (hF : sm_Fr z b L xs H00 D cA p s m meth c M) (hR : sm_R z b H00 D cA h H) (hlo : ∀ q ∈ locs, z ≤ q.base) (hl : lv_has ls (sm_maxL M) (sm_ml z b lv)) (hd : sm_ok M (pc, .i2l, i1, i2)) (hs : sm_p (some (L, xs)) (sm_maxL M) pc (.i2l) i1 i2 lv st h = some (pc', lv', st'))
    (kC : ∀ ls' : Array Slot, lv_has ls' (sm_maxL M) (sm_ml z b lv') → W p l e R s m args below meth c H locs cells slots Q (F0 m pc' ls' (st'.map (sm_rv z b)))) : W p l e R s m args below meth c H locs cells slots Q (F0 m pc ls (st.map (sm_rv z b))) := by
  have hs : (sm_i st (fun x r => some (pc + 1, lv, .long x.toInt64 :: r))) = some (pc', lv', st') := hs
  have hd : decode (sm_code M) pc = .ok (.i2l, 1) := hd
  obtain ⟨x, r, rfl, e1⟩ := sm_i_inv hs
  cases e1
  exact lv_i2l hF.1 hF.2.1 hd rfl (kC ls hl)
theorem sp_l2i  (hF : sm_Fr z b L xs H00 D cA p s m meth c M) (hR : sm_R z b H00 D cA h H) (hlo : ∀ q ∈ locs, z ≤ q.base) (hl : lv_has ls (sm_maxL M) (sm_ml z b lv)) (hd : sm_ok M (pc, .l2i, i1, i2)) (hs : sm_p (some (L, xs)) (sm_maxL M) pc (.l2i) i1 i2 lv st h = some (pc', lv', st'))
    (kC : ∀ ls' : Array Slot, lv_has ls' (sm_maxL M) (sm_ml z b lv') → W p l e R s m args below meth c H locs cells slots Q (F0 m pc' ls' (st'.map (sm_rv z b)))) : W p l e R s m args below meth c H locs cells slots Q (F0 m pc ls (st.map (sm_rv z b))) := by
  have hs : (sm_l st (fun x r => some (pc + 1, lv, .int x.toInt32 :: r))) = some (pc', lv', st') := hs
  have hd : decode (sm_code M) pc = .ok (.l2i, 1) := hd
  obtain ⟨x, r, rfl, e1⟩ := sm_l_inv hs
  cases e1
  exact lv_l2i hF.1 hF.2.1 hd rfl (kC ls hl)
theorem sp_i2b  (hF : sm_Fr z b L xs H00 D cA p s m meth c M) (hR : sm_R z b H00 D cA h H) (hlo : ∀ q ∈ locs, z ≤ q.base) (hl : lv_has ls (sm_maxL M) (sm_ml z b lv)) (hd : sm_ok M (pc, .i2b, i1, i2)) (hs : sm_p (some (L, xs)) (sm_maxL M) pc (.i2b) i1 i2 lv st h = some (pc', lv', st'))
    (kC : ∀ ls' : Array Slot, lv_has ls' (sm_maxL M) (sm_ml z b lv') → W p l e R s m args below meth c H locs cells slots Q (F0 m pc' ls' (st'.map (sm_rv z b)))) : W p l e R s m args below meth c H locs cells slots Q (F0 m pc ls (st.map (sm_rv z b))) := by
  have hs : (sm_i st (fun x r => some (pc + 1, lv, .int x.toInt8.toInt32 :: r))) = some (pc', lv', st') := hs
  have hd : decode (sm_code M) pc = .ok (.i2b, 1) := hd
  obtain ⟨x, r, rfl, e1⟩ := sm_i_inv hs
  cases e1
  exact lv_i2b hF.1 hF.2.1 hd rfl (kC ls hl)
theorem sp_i2c  (hF : sm_Fr z b L xs H00 D cA p s m meth c M) (hR : sm_R z b H00 D cA h H) (hlo : ∀ q ∈ locs, z ≤ q.base) (hl : lv_has ls (sm_maxL M) (sm_ml z b lv)) (hd : sm_ok M (pc, .i2c, i1, i2)) (hs : sm_p (some (L, xs)) (sm_maxL M) pc (.i2c) i1 i2 lv st h = some (pc', lv', st'))
    (kC : ∀ ls' : Array Slot, lv_has ls' (sm_maxL M) (sm_ml z b lv') → W p l e R s m args below meth c H locs cells slots Q (F0 m pc' ls' (st'.map (sm_rv z b)))) : W p l e R s m args below meth c H locs cells slots Q (F0 m pc ls (st.map (sm_rv z b))) := by
  have hs : (sm_i st (fun x r => some (pc + 1, lv, .int (x.toUInt32 % 65536).toInt32 :: r))) = some (pc', lv', st') := hs
  have hd : decode (sm_code M) pc = .ok (.i2c, 1) := hd
  obtain ⟨x, r, rfl, e1⟩ := sm_i_inv hs
  cases e1
  exact lv_i2c hF.1 hF.2.1 hd rfl (kC ls hl)
theorem sp_dup  (hF : sm_Fr z b L xs H00 D cA p s m meth c M) (hR : sm_R z b H00 D cA h H) (hlo : ∀ q ∈ locs, z ≤ q.base) (hl : lv_has ls (sm_maxL M) (sm_ml z b lv)) (hd : sm_ok M (pc, .dup, i1, i2)) (hs : sm_p (some (L, xs)) (sm_maxL M) pc (.dup) i1 i2 lv st h = some (pc', lv', st'))
    (kC : ∀ ls' : Array Slot, lv_has ls' (sm_maxL M) (sm_ml z b lv') → W p l e R s m args below meth c H locs cells slots Q (F0 m pc' ls' (st'.map (sm_rv z b)))) : W p l e R s m args below meth c H locs cells slots Q (F0 m pc ls (st.map (sm_rv z b))) := by
  have hs : (sm_v st (fun v r => bif Nat.beq v.category 1 then some (pc + 1, lv, v :: v :: r) else none)) = some (pc', lv', st') := hs
  have hd : decode (sm_code M) pc = .ok (.dup, 1) := hd
  obtain ⟨v, r, rfl, e1⟩ := sm_v_inv hs
  obtain ⟨hb, e2⟩ := sm_b_inv e1
  cases e2
  exact lv_dup hF.1 hF.2.1 hd ((sm_rv_cat z b v).trans (sm_beq hb)) (kC ls hl)
theorem sp_pop  (hF : sm_Fr z b L xs H00 D cA p s m meth c M) (hR : sm_R z b H00 D cA h H) (hlo : ∀ q ∈ locs, z ≤ q.base) (hl : lv_has ls (sm_maxL M) (sm_ml z b lv)) (hd : sm_ok M (pc, .pop, i1, i2)) (hs : sm_p (some (L, xs)) (sm_maxL M) pc (.pop) i1 i2 lv st h = some (pc', lv', st'))
    (kC : ∀ ls' : Array Slot, lv_has ls' (sm_maxL M) (sm_ml z b lv') → W p l e R s m args below meth c H locs cells slots Q (F0 m pc' ls' (st'.map (sm_rv z b)))) : W p l e R s m args below meth c H locs cells slots Q (F0 m pc ls (st.map (sm_rv z b))) := by
  have hs : (sm_v st (fun v r => bif Nat.beq v.category 1 then some (pc + 1, lv, r) else none)) = some (pc', lv', st') := hs
  have hd : decode (sm_code M) pc = .ok (.pop, 1) := hd
  obtain ⟨v, r, rfl, e1⟩ := sm_v_inv hs
  obtain ⟨hb, e2⟩ := sm_b_inv e1
  cases e2
  exact lv_pop hF.1 hF.2.1 hd ((sm_rv_cat z b v).trans (sm_beq hb)) (kC ls hl)
theorem sp_dup2  (hF : sm_Fr z b L xs H00 D cA p s m meth c M) (hR : sm_R z b H00 D cA h H) (hlo : ∀ q ∈ locs, z ≤ q.base) (hl : lv_has ls (sm_maxL M) (sm_ml z b lv)) (hd : sm_ok M (pc, .dup2, i1, i2)) (hs : sm_p (some (L, xs)) (sm_maxL M) pc (.dup2) i1 i2 lv st h = some (pc', lv', st'))
    (kC : ∀ ls' : Array Slot, lv_has ls' (sm_maxL M) (sm_ml z b lv') → W p l e R s m args below meth c H locs cells slots Q (F0 m pc' ls' (st'.map (sm_rv z b)))) : W p l e R s m args below meth c H locs cells slots Q (F0 m pc ls (st.map (sm_rv z b))) := by
  have hs : (sm_v st (fun v r => sm_v r (fun u r => bif Nat.beq v.category 1 && Nat.beq u.category 1 then some (pc + 1, lv, v :: u :: v :: u :: r) else none))) = some (pc', lv', st') := hs
  have hd : decode (sm_code M) pc = .ok (.dup2, 1) := hd
  obtain ⟨v, r, rfl, e1⟩ := sm_v_inv hs
  obtain ⟨u, r, rfl, e2⟩ := sm_v_inv e1
  obtain ⟨hb, e3⟩ := sm_b_inv e2
  cases e3
  rw [Bool.and_eq_true] at hb
  exact lv_dup2_11 hF.1 hF.2.1 hd ((sm_rv_cat z b v).trans (sm_beq hb.1)) ((sm_rv_cat z b u).trans (sm_beq hb.2)) (kC ls hl)
theorem sp_dup_x1  (hF : sm_Fr z b L xs H00 D cA p s m meth c M) (hR : sm_R z b H00 D cA h H) (hlo : ∀ q ∈ locs, z ≤ q.base) (hl : lv_has ls (sm_maxL M) (sm_ml z b lv)) (hd : sm_ok M (pc, .dup_x1, i1, i2)) (hs : sm_p (some (L, xs)) (sm_maxL M) pc (.dup_x1) i1 i2 lv st h = some (pc', lv', st'))
    (kC : ∀ ls' : Array Slot, lv_has ls' (sm_maxL M) (sm_ml z b lv') → W p l e R s m args below meth c H locs cells slots Q (F0 m pc' ls' (st'.map (sm_rv z b)))) : W p l e R s m args below meth c H locs cells slots Q (F0 m pc ls (st.map (sm_rv z b))) := by
  have hs : (sm_v st (fun v r => sm_v r (fun u r => bif Nat.beq v.category 1 && Nat.beq u.category 1 then some (pc + 1, lv, v :: u :: v :: r) else none))) = some (pc', lv', st') := hs
  have hd : decode (sm_code M) pc = .ok (.dup_x1, 1) := hd
  obtain ⟨v, r, rfl, e1⟩ := sm_v_inv hs
  obtain ⟨u, r, rfl, e2⟩ := sm_v_inv e1
  obtain ⟨hb, e3⟩ := sm_b_inv e2
  cases e3
  rw [Bool.and_eq_true] at hb
  exact lv_dup_x1 hF.1 hF.2.1 hd ((sm_rv_cat z b v).trans (sm_beq hb.1)) ((sm_rv_cat z b u).trans (sm_beq hb.2)) (kC ls hl)
theorem sp_ifCond_eq {off : Int} (hF : sm_Fr z b L xs H00 D cA p s m meth c M) (hR : sm_R z b H00 D cA h H) (hlo : ∀ q ∈ locs, z ≤ q.base) (hl : lv_has ls (sm_maxL M) (sm_ml z b lv)) (hd : sm_ok M (pc, .ifCond .eq off, i1, i2)) (hs : sm_p (some (L, xs)) (sm_maxL M) pc (.ifCond .eq off) i1 i2 lv st h = some (pc', lv', st'))
    (kC : ∀ ls' : Array Slot, lv_has ls' (sm_maxL M) (sm_ml z b lv') → W p l e R s m args below meth c H locs cells slots Q (F0 m pc' ls' (st'.map (sm_rv z b)))) : W p l e R s m args below meth c H locs cells slots Q (F0 m pc ls (st.map (sm_rv z b))) := by
  have hs : (sm_i st (fun x r => if x = 0 then some (i1, lv, r) else some (pc + 3, lv, r))) = some (pc', lv', st') := hs
  have hd : decode (sm_code M) pc = .ok (.ifCond .eq off, 3) ∧ (pc : Int) + off = (i1 : Int) := hd
  obtain ⟨hd, ht⟩ := hd
  obtain ⟨x, r, rfl, e1⟩ := sm_i_inv hs
  refine lv_if_eq hF.1 hF.2.1 hd ht (fun hc => ?_) (fun hc => ?_)
  · rw [if_pos hc] at e1; cases e1; exact kC ls hl
  · rw [if_neg hc] at e1; cases e1; exact kC ls hl
theorem sp_if_icmp_eq {off : Int} (hF : sm_Fr z b L xs H00 D cA p s m meth c M) (hR : sm_R z b H00 D cA h H) (hlo : ∀ q ∈ locs, z ≤ q.base) (hl : lv_has ls (sm_maxL M) (sm_ml z b lv)) (hd : sm_ok M (pc, .if_icmp .eq off, i1, i2)) (hs : sm_p (some (L, xs)) (sm_maxL M) pc (.if_icmp .eq off) i1 i2 lv st h = some (pc', lv', st'))
    (kC : ∀ ls' : Array Slot, lv_has ls' (sm_maxL M) (sm_ml z b lv') → W p l e R s m args below meth c H locs cells slots Q (F0 m pc' ls' (st'.map (sm_rv z b)))) : W p l e R s m args below meth c H locs cells slots Q (F0 m pc ls (st.map (sm_rv z b))) := by
  have hs : (sm_ii st (fun x y r => if x = y then some (i1, lv, r) else some (pc + 3, lv, r))) = some (pc', lv', st') := hs
  have hd : decode (sm_code M) pc = .ok (.if_icmp .eq off, 3) ∧ (pc : Int) + off = (i1 : Int) := hd
  obtain ⟨hd, ht⟩ := hd
  obtain ⟨x, y, r, rfl, e1⟩ := sm_ii_inv hs
  refine lv_icmp_eq hF.1 hF.2.1 hd ht (fun hc => ?_) (fun hc => ?_)
  · rw [if_pos hc] at e1; cases e1; exact kC ls hl
  · rw [if_neg hc] at e1; cases e1; exact kC ls hl
theorem sp_ifCond_ne {off : Int} (hF : sm_Fr z b L xs H00 D cA p s m meth c M) (hR : sm_R z b H00 D cA h H) (hlo : ∀ q ∈ locs, z ≤ q.base) (hl : lv_has ls (sm_maxL M) (sm_ml z b lv)) (hd : sm_ok M (pc, .ifCond .ne off, i1, i2)) (hs : sm_p (some (L, xs)) (sm_maxL M) pc (.ifCond .ne off) i1 i2 lv st h = some (pc', lv', st'))
    (kC : ∀ ls' : Array Slot, lv_has ls' (sm_maxL M) (sm_ml z b lv') → W p l e R s m args below meth c H locs cells slots Q (F0 m pc' ls' (st'.map (sm_rv z b)))) : W p l e R s m args below meth c H locs cells slots Q (F0 m pc ls (st.map (sm_rv z b))) := by
  have hs : (sm_i st (fun x r => if x = 0 then some (pc + 3, lv, r) else some (i1, lv, r))) = some (pc', lv', st') := hs
  have hd : decode (sm_code M) pc = .ok (.ifCond .ne off, 3) ∧ (pc : Int) + off = (i1 : Int) := hd
  obtain ⟨hd, ht⟩ := hd
  obtain ⟨x, r, rfl, e1⟩ := sm_i_inv hs
  refine lv_if_ne hF.1 hF.2.1 hd ht (fun hc => ?_) (fun hc => ?_)
  · rw [if_neg hc] at e1; cases e1; exact kC ls hl
  · rw [if_pos hc] at e1; cases e1; exact kC ls hl
theorem sp_if_icmp_ne {off : Int} (hF : sm_Fr z b L xs H00 D cA p s m meth c M) (hR : sm_R z b H00 D cA h H) (hlo : ∀ q ∈ locs, z ≤ q.base) (hl : lv_has ls (sm_maxL M) (sm_ml z b lv)) (hd : sm_ok M (pc, .if_icmp .ne off, i1, i2)) (hs : sm_p (some (L, xs)) (sm_maxL M) pc (.if_icmp .ne off) i1 i2 lv st h = some (pc', lv', st'))
    (kC : ∀ ls' : Array Slot, lv_has ls' (sm_maxL M) (sm_ml z b lv') → W p l e R s m args below meth c H locs cells slots Q (F0 m pc' ls' (st'.map (sm_rv z b)))) : W p l e R s m args below meth c H locs cells slots Q (F0 m pc ls (st.map (sm_rv z b))) := by
  have hs : (sm_ii st (fun x y r => if x = y then some (pc + 3, lv, r) else some (i1, lv, r))) = some (pc', lv', st') := hs
  have hd : decode (sm_code M) pc = .ok (.if_icmp .ne off, 3) ∧ (pc : Int) + off = (i1 : Int) := hd
  obtain ⟨hd, ht⟩ := hd
  obtain ⟨x, y, r, rfl, e1⟩ := sm_ii_inv hs
  refine lv_icmp_ne hF.1 hF.2.1 hd ht (fun hc => ?_) (fun hc => ?_)
  · rw [if_neg hc] at e1; cases e1; exact kC ls hl
  · rw [if_pos hc] at e1; cases e1; exact kC ls hl
theorem sp_ifCond_lt {off : Int} (hF : sm_Fr z b L xs H00 D cA p s m meth c M) (hR : sm_R z b H00 D cA h H) (hlo : ∀ q ∈ locs, z ≤ q.base) (hl : lv_has ls (sm_maxL M) (sm_ml z b lv)) (hd : sm_ok M (pc, .ifCond .lt off, i1, i2)) (hs : sm_p (some (L, xs)) (sm_maxL M) pc (.ifCond .lt off) i1 i2 lv st h = some (pc', lv', st'))
    (kC : ∀ ls' : Array Slot, lv_has ls' (sm_maxL M) (sm_ml z b lv') → W p l e R s m args below meth c H locs cells slots Q (F0 m pc' ls' (st'.map (sm_rv z b)))) : W p l e R s m args below meth c H locs cells slots Q (F0 m pc ls (st.map (sm_rv z b))) := by
  have hs : (sm_i st (fun x r => if x < 0 then some (i1, lv, r) else some (pc + 3, lv, r))) = some (pc', lv', st') := hs
  have hd : decode (sm_code M) pc = .ok (.ifCond .lt off, 3) ∧ (pc : Int) + off = (i1 : Int) := hd
  obtain ⟨hd, ht⟩ := hd
  obtain ⟨x, r, rfl, e1⟩ := sm_i_inv hs
  refine lv_if_lt hF.1 hF.2.1 hd ht (fun hc => ?_) (fun hc => ?_)
  · rw [if_pos hc] at e1; cases e1; exact kC ls hl
  · rw [if_neg hc] at e1; cases e1; exact kC ls hl
theorem sp_if_icmp_lt {off : Int} (hF : sm_Fr z b L xs H00 D cA p s m meth c M) (hR : sm_R z b H00 D cA h H) (hlo : ∀ q ∈ locs, z ≤ q.base) (hl : lv_has ls (sm_maxL M) (sm_ml z b lv)) (hd : sm_ok M (pc, .if_icmp .lt off, i1, i2)) (hs : sm_p (some (L, xs)) (sm_maxL M) pc (.if_icmp .lt off) i1 i2 lv st h = some (pc', lv', st'))
    (kC : ∀ ls' : Array Slot, lv_has ls' (sm_maxL M) (sm_ml z b lv') → W p l e R s m args below meth c H locs cells slots Q (F0 m pc' ls' (st'.map (sm_rv z b)))) : W p l e R s m args below meth c H locs cells slots Q (F0 m pc ls (st.map (sm_rv z b))) := by
  have hs : (sm_ii st (fun x y r => if x < y then some (i1, lv, r) else some (pc + 3, lv, r))) = some (pc', lv', st') := hs
  have hd : decode (sm_code M) pc = .ok (.if_icmp .lt off, 3) ∧ (pc : Int) + off = (i1 : Int) := hd
  obtain ⟨hd, ht⟩ := hd
  obtain ⟨x, y, r, rfl, e1⟩ := sm_ii_inv hs
  refine lv_icmp_lt hF.1 hF.2.1 hd ht (fun hc => ?_) (fun hc => ?_)
  · rw [if_pos hc] at e1; cases e1; exact kC ls hl
  · rw [if_neg hc] at e1; cases e1; exact kC ls hl
theorem sp_ifCond_ge {off : Int} (hF : sm_Fr z b L xs H00 D cA p s m meth c M) (hR : sm_R z b H00 D cA h H) (hlo : ∀ q ∈ locs, z ≤ q.base) (hl : lv_has ls (sm_maxL M) (sm_ml z b lv)) (hd : sm_ok M (pc, .ifCond .ge off, i1, i2)) (hs : sm_p (some (L, xs)) (sm_maxL M) pc (.ifCond .ge off) i1 i2 lv st h = some (pc', lv', st'))
    (kC : ∀ ls' : Array Slot, lv_has ls' (sm_maxL M) (sm_ml z b lv') → W p l e R s m args below meth c H locs cells slots Q (F0 m pc' ls' (st'.map (sm_rv z b)))) : W p l e R s m args below meth c H locs cells slots Q (F0 m pc ls (st.map (sm_rv z b))) := by
  have hs : (sm_i st (fun x r => if 0 ≤ x then some (i1, lv, r) else some (pc + 3, lv, r))) = some (pc', lv', st') := hs
  have hd : decode (sm_code M) pc = .ok (.ifCond .ge off, 3) ∧ (pc : Int) + off = (i1 : Int) := hd
  obtain ⟨hd, ht⟩ := hd
  obtain ⟨x, r, rfl, e1⟩ := sm_i_inv hs
  refine lv_if_ge hF.1 hF.2.1 hd ht (fun hc => ?_) (fun hc => ?_)
  · rw [if_pos hc] at e1; cases e1; exact kC ls hl
  · rw [if_neg hc] at e1; cases e1; exact kC ls hl
theorem sp_if_icmp_ge {off : Int} (hF : sm_Fr z b L xs H00 D cA p s m meth c M) (hR : sm_R z b H00 D cA h H) (hlo : ∀ q ∈ locs, z ≤ q.base) (hl : lv_has ls (sm_maxL M) (sm_ml z b lv)) (hd : sm_ok M (pc, .if_icmp .ge off, i1, i2)) (hs : sm_p (some (L, xs)) (sm_maxL M) pc (.if_icmp .ge off) i1 i2 lv st h = some (pc', lv', st'))
    (kC : ∀ ls' : Array Slot, lv_has ls' (sm_maxL M) (sm_ml z b lv') → W p l e R s m args below meth c H locs cells slots Q (F0 m pc' ls' (st'.map (sm_rv z b)))) : W p l e R s m args below meth c H locs cells slots Q (F0 m pc ls (st.map (sm_rv z b))) := by
  have hs : (sm_ii st (fun x y r => if y ≤ x then some (i1, lv, r) else some (pc + 3, lv, r))) = some (pc', lv', st') := hs
  have hd : decode (sm_code M) pc = .ok (.if_icmp .ge off, 3) ∧ (pc : Int) + off = (i1 : Int) := hd
  obtain ⟨hd, ht⟩ := hd
  obtain ⟨x, y, r, rfl, e1⟩ := sm_ii_inv hs
  refine lv_icmp_ge hF.1 hF.2.1 hd ht (fun hc => ?_) (fun hc => ?_)
  · rw [if_pos hc] at e1; cases e1; exact kC ls hl
  · rw [if_neg hc] at e1; cases e1; exact kC ls hl
theorem sp_ifCond_gt {off : Int} (hF : sm_Fr z b L xs H00 D cA p s m meth c M) (hR : sm_R z b H00 D cA h H) (hlo : ∀ q ∈ locs, z ≤ q.base) (hl : lv_has ls (sm_maxL M) (sm_ml z b lv)) (hd : sm_ok M (pc, .ifCond .gt off, i1, i2)) (hs : sm_p (some (L, xs)) (sm_maxL M) pc (.ifCond .gt off) i1 i2 lv st h = some (pc', lv', st'))
    (kC : ∀ ls' : Array Slot, lv_has ls' (sm_maxL M) (sm_ml z b lv') → W p l e R s m args below meth c H locs cells slots Q (F0 m pc' ls' (st'.map (sm_rv z b)))) : W p l e R s m args below meth c H locs cells slots Q (F0 m pc ls (st.map (sm_rv z b))) := by
  have hs : (sm_i st (fun x r => if 0 < x then some (i1, lv, r) else some (pc + 3, lv, r))) = some (pc', lv', st') := hs
  have hd : decode (sm_code M) pc = .ok (.ifCond .gt off, 3) ∧ (pc : Int) + off = (i1 : Int) := hd
  obtain ⟨hd, ht⟩ := hd
  obtain ⟨x, r, rfl, e1⟩ := sm_i_inv hs
  refine lv_if_gt hF.1 hF.2.1 hd ht (fun hc => ?_) (fun hc => ?_)
  · rw [if_pos hc] at e1; cases e1; exact kC ls hl
  · rw [if_neg hc] at e1; cases e1; exact kC ls hl
theorem sp_if_icmp_gt {off : Int} (hF : sm_Fr z b L xs H00 D cA p s m meth c M) (hR : sm_R z b H00 D cA h H) (hlo : ∀ q ∈ locs, z ≤ q.base) (hl : lv_has ls (sm_maxL M) (sm_ml z b lv)) (hd : sm_ok M (pc, .if_icmp .gt off, i1, i2)) (hs : sm_p (some (L, xs)) (sm_maxL M) pc (.if_icmp .gt off) i1 i2 lv st h = some (pc', lv', st'))
    (kC : ∀ ls' : Array Slot, lv_has ls' (sm_maxL M) (sm_ml z b lv') → W p l e R s m args below meth c H locs cells slots Q (F0 m pc' ls' (st'.map (sm_rv z b)))) : W p l e R s m args below meth c H locs cells slots Q (F0 m pc ls (st.map (sm_rv z b))) := by
  have hs : (sm_ii st (fun x y r => if y < x then some (i1, lv, r) else some (pc + 3, lv, r))) = some (pc', lv', st') := hs
  have hd : decode (sm_code M) pc = .ok (.if_icmp .gt off, 3) ∧ (pc : Int) + off = (i1 : Int) := hd
  obtain ⟨hd, ht⟩ := hd
  obtain ⟨x, y, r, rfl, e1⟩ := sm_ii_inv hs
  refine lv_icmp_gt hF.1 hF.2.1 hd ht (fun hc => ?_) (fun hc => ?_)
  · rw [if_pos hc] at e1; cases e1; exact kC ls hl
  · rw [if_neg hc] at e1; cases e1; exact kC ls hl
theorem sp_ifCond_le {off : Int} (hF : sm_Fr z b L xs H00 D cA p s m meth c M) (hR : sm_R z b H00 D cA h H) (hlo : ∀ q ∈ locs, z ≤ q.base) (hl : lv_has ls (sm_maxL M) (sm_ml z b lv)) (hd : sm_ok M (pc, .ifCond .le off, i1, i2)) (hs : sm_p (some (L, xs)) (sm_maxL M) pc (.ifCond .le off) i1 i2 lv st h = some (pc', lv', st'))
    (kC : ∀ ls' : Array Slot, lv_has ls' (sm_maxL M) (sm_ml z b lv') → W p l e R s m args below meth c H locs cells slots Q (F0 m pc' ls' (st'.map (sm_rv z b)))) : W p l e R s m args below meth c H locs cells slots Q (F0 m pc ls (st.map (sm_rv z b))) := by
  have hs : (sm_i st (fun x r => if x ≤ 0 then some (i1, lv, r) else some (pc + 3, lv, r))) = some (pc', lv', st') := hs
  have hd : decode (sm_code M) pc = .ok (.ifCond .le off, 3) ∧ (pc : Int) + off = (i1 : Int) := hd
  obtain ⟨hd, ht⟩ := hd
  obtain ⟨x, r, rfl, e1⟩ := sm_i_inv hs
  refine lv_if_le hF.1 hF.2.1 hd ht (fun hc => ?_) (fun hc => ?_)
  · rw [if_pos hc] at e1; cases e1; exact kC ls hl
  · rw [if_neg hc] at e1; cases e1; exact kC ls hl
theorem sp_if_icmp_le {off : Int} (hF : sm_Fr z b L xs H00 D cA p s m meth c M) (hR : sm_R z b H00 D cA h H) (hlo : ∀ q ∈ locs, z ≤ q.base) (hl : lv_has ls (sm_maxL M) (sm_ml z b lv)) (hd : sm_ok M (pc, .if_icmp .le off, i1, i2)) (hs : sm_p (some (L, xs)) (sm_maxL M) pc (.if_icmp .le off) i1 i2 lv st h = some (pc', lv', st'))
    (kC : ∀ ls' : Array Slot, lv_has ls' (sm_maxL M) (sm_ml z b lv') → W p l e R s m args below meth c H locs cells slots Q (F0 m pc' ls' (st'.map (sm_rv z b)))) : W p l e R s m args below meth c H locs cells slots Q (F0 m pc ls (st.map (sm_rv z b))) := by
  have hs : (sm_ii st (fun x y r => if x ≤ y then some (i1, lv, r) else some (pc + 3, lv, r))) = some (pc', lv', st') := hs
  have hd : decode (sm_code M) pc = .ok (.if_icmp .le off, 3) ∧ (pc : Int) + off = (i1 : Int) := hd
  obtain ⟨hd, ht⟩ := hd
  obtain ⟨x, y, r, rfl, e1⟩ := sm_ii_inv hs
  refine lv_icmp_le hF.1 hF.2.1 hd ht (fun hc => ?_) (fun hc => ?_)
  · rw [if_pos hc] at e1; cases e1; exact kC ls hl
  · rw [if_neg hc] at e1; cases e1; exact kC ls hl
theorem sp_goto {off : Int} (hF : sm_Fr z b L xs H00 D cA p s m meth c M) (hR : sm_R z b H00 D cA h H) (hlo : ∀ q ∈ locs, z ≤ q.base) (hl : lv_has ls (sm_maxL M) (sm_ml z b lv)) (hd : sm_ok M (pc, .goto off, i1, i2)) (hs : sm_p (some (L, xs)) (sm_maxL M) pc (.goto off) i1 i2 lv st h = some (pc', lv', st'))
    (kC : ∀ ls' : Array Slot, lv_has ls' (sm_maxL M) (sm_ml z b lv') → W p l e R s m args below meth c H locs cells slots Q (F0 m pc' ls' (st'.map (sm_rv z b)))) : W p l e R s m args below meth c H locs cells slots Q (F0 m pc ls (st.map (sm_rv z b))) := by
  have hs : (some (i1, lv, st)) = some (pc', lv', st') := hs
  have hd : decode (sm_code M) pc = .ok (.goto off, 3) ∧ (pc : Int) + off = (i1 : Int) := hd
  obtain ⟨hd, ht⟩ := hd
  cases hs
  exact lv_goto hF.1 hF.2.1 hd ht (kC ls hl)
theorem sp_tableswitch {df lo hi : Int} {offs : Array Int} (hF : sm_Fr z b L xs H00 D cA p s m meth c M) (hR : sm_R z b H00 D cA h H) (hlo : ∀ q ∈ locs, z ≤ q.base) (hl : lv_has ls (sm_maxL M) (sm_ml z b lv)) (hd : sm_ok M (pc, .tableswitch df lo hi offs, i1, i2)) (hs : sm_p (some (L, xs)) (sm_maxL M) pc (.tableswitch df lo hi offs) i1 i2 lv st h = some (pc', lv', st'))
    (kC : ∀ ls' : Array Slot, lv_has ls' (sm_maxL M) (sm_ml z b lv') → W p l e R s m args below meth c H locs cells slots Q (F0 m pc' ls' (st'.map (sm_rv z b)))) : W p l e R s m args below meth c H locs cells slots Q (F0 m pc ls (st.map (sm_rv z b))) := by
  have hs : (sm_i st (fun x r => if x.toInt < lo ∨ hi < x.toInt then sm_tgt pc df lv r else (match offs[(x.toInt - lo).toNat]? with | some off => sm_tgt pc off lv r | none => none))) = some (pc', lv', st') := hs
  have hd : ∃ len, decode (sm_code M) pc = .ok (.tableswitch df lo hi offs, len) := hd
  obtain ⟨len, hd⟩ := hd
  obtain ⟨x, r, rfl, e1⟩ := sm_i_inv hs
  by_cases hc : x.toInt < lo ∨ hi < x.toInt
  · rw [if_pos hc] at e1
    obtain ⟨t, ht, e1⟩ := sm_tgt_inv e1
    cases e1
    exact lv_tableOut hF.1 hF.2.1 hd hc ht (kC ls hl)
  · rw [if_neg hc] at e1
    split at e1
    · next off ho =>
      obtain ⟨t, ht, e1⟩ := sm_tgt_inv e1
      cases e1
      exact lv_tableIn hF.1 hF.2.1 hd (fun q => hc (Or.inl q)) (fun q => hc (Or.inr q)) ho ht (kC ls hl)
    · cases e1
theorem sp_lookupswitch {df : Int} {ps : Array (Int × Int)} (hF : sm_Fr z b L xs H00 D cA p s m meth c M) (hR : sm_R z b H00 D cA h H) (hlo : ∀ q ∈ locs, z ≤ q.base) (hl : lv_has ls (sm_maxL M) (sm_ml z b lv)) (hd : sm_ok M (pc, .lookupswitch df ps, i1, i2)) (hs : sm_p (some (L, xs)) (sm_maxL M) pc (.lookupswitch df ps) i1 i2 lv st h = some (pc', lv', st'))
    (kC : ∀ ls' : Array Slot, lv_has ls' (sm_maxL M) (sm_ml z b lv') → W p l e R s m args below meth c H locs cells slots Q (F0 m pc' ls' (st'.map (sm_rv z b)))) : W p l e R s m args below meth c H locs cells slots Q (F0 m pc ls (st.map (sm_rv z b))) := by
  have hs : (sm_i st (fun x r => sm_tgt pc (Op.lookupswitch.offset ps.toList df x.toInt) lv r)) = some (pc', lv', st') := hs
  have hd : (∃ len, decode (sm_code M) pc = .ok (.lookupswitch df ps, len)) ∧ (ps.toList.zip (ps.toList.drop 1)).all (fun (a, next) => a.1 < next.1) = true := hd
  obtain ⟨⟨len, hd⟩, hp⟩ := hd
  obtain ⟨x, r, rfl, e1⟩ := sm_i_inv hs
  obtain ⟨t, ht, e1⟩ := sm_tgt_inv e1
  cases e1
  exact lv_lookup hF.1 hF.2.1 hd hp rfl ht (kC ls hl)
theorem sp_arraylength  (hF : sm_Fr z b L xs H00 D cA p s m meth c M) (hR : sm_R z b H00 D cA h H) (hlo : ∀ q ∈ locs, z ≤ q.base) (hl : lv_has ls (sm_maxL M) (sm_ml z b lv)) (hd : sm_ok M (pc, .arraylength, i1, i2)) (hs : sm_p (some (L, xs)) (sm_maxL M) pc (.arraylength) i1 i2 lv st h = some (pc', lv', st'))
    (kC : ∀ ls' : Array Slot, lv_has ls' (sm_maxL M) (sm_ml z b lv') → W p l e R s m args below meth c H locs cells slots Q (F0 m pc' ls' (st'.map (sm_rv z b)))) : W p l e R s m args below meth c H locs cells slots Q (F0 m pc ls (st.map (sm_rv z b))) := by
  have hs : (sm_v st (fun v r => match v with
      | .ref q => sm_arr h q (fun t x => bif Nat.blt t 5 then some (pc + 1, lv, .int (Int32.ofNat (sm_al x)) :: r) else none)
      | .float u => bif Nat.beq u.toNat 0 then (match (some (L, xs) : sm_X) with | some y => some (pc + 1, lv, .int (Int32.ofNat y.1) :: r) | none => none) else (match sm_sV u with | some i => some (pc + 1, lv, .int (Int32.ofNat (sm_len.getD i 0)) :: r) | none => none)
      | _ => none)) = some (pc', lv', st') := hs
  have hd : decode (sm_code M) pc = .ok (.arraylength, 1) := hd
  obtain ⟨v, r, rfl, e1⟩ := sm_v_inv hs
  cases v with
  | ref q =>
    obtain ⟨t, x, hq, e2⟩ := sm_arr_inv (show sm_arr h q _ = _ from e1)
    obtain ⟨hb, e3⟩ := sm_b_inv e2
    cases e3
    have ht : (sm_tys cA)[t]? = some (cA t, ((sm_tys cA).getD t (0, .int)).2) := by
      have h5 := sm_blt hb
      rcases (show t = 0 ∨ t = 1 ∨ t = 2 ∨ t = 3 ∨ t = 4 by omega) with rfl | rfl | rfl | rfl | rfl <;> rfl
    have hx1 : Int32.ofNat (sm_ia z x).1 = Int32.ofNat (sm_al x) := by obtain f | f | f := x <;> rfl
    exact va_alen hF.1 hF.2.1 (sm_hK hF) hR.2.2 q t (sm_ws_at hq) ht hx1 hd (kC ls hl)
  | float u =>
    cases hb : Nat.beq u.toNat 0 with
    | true =>
      have e0 : u.toNat = 0 := sm_beq hb
      have eu : u = 0 := (UInt32.ofNat_toNat (x := u)).symm.trans (by rw [e0]; rfl)
      obtain ⟨sb, x0, x1, x2, x3⟩ := sm_hX hF hR
      have e2 : sm_rv z b (.float u) = .ref sb := by
        show va_rf (b u) = _
        rw [eu, x0]; rfl
      have e3 : (bif Nat.beq u.toNat 0 then some (pc + 1, lv, Value.int (Int32.ofNat L) :: r) else _) = some (pc', lv', st') := e1
      rw [hb] at e3
      cases e3
      rw [List.map_cons, e2]
      exact va_slen (A := fun q => z ≤ q) hF.1 hF.2.1 x1 x2 x3 ⟨Nat.le_refl _, fun _ _ _ => rfl, hlo⟩ hd (kC ls hl)
    | false =>
      have e3 : (bif Nat.beq u.toNat 0 then _ else (match sm_sV u with | some i => some (pc + 1, lv, Value.int (Int32.ofNat (sm_len.getD i 0)) :: r) | none => none)) = some (pc', lv', st') := e1
      rw [hb] at e3
      have e3 : (match sm_sV u with | some i => some (pc + 1, lv, Value.int (Int32.ofNat (sm_len.getD i 0)) :: r) | none => none) = some (pc', lv', st') := e3
      split at e3
      · next i hi =>
        cases e3
        obtain ⟨hi1, hu⟩ := sm_sV_inv hi
        obtain ⟨kk, vv, t1, t2, t3, t4, t5⟩ := sm_hT hF
        have e2 : sm_rv z b (.float u) = .ref (vv i) := by
          show va_rf (b u) = _
          rw [hu, (t1 i hi1).2]; rfl
        obtain ⟨cell, h1, h2, h3, h4, h5, h6, h7⟩ := (t2.1 i hi1).2.2.2.kept (sm_kept hR)
        rw [List.map_cons, e2]
        exact W.alen (n := Int32.ofNat (sm_len.getD i 0)) hF.1 hF.2.1 h1 h2 h5 rfl rfl hd (kC ls hl)
      · cases e3
  | _ => exact sm_nn e1
theorem sp_iaload  (hF : sm_Fr z b L xs H00 D cA p s m meth c M) (hR : sm_R z b H00 D cA h H) (hlo : ∀ q ∈ locs, z ≤ q.base) (hl : lv_has ls (sm_maxL M) (sm_ml z b lv)) (hd : sm_ok M (pc, .iaload, i1, i2)) (hs : sm_p (some (L, xs)) (sm_maxL M) pc (.iaload) i1 i2 lv st h = some (pc', lv', st'))
    (kC : ∀ ls' : Array Slot, lv_has ls' (sm_maxL M) (sm_ml z b lv') → W p l e R s m args below meth c H locs cells slots Q (F0 m pc' ls' (st'.map (sm_rv z b)))) : W p l e R s m args below meth c H locs cells slots Q (F0 m pc ls (st.map (sm_rv z b))) := by
  have hs : (sm_i st (fun i r => sm_v r (fun v r => match v with
      | .ref q => sm_arI h q 0 i (fun g => some (pc + 1, lv, .int (g.getD i.toNatClampNeg 0) :: r))
      | .float u => bif Nat.beq u.toNat 0 then (match (some (L, xs) : sm_X) with | some y => if i < 0 ∨ y.1 ≤ i.toNatClampNeg then none else some (pc + 1, lv, .int (y.2 i.toNatClampNeg) :: r) | none => none) else none
      | _ => none))) = some (pc', lv', st') := hs
  have hd : decode (sm_code M) pc = .ok (.iaload, 1) := hd
  obtain ⟨i, r, rfl, e0⟩ := sm_i_inv hs
  obtain ⟨v, r, rfl, e1⟩ := sm_v_inv e0
  cases v with
  | ref q =>
    obtain ⟨g, hq, hin, e2⟩ := sm_arI_inv (show sm_arI h q 0 i _ = _ from e1)
    cases e2
    exact va_iald hF.1 hF.2.1 (sm_hK hF) hR.2.2 q 0 (sm_ws_at hq) rfl hin hd (kC ls hl)
  | float u =>
    obtain ⟨hb, e3⟩ := sm_b_inv (show (bif Nat.beq u.toNat 0 then (if i < 0 ∨ L ≤ i.toNatClampNeg then none else some (pc + 1, lv, Value.int (xs i.toNatClampNeg) :: r)) else none) = _ from e1)
    obtain ⟨hin, e4⟩ := sm_if_inv e3
    cases e4
    have e0 : u.toNat = 0 := sm_beq hb
    have eu : u = 0 := (UInt32.ofNat_toNat (x := u)).symm.trans (by rw [e0]; rfl)
    obtain ⟨sb, x0, x1, x2, x3⟩ := sm_hX hF hR
    have e2 : sm_rv z b (.float u) = .ref sb := by
      show va_rf (b u) = _
      rw [eu, x0]; rfl
    rw [List.map_cons, List.map_cons, e2]
    exact va_sld (A := fun q => z ≤ q) hF.1 hF.2.1 x1 x2 x3 ⟨Nat.le_refl _, fun _ _ _ => rfl, hlo⟩ hin hd (kC ls hl)
  | _ => exact sm_nn e1
theorem sp_baload  (hF : sm_Fr z b L xs H00 D cA p s m meth c M) (hR : sm_R z b H00 D cA h H) (hlo : ∀ q ∈ locs, z ≤ q.base) (hl : lv_has ls (sm_maxL M) (sm_ml z b lv)) (hd : sm_ok M (pc, .baload, i1, i2)) (hs : sm_p (some (L, xs)) (sm_maxL M) pc (.baload) i1 i2 lv st h = some (pc', lv', st'))
    (kC : ∀ ls' : Array Slot, lv_has ls' (sm_maxL M) (sm_ml z b lv') → W p l e R s m args below meth c H locs cells slots Q (F0 m pc' ls' (st'.map (sm_rv z b)))) : W p l e R s m args below meth c H locs cells slots Q (F0 m pc ls (st.map (sm_rv z b))) := by
  have hs : (sm_i st (fun i r => sm_v r (fun v r => match v with
      | .ref q => sm_arI h q 3 i (fun g => some (pc + 1, lv, .int (g.getD i.toNatClampNeg 0) :: r))
      | .float u => (match sm_sV u with | some k => if i < 0 ∨ sm_len.getD k 0 ≤ i.toNatClampNeg then none else some (pc + 1, lv, .int ((sm_byt.getD k []).getD i.toNatClampNeg 0) :: r) | none => none)
      | _ => none))) = some (pc', lv', st') := hs
  have hd : decode (sm_code M) pc = .ok (.baload, 1) := hd
  obtain ⟨i, r, rfl, e0⟩ := sm_i_inv hs
  obtain ⟨v, r, rfl, e1⟩ := sm_v_inv e0
  cases v with
  | ref q =>
    obtain ⟨g, hq, hin, e2⟩ := sm_arI_inv (show sm_arI h q 3 i _ = _ from e1)
    cases e2
    exact va_zald hF.1 hF.2.1 (sm_hK hF) hR.2.2 q 3 (sm_ws_at hq) rfl hin hd (kC ls hl)
  | float u =>
    have e3 : (match sm_sV u with | some k => if i < 0 ∨ sm_len.getD k 0 ≤ i.toNatClampNeg then none else some (pc + 1, lv, Value.int ((sm_byt.getD k []).getD i.toNatClampNeg 0) :: r) | none => none) = some (pc', lv', st') := e1
    split at e3
    · next k hk =>
      obtain ⟨hin, e4⟩ := sm_if_inv e3
      cases e4
      obtain ⟨hi1, hu⟩ := sm_sV_inv hk
      obtain ⟨kk, vv, t1, t2, t3, t4, t5⟩ := sm_hT hF
      have e2 : sm_rv z b (.float u) = .ref (vv k) := by
        show va_rf (b u) = _
        rw [hu, (t1 k hi1).2]; rfl
      obtain ⟨cell, h1, h2, h3, h4, h5, h6, h7⟩ := (t2.1 k hi1).2.2.2.kept (sm_kept hR)
      have hlt : i.toNatClampNeg < sm_len.getD k 0 := Nat.not_le.mp fun q => hin (Or.inr q)
      have hin2 : ¬ (i < 0 ∨ cell.slots.size ≤ i.toNatClampNeg) := by
        intro q
        rcases q with q | q
        · exact hin (Or.inl q)
        · omega
      rw [List.map_cons, List.map_cons, e2]
      exact W.bald (v := .int ((sm_byt.getD k []).getD i.toNatClampNeg 0)) hF.1 hF.2.1 h1 h2 h3 hin2 (h6 _ hlt) rfl rfl hd (kC ls hl)
    · cases e3
  | _ => exact sm_nn e1
theorem sp_caload  (hF : sm_Fr z b L xs H00 D cA p s m meth c M) (hR : sm_R z b H00 D cA h H) (hlo : ∀ q ∈ locs, z ≤ q.base) (hl : lv_has ls (sm_maxL M) (sm_ml z b lv)) (hd : sm_ok M (pc, .caload, i1, i2)) (hs : sm_p (some (L, xs)) (sm_maxL M) pc (.caload) i1 i2 lv st h = some (pc', lv', st'))
    (kC : ∀ ls' : Array Slot, lv_has ls' (sm_maxL M) (sm_ml z b lv') → W p l e R s m args below meth c H locs cells slots Q (F0 m pc' ls' (st'.map (sm_rv z b)))) : W p l e R s m args below meth c H locs cells slots Q (F0 m pc ls (st.map (sm_rv z b))) := by
  have hs : (sm_i st (fun i r => sm_r r (fun q r => sm_arI h q 2 i (fun g => some (pc + 1, lv, .int (g.getD i.toNatClampNeg 0) :: r))))) = some (pc', lv', st') := hs
  have hd : decode (sm_code M) pc = .ok (.caload, 1) := hd
  obtain ⟨i, r, rfl, e1⟩ := sm_i_inv hs
  obtain ⟨q, r, rfl, e2⟩ := sm_r_inv e1
  obtain ⟨g, hq, hin, e3⟩ := sm_arI_inv e2
  cases e3
  exact va_cald hF.1 hF.2.1 (sm_hK hF) hR.2.2 q 2 (sm_ws_at hq) rfl hin hd (kC ls hl)
theorem sp_laload  (hF : sm_Fr z b L xs H00 D cA p s m meth c M) (hR : sm_R z b H00 D cA h H) (hlo : ∀ q ∈ locs, z ≤ q.base) (hl : lv_has ls (sm_maxL M) (sm_ml z b lv)) (hd : sm_ok M (pc, .laload, i1, i2)) (hs : sm_p (some (L, xs)) (sm_maxL M) pc (.laload) i1 i2 lv st h = some (pc', lv', st'))
    (kC : ∀ ls' : Array Slot, lv_has ls' (sm_maxL M) (sm_ml z b lv') → W p l e R s m args below meth c H locs cells slots Q (F0 m pc' ls' (st'.map (sm_rv z b)))) : W p l e R s m args below meth c H locs cells slots Q (F0 m pc ls (st.map (sm_rv z b))) := by
  have hs : (sm_i st (fun i r => sm_r r (fun q r => sm_arL h q i (fun g => some (pc + 1, lv, .long (g.getD i.toNatClampNeg 0) :: r))))) = some (pc', lv', st') := hs
  have hd : decode (sm_code M) pc = .ok (.laload, 1) := hd
  obtain ⟨i, r, rfl, e1⟩ := sm_i_inv hs
  obtain ⟨q, r, rfl, e2⟩ := sm_r_inv e1
  obtain ⟨g, hq, hin, e3⟩ := sm_arL_inv e2
  cases e3
  exact va_lald hF.1 hF.2.1 (sm_hK hF) hR.2.2 q 1 (sm_ws_at hq) rfl hin hd (kC ls hl)
theorem sp_aaload  (hF : sm_Fr z b L xs H00 D cA p s m meth c M) (hR : sm_R z b H00 D cA h H) (hlo : ∀ q ∈ locs, z ≤ q.base) (hl : lv_has ls (sm_maxL M) (sm_ml z b lv)) (hd : sm_ok M (pc, .aaload, i1, i2)) (hs : sm_p (some (L, xs)) (sm_maxL M) pc (.aaload) i1 i2 lv st h = some (pc', lv', st'))
    (kC : ∀ ls' : Array Slot, lv_has ls' (sm_maxL M) (sm_ml z b lv') → W p l e R s m args below meth c H locs cells slots Q (F0 m pc' ls' (st'.map (sm_rv z b)))) : W p l e R s m args below meth c H locs cells slots Q (F0 m pc ls (st.map (sm_rv z b))) := by
  have hs : (sm_i st (fun i r => sm_r r (fun q r => sm_arQ h q i (fun g => match g.getD i.toNatClampNeg none with | some k => some (pc + 1, lv, .ref k :: r) | none => none)))) = some (pc', lv', st') := hs
  have hd : decode (sm_code M) pc = .ok (.aaload, 1) := hd
  obtain ⟨i, r, rfl, e1⟩ := sm_i_inv hs
  obtain ⟨q, r, rfl, e2⟩ := sm_r_inv e1
  obtain ⟨g, hq, hin, e3⟩ := sm_arQ_inv e2
  split at e3
  · next j hj =>
    cases e3
    have kk := kC ls hl
    have e1 : va_rf ((g.getD i.toNatClampNeg none).map (fun k => z + k)) = sm_rv z b (.ref j) := by rw [hj]; rfl
    rw [List.map_cons, ← e1] at kk
    exact va_aldq hF.1 hF.2.1 (sm_hK hF) hR.2.2 q 4 (sm_ws_at hq) rfl hin hd kk
  · cases e3
theorem sp_getfield {idx : Nat} (hF : sm_Fr z b L xs H00 D cA p s m meth c M) (hR : sm_R z b H00 D cA h H) (hlo : ∀ q ∈ locs, z ≤ q.base) (hl : lv_has ls (sm_maxL M) (sm_ml z b lv)) (hd : sm_ok M (pc, .getfield idx, i1, i2)) (hs : sm_p (some (L, xs)) (sm_maxL M) pc (.getfield idx) i1 i2 lv st h = some (pc', lv', st'))
    (kC : ∀ ls' : Array Slot, lv_has ls' (sm_maxL M) (sm_ml z b lv') → W p l e R s m args below meth c H locs cells slots Q (F0 m pc' ls' (st'.map (sm_rv z b)))) : W p l e R s m args below meth c H locs cells slots Q (F0 m pc ls (st.map (sm_rv z b))) := by
  have hs : (sm_v st (fun v r => match v with
      | .ref q => sm_obj h q i1 (fun fs => match fs[i2]? with | some v => some (pc + 3, lv, v :: r) | none => none)
      | .float u => (match sm_sK u with | some i => bif Nat.beq i1 100 then (bif Nat.beq i2 0 then some (pc + 3, lv, .float (UInt32.ofNat (2 * i + 2)) :: r) else bif Nat.beq i2 1 then some (pc + 3, lv, .int 0 :: r) else none) else none | none => none)
      | _ => none)) = some (pc', lv', st') := hs
  have hd : decode (sm_code M) pc = .ok (.getfield idx, 3) ∧ ((∃ q, sm_classes[i1]? = some q ∧ i2 < q.2.2 ∧ sm_fl (sm_name M).cls idx q i2) ∨ (i1 = 100 ∧ (i2 = 0 → Cond.fieldLink (sm_name M).cls idx "java/lang/String" "value" "[B" ∈ sm_tbl) ∧ (i2 = 1 → Cond.fieldLink (sm_name M).cls idx "java/lang/String" "coder" "B" ∈ sm_tbl))) := hd
  obtain ⟨hd, hg⟩ := hd
  obtain ⟨v, r, rfl, e1⟩ := sm_v_inv hs
  cases v with
  | ref q =>
    obtain ⟨fs, hq, e2⟩ := sm_obj_inv (show sm_obj h q i1 _ = _ from e1)
    rcases hg with ⟨w, hw, hk, hfl⟩ | ⟨h100, -, -⟩
    · split at e2
      · next v hv =>
        cases e2
        have hc := sm_cls i1 w hw
        have hv2 : (fs.map (sm_rv z b))[i2]? = some (sm_rv z b v) := by rw [List.getElem?_map, hv]; rfl
        obtain ⟨C, T, N⟩ := w
        rcases hfl with hfl | ⟨host, hfl⟩
        · exact va_get hF.1 hF.2.1 (sm_wds hF) hc.1 hF.2.2.2.1 (sm_hK hF) hR.2.2 q (sm_ws_at hq) hw i2 hk (sm_wd hF hfl) (fun _ h9 => h9) hv2 hd (kC ls hl)
        · exact va_getN hF.1 hF.2.1 (sm_wds hF) hc.1 hF.2.2.2.1 (sm_hK hF) hR.2.2 q (sm_ws_at hq) hw i2 hk (sm_wd hF hfl) (fun _ h9 => h9) hv2 hd (kC ls hl)
      · cases e2
    · obtain ⟨w, hw, -⟩ := hR.2.2 q _ (sm_ws_at hq)
      rw [h100] at hw
      exact sm_no100 hw
  | float u =>
    have e2 : (match sm_sK u with | some i => bif Nat.beq i1 100 then (bif Nat.beq i2 0 then some (pc + 3, lv, Value.float (UInt32.ofNat (2 * i + 2)) :: r) else bif Nat.beq i2 1 then some (pc + 3, lv, Value.int 0 :: r) else none) else none | none => none) = some (pc', lv', st') := e1
    split at e2
    · next i hi =>
      obtain ⟨hb, e3⟩ := sm_b_inv e2
      have h100 := sm_beq hb
      obtain ⟨hi1, hu⟩ := sm_sK_inv hi
      obtain ⟨kk, vv, t1, t2, t3, t4, t5⟩ := sm_hT hF
      have e4 : sm_rv z b (.float u) = .ref (kk i) := by
        show va_rf (b u) = _
        rw [hu, (t1 i hi1).1]; rfl
      rw [List.map_cons, e4]
      rcases hg with ⟨w, hw, -⟩ | ⟨-, hg0, hg1⟩
      · rw [h100] at hw
        exact sm_no100 hw
      cases hb0 : Nat.beq i2 0 with
      | true =>
        rw [hb0] at e3
        have e3 : some (pc + 3, lv, Value.float (UInt32.ofNat (2 * i + 2)) :: r) = some (pc', lv', st') := e3
        cases e3
        obtain ⟨cf, k, fi, f, cell, h1, h2, h3, h4, h5, h6⟩ := (t2.1 i hi1).2.2.1.kept (sm_kept hR)
        have e5 : sm_rv z b (.float (UInt32.ofNat (2 * i + 2))) = .ref (vv i) := by
          show va_rf (b _) = _
          rw [(t1 i hi1).2]; rfl
        have k2 := kC ls hl
        rw [List.map_cons, e5] at k2
        exact W.getf hF.1 hF.2.1 hF.2.2.2.1 (sm_wd hF (hg0 (sm_beq hb0))) h1 h2 h3 h4 (v := .ref (vv i)) h5 rfl rfl hd k2
      | false =>
        rw [hb0] at e3
        obtain ⟨hb1, e6⟩ := sm_b_inv (show (bif Nat.beq i2 1 then some (pc + 3, lv, Value.int 0 :: r) else none) = some (pc', lv', st') from e3)
        cases e6
        obtain ⟨cf, k, fi, f, cell, h1, h2, h3, h4, h5, h6⟩ := (t2.1 i hi1).2.1.kept (sm_kept hR)
        exact W.getf hF.1 hF.2.1 hF.2.2.2.1 (sm_wd hF (hg1 (sm_beq hb1))) h1 h2 h3 h4 (v := .int 0) h5 rfl rfl hd (kC ls hl)
    · cases e2
  | _ => exact sm_nn e1
theorem sp_all {i : Instr} (hF : sm_Fr z b L xs H00 D cA p s m meth c M) (hR : sm_R z b H00 D cA h H) (hlo : ∀ q ∈ locs, z ≤ q.base) (hl : lv_has ls (sm_maxL M) (sm_ml z b lv)) (hd : sm_ok M (pc, i, i1, i2)) (hs : sm_p (some (L, xs)) (sm_maxL M) pc i i1 i2 lv st h = some (pc', lv', st'))
    (kC : ∀ ls' : Array Slot, lv_has ls' (sm_maxL M) (sm_ml z b lv') → W p l e R s m args below meth c H locs cells slots Q (F0 m pc' ls' (st'.map (sm_rv z b)))) : W p l e R s m args below meth c H locs cells slots Q (F0 m pc ls (st.map (sm_rv z b))) := by
  cases i
  case iconst => exact sp_iconst hF hR hlo hl hd hs kC
  case bipush => exact sp_bipush hF hR hlo hl hd hs kC
  case sipush => exact sp_sipush hF hR hlo hl hd hs kC
  case lconst => exact sp_lconst hF hR hlo hl hd hs kC
  case ldc => exact sp_ldc hF hR hlo hl hd hs kC
  case getstatic => exact sp_getstatic hF hR hlo hl hd hs kC
  case ldc2_w => exact sp_ldc2 hF hR hlo hl hd hs kC
  case iload_n => exact sp_iload_n hF hR hlo hl hd hs kC
  case iload => exact sp_iload hF hR hlo hl hd hs kC
  case lload_n => exact sp_lload_n hF hR hlo hl hd hs kC
  case lload => exact sp_lload hF hR hlo hl hd hs kC
  case aload_n => exact sp_aload_n hF hR hlo hl hd hs kC
  case aload => exact sp_aload hF hR hlo hl hd hs kC
  case istore_n => exact sp_istore_n hF hR hlo hl hd hs kC
  case istore => exact sp_istore hF hR hlo hl hd hs kC
  case lstore_n => exact sp_lstore_n hF hR hlo hl hd hs kC
  case lstore => exact sp_lstore hF hR hlo hl hd hs kC
  case astore_n => exact sp_astore_n hF hR hlo hl hd hs kC
  case astore => exact sp_astore hF hR hlo hl hd hs kC
  case iinc => exact sp_iinc hF hR hlo hl hd hs kC
  case iadd => exact sp_iadd hF hR hlo hl hd hs kC
  case isub => exact sp_isub hF hR hlo hl hd hs kC
  case imul => exact sp_imul hF hR hlo hl hd hs kC
  case iand => exact sp_iand hF hR hlo hl hd hs kC
  case ior => exact sp_ior hF hR hlo hl hd hs kC
  case ixor => exact sp_ixor hF hR hlo hl hd hs kC
  case ishl => exact sp_ishl hF hR hlo hl hd hs kC
  case ishr => exact sp_ishr hF hR hlo hl hd hs kC
  case idiv => exact sp_idiv hF hR hlo hl hd hs kC
  case irem => exact sp_irem hF hR hlo hl hd hs kC
  case ineg => exact sp_ineg hF hR hlo hl hd hs kC
  case ladd => exact sp_ladd hF hR hlo hl hd hs kC
  case lsub => exact sp_lsub hF hR hlo hl hd hs kC
  case lmul => exact sp_lmul hF hR hlo hl hd hs kC
  case land => exact sp_land hF hR hlo hl hd hs kC
  case lor => exact sp_lor hF hR hlo hl hd hs kC
  case ldiv => exact sp_ldiv hF hR hlo hl hd hs kC
  case lneg => exact sp_lneg hF hR hlo hl hd hs kC
  case lcmp => exact sp_lcmp hF hR hlo hl hd hs kC
  case lshl => exact sp_lshl hF hR hlo hl hd hs kC
  case i2l => exact sp_i2l hF hR hlo hl hd hs kC
  case l2i => exact sp_l2i hF hR hlo hl hd hs kC
  case i2b => exact sp_i2b hF hR hlo hl hd hs kC
  case i2c => exact sp_i2c hF hR hlo hl hd hs kC
  case dup => exact sp_dup hF hR hlo hl hd hs kC
  case pop => exact sp_pop hF hR hlo hl hd hs kC
  case dup2 => exact sp_dup2 hF hR hlo hl hd hs kC
  case dup_x1 => exact sp_dup_x1 hF hR hlo hl hd hs kC
  case ifCond cnd off =>
    cases cnd
    case eq => exact sp_ifCond_eq hF hR hlo hl hd hs kC
    case ne => exact sp_ifCond_ne hF hR hlo hl hd hs kC
    case lt => exact sp_ifCond_lt hF hR hlo hl hd hs kC
    case ge => exact sp_ifCond_ge hF hR hlo hl hd hs kC
    case gt => exact sp_ifCond_gt hF hR hlo hl hd hs kC
    case le => exact sp_ifCond_le hF hR hlo hl hd hs kC
  case if_icmp cnd off =>
    cases cnd
    case eq => exact sp_if_icmp_eq hF hR hlo hl hd hs kC
    case ne => exact sp_if_icmp_ne hF hR hlo hl hd hs kC
    case lt => exact sp_if_icmp_lt hF hR hlo hl hd hs kC
    case ge => exact sp_if_icmp_ge hF hR hlo hl hd hs kC
    case gt => exact sp_if_icmp_gt hF hR hlo hl hd hs kC
    case le => exact sp_if_icmp_le hF hR hlo hl hd hs kC
  case goto => exact sp_goto hF hR hlo hl hd hs kC
  case tableswitch => exact sp_tableswitch hF hR hlo hl hd hs kC
  case lookupswitch => exact sp_lookupswitch hF hR hlo hl hd hs kC
  case arraylength => exact sp_arraylength hF hR hlo hl hd hs kC
  case iaload => exact sp_iaload hF hR hlo hl hd hs kC
  case baload => exact sp_baload hF hR hlo hl hd hs kC
  case caload => exact sp_caload hF hR hlo hl hd hs kC
  case laload => exact sp_laload hF hR hlo hl hd hs kC
  case aaload => exact sp_aaload hF hR hlo hl hd hs kC
  case getfield => exact sp_getfield hF hR hlo hl hd hs kC
  all_goals exact sm_nn hs
end SMP
