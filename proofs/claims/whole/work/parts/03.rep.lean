/-! how the machine's heap and locals hold the small machine's -/
theorem sm_nn {α : Type} {P : Prop} {w : α} (h : (none : Option α) = some w) : P := by cases h
theorem sm_rv_cat (z : Nat) (b : UInt32 → Option Nat) (v : Value) : (sm_rv z b v).category = v.category := by
  cases v with
  | float u =>
    show (va_rf (b u)).category = 1
    cases b u <;> rfl
  | _ => rfl
def sm_ml (z : Nat) (b : UInt32 → Option Nat) (lv : sm_L) : List (Nat × Value) := lv.map (fun q => (q.1, sm_rv z b q.2))
theorem sm_ml_args (z : Nat) (b : UInt32 → Option Nat) : ∀ (vs : List Value) (i : Nat), lv_args i (vs.map (sm_rv z b)) = sm_ml z b (lv_args i vs)
  | [], _ => rfl
  | v :: vs, i => by
    show (i, sm_rv z b v) :: lv_args (if (sm_rv z b v).category = 2 then i + 2 else i + 1) (vs.map (sm_rv z b)) = (i, sm_rv z b v) :: sm_ml z b (lv_args (if v.category = 2 then i + 2 else i + 1) vs)
    rw [sm_rv_cat, sm_ml_args z b vs]
theorem sm_ml_s1 (z : Nat) (b : UInt32 → Option Nat) (lv : sm_L) (i : Nat) (v : Value) : (i, sm_rv z b v) :: (sm_ml z b lv).filter (fun q => !(q.1 == i) && !(q.1 + 1 == i && q.2.category == 2)) = sm_ml z b (sm_s1 lv i v) := by
  simp only [sm_ml, sm_s1, List.filter_map, List.map_cons, Function.comp_def, sm_rv_cat]
theorem sm_ml_s2 (z : Nat) (b : UInt32 → Option Nat) (lv : sm_L) (i : Nat) (v : Value) : (i, sm_rv z b v) :: (sm_ml z b lv).filter (fun q => !(q.1 == i) && (!(q.1 == i + 1) && !(q.1 + 1 == i && q.2.category == 2))) = sm_ml z b (sm_s2 lv i v) := by
  simp only [sm_ml, sm_s2, List.filter_map, List.map_cons, Function.comp_def, sm_rv_cat]
theorem sm_lk_mem : ∀ {lv : sm_L} {i : Nat} {v : Value}, sm_lk lv i = some v → (i, v) ∈ lv
  | [], _, _, h => by cases h
  | q :: r, i, v, h => by
    unfold sm_lk at h
    cases hq : Nat.beq q.1 i with
    | true =>
      rw [hq] at h
      have e : q.1 = i := Nat.eq_of_beq_eq_true hq
      have e2 : q.2 = v := Option.some.inj h
      exact List.mem_cons.mpr (Or.inl (by rw [← e, ← e2]))
    | false =>
      rw [hq] at h
      exact List.mem_cons_of_mem _ (sm_lk_mem h)
theorem sm_has {z n i : Nat} {b : UInt32 → Option Nat} {ls : Array Slot} {lv : sm_L} {v : Value} (hl : lv_has ls n (sm_ml z b lv)) (h : sm_lk lv i = some v) : ls[i]? = some (.val (sm_rv z b v)) :=
  hl.2.2 (i, sm_rv z b v) (List.mem_map.mpr ⟨(i, v), sm_lk_mem h, rfl⟩)
theorem sm_hasI {z n i : Nat} {b : UInt32 → Option Nat} {ls : Array Slot} {lv : sm_L} {v : Value} (hl : lv_has ls n (sm_ml z b lv)) (h : sm_lk lv i = some v) : ∃ k : Nat, (sm_ml z b lv)[k]? = some (i, sm_rv z b v) :=
  List.getElem?_of_mem (List.mem_map.mpr ⟨(i, v), sm_lk_mem h, rfl⟩)
theorem sm_cat_map (z : Nat) (b : UInt32 → Option Nat) (st : List Value) : ((st.map (sm_rv z b)).map fun v => v.category).sum = sm_cat st := by
  unfold sm_cat
  rw [List.map_map]
  congr 2
  funext v
  exact sm_rv_cat z b v
def sm_ws (z : Nat) (b : UInt32 → Option Nat) (cA : Nat → ClassId) (h : sm_H) : va_W := h.mapIdx (fun k x => (z + k, sm_ic z b cA x))
theorem sm_ws_get {z : Nat} {b : UInt32 → Option Nat} {cA : Nat → ClassId} {h : sm_H} {k : Nat} : (sm_ws z b cA h)[k]? = (h[k]?).map (fun x => (z + k, sm_ic z b cA x)) := by
  simp [sm_ws]
theorem sm_ws_at {z : Nat} {b : UInt32 → Option Nat} {cA : Nat → ClassId} {h : sm_H} {k : Nat} {x : sm_E} (hk : h[k]? = some x) : (sm_ws z b cA h)[k]? = some (z + k, sm_ic z b cA x) := by
  rw [sm_ws_get, hk]; rfl
theorem sm_ws_set {z : Nat} {b : UInt32 → Option Nat} {cA : Nat → ClassId} {h : sm_H} {k : Nat} {x : sm_E} : (sm_ws z b cA h).set k (z + k, sm_ic z b cA x) = sm_ws z b cA (h.set k x) := by
  apply List.ext_getElem?
  intro i
  rw [sm_ws_get, List.getElem?_set, List.getElem?_set]
  by_cases hi : k = i
  · subst hi
    rw [if_pos rfl, if_pos rfl]
    have e : (sm_ws z b cA h).length = h.length := by simp [sm_ws]
    rw [e]
    by_cases hl : k < h.length
    · rw [if_pos hl, if_pos hl]; rfl
    · rw [if_neg hl, if_neg hl]; rfl
  · rw [if_neg hi, if_neg hi, sm_ws_get]
theorem sm_ws_push {z : Nat} {b : UInt32 → Option Nat} {cA : Nat → ClassId} {h : sm_H} {x : sm_E} : sm_ws z b cA (h ++ [x]) = sm_ws z b cA h ++ [(z + h.length, sm_ic z b cA x)] := by
  simp [sm_ws, List.mapIdx_append]
theorem sm_D (z : Nat) (b : UInt32 → Option Nat) (cA : Nat → ClassId) (h : sm_H) : va_D (fun q => z ≤ q) (sm_ws z b cA h) := by
  refine ⟨fun i j p q hi hj e => ?_, fun k q hk => ?_⟩
  · rw [sm_ws_get] at hi hj
    obtain ⟨x, -, rfl⟩ := Option.map_eq_some_iff.mp hi
    obtain ⟨y, -, rfl⟩ := Option.map_eq_some_iff.mp hj
    have e' : z + i = z + j := e
    omega
  · rw [sm_ws_get] at hk
    obtain ⟨x, -, rfl⟩ := Option.map_eq_some_iff.mp hk
    exact Nat.le_add_right z k
def sm_R (z : Nat) (b : UInt32 → Option Nat) (H00 : Heap) (D : va_G) (cA : Nat → ClassId) (h : sm_H) (H : Heap) : Prop :=
  H.size = z + h.length ∧ (∀ q : Nat, q < z → H[q]? = H00[q]?) ∧ va_P D sm_classes (sm_ws z b cA h) H
/-- a cell was written -/
theorem sm_R.put {z : Nat} {b : UInt32 → Option Nat} {H00 H H1 : Heap} {D : va_G} {cA : Nat → ClassId} {h : sm_H} {q : Nat} {x y : sm_E} (hR : sm_R z b H00 D cA h H) (hq : h[q]? = some x) (hz : H1.size = H.size) (ho : ∀ i : Nat, i ≠ z + q → H1[i]? = H[i]?) (ha : va_at D sm_classes (z + q, sm_ic z b cA y) H1) : sm_R z b H00 D cA (h.set q y) H1 := by
  refine ⟨by rw [hz, hR.1, List.length_set], fun i hi => (ho i (by omega)).trans (hR.2.1 i hi), ?_⟩
  rw [← sm_ws_set]
  exact va_P.set hR.2.2 (sm_D z b cA h) (sm_ws_at hq) ha ho
/-- a cell was made -/
theorem sm_R.push {z : Nat} {b : UInt32 → Option Nat} {H00 H H1 : Heap} {D : va_G} {cA : Nat → ClassId} {h : sm_H} {y : sm_E} (hR : sm_R z b H00 D cA h H) (hz : H1.size = H.size + 1) (ho : ∀ i : Nat, i < H.size → H1[i]? = H[i]?) (ha : va_at D sm_classes (z + h.length, sm_ic z b cA y) H1) : sm_R z b H00 D cA (h ++ [y]) H1 := by
  have h1 := hR.1
  refine ⟨by rw [hz, hR.1, List.length_append]; rfl, fun i hi => (ho i (by omega)).trans (hR.2.1 i hi), ?_⟩
  rw [sm_ws_push]
  refine va_P.app (va_P.kept hR.2.2 (fun k w hk => ho w.1 (hR.2.2 k w hk).lt)) (fun k w hk => ?_)
  have hk1 : k < 1 := (List.getElem?_eq_some_iff.mp hk).1
  have hk0 : k = 0 := by omega
  subst hk0
  cases hk
  exact ha
def sm_tys (cA : Nat → ClassId) : List (ClassId × FieldType) := [(cA 0, .int), (cA 1, .long), (cA 2, .char), (cA 3, .boolean), (cA 4, .object sm_cT)]
theorem sm_warm {w : Cond} {a a' : Array Value} {s U : State} (hw : sm_gw w = true) (hW : s.WarmedH U.vm) (h : w.before a s = true) : w.before a' U = true := by
  cases w
  case fieldLinkNest => exact va_Nw.use rfl (va_Nw.warmF hW (va_Nw.of rfl h))
  case methodLinkNest => exact va_Nw.use rfl (va_Nw.warmM hW (va_Nw.of rfl h))
  case arrayOver t =>
    cases t
    case object => exact va_AO.use (va_AO.moved hW.alike (va_AO.of h))
    all_goals exact word_at hW (good_of_word hw) h
  all_goals exact word_at hW (good_of_word hw) h
/-- what lay there before, and is read: texts, two statics -/
def sm_T (z : Nat) (b : UInt32 → Option Nat) (H00 : Heap) (U : State) : Prop := ∃ kk vv : Nat → Nat, (∀ i, i < sm_nS → b (UInt32.ofNat (2 * i + 1)) = some (kk i) ∧ b (UInt32.ofNat (2 * i + 2)) = some (vv i)) ∧ vk_S sm_nS sm_len sm_byt kk vv (fun q => z ≤ q) U H00 ∧
  va_Z "java/lang/String" "COMPACT_STRINGS" "Z" (.int 1) (fun q => z ≤ q) U H00 ∧ va_Z "jdk/internal/util/Preconditions" "SIOOBE_FORMATTER" "Ljava/util/function/BiFunction;" (va_rf (b 1000)) (fun q => z ≤ q) U H00 ∧ (∀ (i : Nat) (own : String) (idx : Nat) (tx : String), (i, own, idx, tx) ∈ sm_lits → vk_R own idx tx (kk i) U)
theorem sm_T.warm {z : Nat} {b : UInt32 → Option Nat} {H00 : Heap} {s U : State} (h : sm_T z b H00 s) (hW : s.WarmedH U.vm) : sm_T z b H00 U := by
  obtain ⟨kk, vv, h1, h2, h3, h4, h5⟩ := h
  exact ⟨kk, vv, h1, h2.moved hW.alike, h3.moved hW.alike, h4.moved hW.alike, fun i own idx tx hm => (h5 i own idx tx hm).warm hW⟩
def sm_C (z : Nat) (b : UInt32 → Option Nat) (L : Nat) (xs : Nat → Int32) (H00 : Heap) (D : va_G) (cA : Nat → ClassId) (U : State) : Prop :=
  va_K D sm_classes (sm_tys cA) U ∧ (∃ sb : Nat, b 0 = some sb ∧ va_X sb L xs U H00 ∧ sb < z) ∧ (∀ w ∈ sm_tbl, ∀ a : Array Value, w.before a U = true) ∧ sm_T z b H00 U
theorem sm_C.warm {z L : Nat} {b : UInt32 → Option Nat} {xs : Nat → Int32} {H00 : Heap} {D : va_G} {cA : Nat → ClassId} {s U : State} (h : sm_C z b L xs H00 D cA s) (hW : s.WarmedH U.vm) : sm_C z b L xs H00 D cA U := by
  obtain ⟨h1, ⟨sb, h2, h3, h4⟩, h5, h6⟩ := h
  exact ⟨va_K.moved hW.alike h1, ⟨sb, h2, va_X.moved hW.alike h3, h4⟩, fun w hw a => sm_warm (sm_good w hw) hW (h5 w hw #[]), h6.warm hW⟩
/-- what a frame of method M knows -/
def sm_Fr (z : Nat) (b : UInt32 → Option Nat) (L : Nat) (xs : Nat → Int32) (H00 : Heap) (D : va_G) (cA : Nat → ClassId) (p : Program) (s : State) (m : MethodId) (meth : Method) (c : Code) (M : Nat) : Prop :=
  p.tables.exec = Jvm.exec ∧ c.code = sm_code M ∧ c.maxLocals = sm_maxL M ∧ s.vm.findClass (sm_name M).cls = some m.cls ∧ meth.sig.returnType = sm_ret M ∧ meth.locks = false ∧ ((sm_name M).name = "<init>" → meth.name = "<init>") ∧ sm_C z b L xs H00 D cA s
/-- what a class's number stands for -/
def sm_cok (ci : Nat) (q : vw_C) : Prop := (∀ w ∈ u_ws q.1 q.2.1 q.2.2, w ∈ sm_tbl) ∧ (∀ k, k < q.2.2 → parseFieldDescriptor (q.2.1 k).2.2.1 = some (sm_fty ci k)) ∧ (∀ a, a < q.2.2 → ∀ b, b < q.2.2 → a ≠ b → (q.2.1 a).2.1 ≠ (q.2.1 b).2.1) ∧
  Cond.instantiable q.1 q.2.2 ∈ sm_tbl ∧ Cond.initialized q.1 ∈ sm_tbl ∧ ∃ fs, sm_dfl[ci]? = some fs ∧ fs.length = q.2.2 ∧ (∀ j, j < q.2.2 → defaultValue (sm_fty ci j) = vp_V fs j) ∧ ∀ v ∈ fs, v = .int 0 ∨ v = .long 0 ∨ v = .null
/-- what a method's number stands for -/
def sm_mok (M : Nat) : Prop := Cond.code (sm_name M) (sm_code M) (sm_maxL M) (sm_ret M) ∈ sm_tbl ∧ Cond.initialized (sm_name M).cls ∈ sm_tbl ∧ ((sm_name M).cls ≠ "java/lang/invoke/MethodHandle" ∧ (sm_name M).cls ≠ "java/lang/invoke/VarHandle") ∧
  (parseMethodDescriptor (sm_name M).desc).map (fun d => d.parameters.length) = some (sm_np M) ∧ plainName (sm_name M).cls = true ∧ sm_maxL M ≤ 21
def sm_mI (M : Nat) : Prop := Cond.instanceMethod (sm_name M) ∈ sm_tbl ∧ ((∃ q : vw_C, sm_classes[sm_cn M]? = some q ∧ q.1 = (sm_name M).cls) ∨ (sm_cn M = 100 ∧ (sm_name M).cls = "java/lang/String"))
def sm_lnk (own : String) (idx M2 : Nat) : Prop := Cond.methodLink own idx (sm_name M2) ∈ sm_tbl ∨ ∃ host, Cond.methodLinkNest own idx (sm_name M2) host ∈ sm_tbl
def sm_fl (own : String) (idx : Nat) (q : vw_C) (k : Nat) : Prop := Cond.fieldLink own idx (q.2.1 k).1 (q.2.1 k).2.1 (q.2.1 k).2.2.1 ∈ sm_tbl ∨ ∃ host, Cond.fieldLinkNest own idx (q.2.1 k).1 (q.2.1 k).2.1 (q.2.1 k).2.2.1 host ∈ sm_tbl
def sm_pf (own nm : String) (idx a b : Nat) : Prop := ∃ q, sm_classes[a]? = some q ∧ b < q.2.2 ∧ (((q.2.1 b).2.2.2 = false ∧ sm_fl own idx q b) ∨ ((q.2.1 b).2.2.2 = true ∧ nm = "<init>" ∧ (q.2.1 b).1 = own ∧ Cond.fieldLink own idx (q.2.1 b).1 (q.2.1 b).2.1 (q.2.1 b).2.2.1 ∈ sm_tbl))
theorem sm_uw {C : String} {T : u_T} {N : Nat} (h : ∀ k, k < N → u_lay C T k ∈ sm_tbl) : ∀ w ∈ u_ws C T N, w ∈ sm_tbl := by
  intro w hw
  obtain ⟨k, hk, rfl⟩ := List.mem_map.mp hw
  exact h k (List.mem_range.mp hk)
def sm_mw (own : String) (idx : Nat) (nm : MethodName) (cd : ByteArray) (n : Nat) (ret : FieldType) : Prop := Cond.methodLink own idx nm ∈ sm_tbl ∧ Cond.static nm ∈ sm_tbl ∧ Cond.initialized "java/lang/Math" ∈ sm_tbl ∧ Cond.code nm cd n (some ret) ∈ sm_tbl
/-- a row of a method's table: its instruction stands there, its numbers are right -/
def sm_ok (M : Nat) (r : sm_row) : Prop := match r.2.1 with
  | .tableswitch df lo hi offs => ∃ len, decode (sm_code M) r.1 = .ok (.tableswitch df lo hi offs, len)
  | .lookupswitch df ps => (∃ len, decode (sm_code M) r.1 = .ok (.lookupswitch df ps, len)) ∧ (ps.toList.zip (ps.toList.drop 1)).all (fun (a, next) => a.1 < next.1) = true
  | .ifCond x off => decode (sm_code M) r.1 = .ok (.ifCond x off, 3) ∧ (r.1 : Int) + off = (r.2.2.1 : Int)
  | .if_icmp x off => decode (sm_code M) r.1 = .ok (.if_icmp x off, 3) ∧ (r.1 : Int) + off = (r.2.2.1 : Int)
  | .goto off => decode (sm_code M) r.1 = .ok (.goto off, 3) ∧ (r.1 : Int) + off = (r.2.2.1 : Int)
  | .ldc idx => decode (sm_code M) r.1 = .ok (.ldc idx, 2) ∧ (∀ v, sm_kI[r.2.2.1]? = some v → Cond.constant (sm_name M).cls idx v ∈ sm_tbl) ∧ (1000 ≤ r.2.2.1 → ∃ tx, (r.2.2.1 - 1000, (sm_name M).cls, idx, tx) ∈ sm_lits)
  | .getstatic idx => decode (sm_code M) r.1 = .ok (.getstatic idx, 3) ∧ (r.2.2.1 = 1 → Cond.fieldLink (sm_name M).cls idx "java/lang/String" "COMPACT_STRINGS" "Z" ∈ sm_tbl) ∧ (r.2.2.1 = 2 → Cond.fieldLink (sm_name M).cls idx "jdk/internal/util/Preconditions" "SIOOBE_FORMATTER" "Ljava/util/function/BiFunction;" ∈ sm_tbl)
  | .ldc2_w idx => decode (sm_code M) r.1 = .ok (.ldc2_w idx, 3) ∧ ∀ v, sm_kL[r.2.2.1]? = some v → Cond.constantLong (sm_name M).cls idx v ∈ sm_tbl
  | .getfield idx => decode (sm_code M) r.1 = .ok (.getfield idx, 3) ∧ ((∃ q, sm_classes[r.2.2.1]? = some q ∧ r.2.2.2 < q.2.2 ∧ sm_fl (sm_name M).cls idx q r.2.2.2) ∨ (r.2.2.1 = 100 ∧ (r.2.2.2 = 0 → Cond.fieldLink (sm_name M).cls idx "java/lang/String" "value" "[B" ∈ sm_tbl) ∧ (r.2.2.2 = 1 → Cond.fieldLink (sm_name M).cls idx "java/lang/String" "coder" "B" ∈ sm_tbl)))
  | .putfield idx => decode (sm_code M) r.1 = .ok (.putfield idx, 3) ∧ sm_pf (sm_name M).cls (sm_name M).name idx r.2.2.1 r.2.2.2
  | .new idx => decode (sm_code M) r.1 = .ok (.new idx, 3) ∧ ∃ q, sm_classes[r.2.2.1]? = some q ∧ Cond.classLink (sm_name M).cls idx q.1 ∈ sm_tbl
  | .newarray t => decode (sm_code M) r.1 = .ok (.newarray t, 2) ∧ Cond.arrayClass (newarray.typeOf t) ∈ sm_tbl ∧ ((r.2.2.1 = 0 ∧ t = .int) ∨ (r.2.2.1 = 1 ∧ t = .long) ∨ (r.2.2.1 = 2 ∧ t = .char) ∨ (r.2.2.1 = 3 ∧ t = .boolean))
  | .anewarray idx => decode (sm_code M) r.1 = .ok (.anewarray idx, 3) ∧ Cond.classLink (sm_name M).cls idx sm_cT ∈ sm_tbl ∧ Cond.arrayOver (.object sm_cT) ∈ sm_tbl
  | .invokevirtual idx => decode (sm_code M) r.1 = .ok (.invokevirtual idx, 3) ∧ sm_mok r.2.2.1 ∧ sm_mI r.2.2.1 ∧ Cond.selects (sm_name r.2.2.1).cls (sm_name r.2.2.1) (sm_name r.2.2.1) ∈ sm_tbl ∧ sm_lnk (sm_name M).cls idx r.2.2.1
  | .invokestatic idx => decode (sm_code M) r.1 = .ok (.invokestatic idx, 3) ∧ ((r.2.2.2 ≤ 2 ∧ sm_mok r.2.2.1 ∧ Cond.static (sm_name r.2.2.1) ∈ sm_tbl ∧ sm_lnk (sm_name M).cls idx r.2.2.1) ∨ (r.2.2.2 = 9 ∧ Cond.methodLink (sm_name M).cls idx arraycopyName ∈ sm_tbl ∧ Cond.native arraycopyName ∈ sm_tbl ∧ Cond.static arraycopyName ∈ sm_tbl ∧ Cond.initialized "java/lang/System" ∈ sm_tbl) ∨ (r.2.2.2 = 3 ∧ sm_mw (sm_name M).cls idx Lib.Math.min.name Lib.Math.min.code 2 .int) ∨ (r.2.2.2 = 4 ∧ sm_mw (sm_name M).cls idx Lib.Math.max.name Lib.Math.max.code 2 .int) ∨ (r.2.2.2 = 5 ∧ sm_mw (sm_name M).cls idx Lib.MathLoose.min_long.x Lib.MathLoose.min_long.code 4 .long) ∨ (r.2.2.2 = 6 ∧ sm_mw (sm_name M).cls idx Lib.MathLoose.max_long.x Lib.MathLoose.max_long.code 4 .long))
  | .invokespecial idx => decode (sm_code M) r.1 = .ok (.invokespecial idx, 3) ∧ ((r.2.2.2 = 2 ∧ Cond.methodLink (sm_name M).cls idx objectInit ∈ sm_tbl ∧ Cond.instanceMethod objectInit ∈ sm_tbl ∧ Cond.code objectInit ⟨#[0xb1]⟩ 1 none ∈ sm_tbl) ∨ (r.2.2.2 ≠ 2 ∧ sm_mok r.2.2.1 ∧ sm_mI r.2.2.1 ∧ (sm_name r.2.2.1).name = "<init>" ∧ sm_ret r.2.2.1 = none ∧ sm_lnk (sm_name M).cls idx r.2.2.1))
  | i => decode (sm_code M) r.1 = .ok (i, sm_ln i)
theorem sm_find_mem : ∀ {rs : List sm_row} {pc : Nat} {x : Instr × Nat × Nat}, sm_find rs pc = some x → (pc, x) ∈ rs
  | [], _, _, h => by cases h
  | r :: rs, pc, x, h => by
    unfold sm_find at h
    cases hq : Nat.beq r.1 pc with
    | true =>
      rw [hq] at h
      have e : r.1 = pc := Nat.eq_of_beq_eq_true hq
      have e2 : r.2 = x := Option.some.inj h
      exact List.mem_cons.mpr (Or.inl (by rw [← e, ← e2]))
    | false =>
      rw [hq] at h
      exact List.mem_cons_of_mem _ (sm_find_mem h)
theorem sm_i_inv {α : Type} {st : List Value} {f : Int32 → List Value → Option α} {w : α} (h : sm_i st f = some w) : ∃ x r, st = .int x :: r ∧ f x r = some w := by
  unfold sm_i at h; split at h
  · exact ⟨_, _, rfl, h⟩
  · cases h
theorem sm_ii_inv {α : Type} {st : List Value} {f : Int32 → Int32 → List Value → Option α} {w : α} (h : sm_ii st f = some w) : ∃ x y r, st = .int y :: .int x :: r ∧ f x y r = some w := by
  unfold sm_ii at h; split at h
  · exact ⟨_, _, _, rfl, h⟩
  · cases h
theorem sm_l_inv {α : Type} {st : List Value} {f : Int64 → List Value → Option α} {w : α} (h : sm_l st f = some w) : ∃ x r, st = .long x :: r ∧ f x r = some w := by
  unfold sm_l at h; split at h
  · exact ⟨_, _, rfl, h⟩
  · cases h
theorem sm_ll_inv {α : Type} {st : List Value} {f : Int64 → Int64 → List Value → Option α} {w : α} (h : sm_ll st f = some w) : ∃ x y r, st = .long y :: .long x :: r ∧ f x y r = some w := by
  unfold sm_ll at h; split at h
  · exact ⟨_, _, _, rfl, h⟩
  · cases h
theorem sm_li_inv {α : Type} {st : List Value} {f : Int64 → Int32 → List Value → Option α} {w : α} (h : sm_li st f = some w) : ∃ x y r, st = .int y :: .long x :: r ∧ f x y r = some w := by
  unfold sm_li at h; split at h
  · exact ⟨_, _, _, rfl, h⟩
  · cases h
theorem sm_r_inv {α : Type} {st : List Value} {f : Nat → List Value → Option α} {w : α} (h : sm_r st f = some w) : ∃ x r, st = .ref x :: r ∧ f x r = some w := by
  unfold sm_r at h; split at h
  · exact ⟨_, _, rfl, h⟩
  · cases h
theorem sm_v_inv {α : Type} {st : List Value} {f : Value → List Value → Option α} {w : α} (h : sm_v st f = some w) : ∃ x r, st = x :: r ∧ f x r = some w := by
  unfold sm_v at h; split at h
  · exact ⟨_, _, rfl, h⟩
  · cases h
theorem sm_b_inv {α : Type} {c : Bool} {x : Option α} {w : α} (h : (bif c then x else none) = some w) : c = true ∧ x = some w := by
  cases c
  · cases h
  · exact ⟨rfl, h⟩
theorem sm_obj_inv {α : Type} {h : sm_H} {q a : Nat} {f : List Value → Option α} {w : α} (e : sm_obj h q a f = some w) : ∃ fs, h[q]? = some (.inr (a, fs)) ∧ f fs = some w := by
  unfold sm_obj at e; split at e
  · next ci fs hq =>
    obtain ⟨e1, e2⟩ := sm_b_inv e
    have e3 : ci = a := Nat.eq_of_beq_eq_true e1
    exact ⟨fs, by rw [hq, e3], e2⟩
  · cases e
theorem sm_arr_inv {α : Type} {h : sm_H} {q : Nat} {f : Nat → sm_A → Option α} {w : α} (e : sm_arr h q f = some w) : ∃ t x, h[q]? = some (.inl (t, x)) ∧ f t x = some w := by
  unfold sm_arr at e; split at e
  · next t x hq => exact ⟨t, x, hq, e⟩
  · cases e
theorem sm_if_inv {α : Type} {c : Prop} {x : Option α} {w : α} {i : Decidable c} (h : (@ite _ c i none x) = some w) : ¬ c ∧ x = some w := by
  by_cases hc : c
  · rw [if_pos hc] at h; cases h
  · rw [if_neg hc] at h; exact ⟨hc, h⟩
theorem sm_arI_inv {α : Type} {h : sm_H} {q t0 : Nat} {i : Int32} {f : List Int32 → Option α} {w : α} (e : sm_arI h q t0 i f = some w) : ∃ g, h[q]? = some (.inl (t0, .inl g)) ∧ vp_in i g.length ∧ f g = some w := by
  unfold sm_arI at e; split at e
  · next t g hq =>
    obtain ⟨e1, e2⟩ := sm_b_inv e
    have e3 : t = t0 := Nat.eq_of_beq_eq_true e1
    obtain ⟨e4, e5⟩ := sm_if_inv e2
    exact ⟨g, by rw [hq, e3], e4, e5⟩
  · cases e
theorem sm_arL_inv {α : Type} {h : sm_H} {q : Nat} {i : Int32} {f : List Int64 → Option α} {w : α} (e : sm_arL h q i f = some w) : ∃ g, h[q]? = some (.inl (1, .inr (.inl g))) ∧ vp_in i g.length ∧ f g = some w := by
  unfold sm_arL at e; split at e
  · next t g hq =>
    obtain ⟨e1, e2⟩ := sm_b_inv e
    have e3 : t = 1 := Nat.eq_of_beq_eq_true e1
    obtain ⟨e4, e5⟩ := sm_if_inv e2
    exact ⟨g, by rw [hq, e3], e4, e5⟩
  · cases e
theorem sm_arQ_inv {α : Type} {h : sm_H} {q : Nat} {i : Int32} {f : List (Option Nat) → Option α} {w : α} (e : sm_arQ h q i f = some w) : ∃ g, h[q]? = some (.inl (4, .inr (.inr g))) ∧ vp_in i g.length ∧ f g = some w := by
  unfold sm_arQ at e; split at e
  · next t g hq =>
    obtain ⟨e1, e2⟩ := sm_b_inv e
    have e3 : t = 4 := Nat.eq_of_beq_eq_true e1
    obtain ⟨e4, e5⟩ := sm_if_inv e2
    exact ⟨g, by rw [hq, e3], e4, e5⟩
  · cases e
theorem sm_ldI_inv {lv : sm_L} {k : Nat} {f : Int32 → Option (Nat × sm_L × List Value)} {w : Nat × sm_L × List Value} (e : sm_ldI lv k f = some w) : ∃ x, sm_lk lv k = some (.int x) ∧ f x = some w := by
  unfold sm_ldI at e; split at e
  · next x hx => exact ⟨x, hx, e⟩
  · cases e
theorem sm_ldL_inv {lv : sm_L} {k : Nat} {f : Int64 → Option (Nat × sm_L × List Value)} {w : Nat × sm_L × List Value} (e : sm_ldL lv k f = some w) : ∃ x, sm_lk lv k = some (.long x) ∧ f x = some w := by
  unfold sm_ldL at e; split at e
  · next x hx => exact ⟨x, hx, e⟩
  · cases e
theorem sm_ldA_inv {lv : sm_L} {k : Nat} {f : Value → Option (Nat × sm_L × List Value)} {w : Nat × sm_L × List Value} (z : Nat) (b : UInt32 → Option Nat) (e : sm_ldA lv k f = some w) : ∃ v, sm_lk lv k = some v ∧ ((∃ y, sm_rv z b v = .ref y) ∨ sm_rv z b v = .null) ∧ f v = some w := by
  unfold sm_ldA at e; split at e
  · next x hx => exact ⟨_, hx, Or.inl ⟨z + x, rfl⟩, e⟩
  · next u hx =>
    refine ⟨_, hx, ?_, e⟩
    show (∃ y, va_rf (b u) = .ref y) ∨ va_rf (b u) = .null
    cases b u with
    | none => exact Or.inr rfl
    | some y => exact Or.inl ⟨y, rfl⟩
  · cases e
theorem sm_sK_inv {u : UInt32} {i : Nat} (h : sm_sK u = some i) : i < sm_nS ∧ u = UInt32.ofNat (2 * i + 1) := by
  unfold sm_sK at h
  obtain ⟨h1, h2⟩ := sm_b_inv h
  rw [Bool.and_eq_true] at h1
  have e1 := Nat.eq_of_beq_eq_true h1.1
  have e2 : (u.toNat - 1) / 2 = i := Option.some.inj h2
  have e3 : (u.toNat - 1) / 2 < sm_nS := Nat.le_of_ble_eq_true h1.2
  have e4 : u.toNat = 2 * i + 1 := by omega
  exact ⟨by omega, by rw [← e4, UInt32.ofNat_toNat]⟩
theorem sm_sV_inv {u : UInt32} {i : Nat} (h : sm_sV u = some i) : i < sm_nS ∧ u = UInt32.ofNat (2 * i + 2) := by
  unfold sm_sV at h
  obtain ⟨h1, h2⟩ := sm_b_inv h
  rw [Bool.and_eq_true, Bool.and_eq_true] at h1
  have e1 := Nat.eq_of_beq_eq_true h1.1.1
  have e0 : 0 < u.toNat := Nat.le_of_ble_eq_true h1.1.2
  have e2 : (u.toNat - 2) / 2 = i := Option.some.inj h2
  have e3 : (u.toNat - 2) / 2 < sm_nS := Nat.le_of_ble_eq_true h1.2
  have e4 : u.toNat = 2 * i + 2 := by omega
  exact ⟨by omega, by rw [← e4, UInt32.ofNat_toNat]⟩
theorem sm_blt {a b : Nat} (h : Nat.blt a b = true) : a < b := Nat.le_of_ble_eq_true h
theorem sm_beq {a b : Nat} (h : Nat.beq a b = true) : a = b := Nat.eq_of_beq_eq_true h
theorem sm_tgt_inv {pc : Nat} {off : Int} {lv : sm_L} {st : List Value} {w : Nat × sm_L × List Value} (e : sm_tgt pc off lv st = some w) : ∃ t : Nat, (pc : Int) + off = (t : Int) ∧ w = (t, lv, st) := by
  unfold sm_tgt at e; split at e
  · next h => exact ⟨_, (Int.toNat_of_nonneg h).symm, (Option.some.inj e).symm⟩
  · cases e
