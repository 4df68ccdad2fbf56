/-! THE CLAIM OUT OF ONE WALK OF THE LAW'S BODY. Your part is whole_start (and what it stands on); all else here is the same for every law, but numbers. -/
def R_law : String := "QueryTablesLaw"
def lw_P (b : Addr) (xs : List Int32) (args : Array Value) (s : State) : Prop := args = #[.ref b] ∧ s.IntsAt b xs ∧ xs.length ≤ 2560 ∧ (Jvm.Cond.and given_1 narrow_1).before args s = true
def lw_Q (_ : Array Value) (s : State) (o : Outcome) (t : State) : Prop := o = .returned (some (.int 1)) ∧ Framed s o t [] 600000 7302250
def lw_Z (below : List Frame) (a : Array Value) (s : State) : State → Prop := fun t => ∃ o, t.status = .running ∧ Ended t below o ∧ lw_Q a s o t
/-- the law's own end, with 1 on the stack, nothing written that was there before, its room as the claim has it -/
theorem lw_ret {p : Program} {l : Launch} {e : Env} {s : State} {m : MethodId} {below : List Frame} {meth : Method} {c : Code} {b : Nat} (hx : p.tables.exec = Jvm.exec) (hb : c.code = code) (hr : meth.sig.returnType = ret) (hlocks : meth.locks = false) {pc : Nat} {H : Heap} {ls : Array Slot} (hdg : decode code pc = .ok (.ireturn, 1)) : W p l e room_1 s m #[Value.ref b] below meth c H [] 600000 7302250 (lw_Z below #[Value.ref b] s) (F0 m pc ls [.int 1]) := by
  intro T hT X
  obtain ⟨fs, hret, hrun, hended, hW, hframe⟩ := X.leave (v := some (.int 1)) (hlocks := hlocks) (fun h => by rw [hr] at h; cases h)
  have hmeth' : T.vm.method? m = some meth := X.method'
  refine ⟨T.setFrames fs, ?_, .returned (some (.int 1)), hrun, hended, rfl, ⟨_, rfl⟩, hW, hframe⟩
  jvm_step X.here [X.here.top, hx, hb, hdg, hmeth', hr, ret, narrow_b1]
  (try refine ⟨rfl, ?_⟩); (try refine ⟨rfl, ?_⟩)
  first | (intro acts; rw [hret _ acts rfl rfl rfl]) | rw [hret _ _ rfl rfl rfl]
  exact Steps.refl _
/-- what holds at the law's entry: the machine, the code, the tables' words (any of lw_tbl by 'hts w (by decide +kernel)'), the script of L ints xs at the cell b, what the Statement gives of the start (any of its parts by flat_of_before) -/
def lw_At (p : Program) (s : State) (m : MethodId) (meth : Method) (c : Code) (b L : Nat) (xs : Nat → Int32) : Prop :=
  p.tables.exec = Jvm.exec ∧ c.code = code ∧ meth.sig.returnType = ret ∧ c.maxLocals = 4 ∧ s.vm.findClass R_law = some m.cls ∧ (∀ w ∈ lw_tbl, w.before #[Value.ref b] s = true) ∧ va_X b L xs s s.heap ∧ b < s.heap.size ∧ meth.locks = false ∧ (Jvm.Cond.and given_1 narrow_1).before #[Value.ref b] s = true
/-! from the law's entry to the small machine -/
theorem sm_D_ex {s : State} (hwd : ∀ w ∈ sm_tbl, ∀ a : Array Value, w.before a s = true) : ∃ D : va_G, ∀ (c : Nat) (q : vw_C), sm_classes[c]? = some q → u_Kn s q.1 q.2.1 q.2.2 (D.1 c) (D.2 c) := by
  have h : ∀ c : Nat, ∃ d : ClassId × (Nat → Nat), ∀ q : vw_C, sm_classes[c]? = some q → u_Kn s q.1 q.2.1 q.2.2 d.1 d.2 := by
    intro c
    cases hc : sm_classes[c]? with
    | none => exact ⟨(0, fun _ => 0), fun q hq => by cases hq⟩
    | some q =>
      obtain ⟨c1, -, -, c4, -⟩ := sm_cls c q hc
      obtain ⟨cC, iS, hK⟩ := u_known (fun w hw => hwd w hw #[]) c1 (hwd _ c4 #[])
      exact ⟨(cC, iS), fun q' hq => by cases hq; exact hK⟩
  have h2 := Classical.axiomOfChoice h
  obtain ⟨f, hf⟩ := h2
  exact ⟨(fun c => (f c).1, fun c => (f c).2), hf⟩
theorem sm_A_pr {s : State} {ty : FieldType} (hp : ∀ cB : ClassId, s.vm.findClass ("[" ++ ty.toString) = some cB → va_RA s cB ty) (h : (Cond.arrayClass ty).before #[] s = true) : ∃ cB : ClassId, ArrOfT s cB ty ∧ va_RA s cB ty := by
  obtain ⟨cB, kB, comp, hcB, hkB, hkind⟩ := Cond.arrayClass_spec h
  exact ⟨cB, fun n z => ⟨fun k h => (by cases h), kB, hkB, comp, hkind⟩, hp cB hcB⟩
theorem sm_A_ex {s : State} (hwd : ∀ w ∈ sm_tbl, ∀ a : Array Value, w.before a s = true) : ∃ cA : Nat → ClassId, ∀ (k : Nat) (q : ClassId × FieldType), (sm_tys cA)[k]? = some q → ArrOfT s q.1 q.2 ∧ va_RA s q.1 q.2 := by
  obtain ⟨c0, h0⟩ := sm_A_pr (s := s) (ty := .int) (fun _ h => h) (hwd _ sm_aI #[])
  obtain ⟨c1, h1⟩ := sm_A_pr (s := s) (ty := .long) (fun _ h => h) (hwd _ sm_aL #[])
  obtain ⟨c2, h2⟩ := sm_A_pr (s := s) (ty := .char) (fun _ h => h) (hwd _ sm_aC #[])
  obtain ⟨c3, h3⟩ := sm_A_pr (s := s) (ty := .boolean) (fun _ h => h) (hwd _ sm_aZ #[])
  obtain ⟨comp, c4, k4, e1, -, e2, e3, e4⟩ := Cond.arrayOver_spec (hwd _ sm_aT #[])
  have h4 : ArrOfT s c4 (.object sm_cT) ∧ va_RA s c4 (.object sm_cT) := ⟨fun n z => ⟨fun k h => (by cases h), k4, e2, comp, e3⟩, k4, comp, e2, e3, e1, e4⟩
  refine ⟨fun t => match t with | 0 => c0 | 1 => c1 | 2 => c2 | 3 => c3 | _ => c4, fun k q hk => ?_⟩
  have hk5 : k < 5 := (List.getElem?_eq_some_iff.mp hk).1
  rcases (show k = 0 ∨ k = 1 ∨ k = 2 ∨ k = 3 ∨ k = 4 by omega) with rfl | rfl | rfl | rfl | rfl
  · cases hk; exact h0
  · cases hk; exact h1
  · cases hk; exact h2
  · cases hk; exact h3
  · cases hk; exact h4
theorem sm_start {p : Program} {e : Env} {s : State} {m : MethodId} {below : List Frame} {meth : Method} {c : Code} (l : Launch) {b L : Nat} {xs : Nat → Int32} (C0 : lw_At p s m meth c b L xs) {h' : sm_H} (hex : sm_run (some (L, xs)) 60 0 0 [(0, .float 0)] [] [] (some (.int 1), h')) (hc : h'.length ≤ 600000) (hs : sm_ss h' ≤ 7302250) : W p l e room_1 s m #[Value.ref b] below meth c s.heap [] 0 0 (lw_Z below #[Value.ref b] s) (entryFrame m ([Value.ref b] : List Value).toArray 4) := by
  obtain ⟨n, hex⟩ := hex
  obtain ⟨hx, hcode, hret, hml, hown, hts, hX, hbl, hlocks, hgv⟩ := C0
  have hwd : ∀ w ∈ sm_tbl, ∀ a : Array Value, w.before a s = true := fun w hw a => sm_warm (sm_good w hw) (State.WarmedH.refl s) (hts w (sm_in w hw))
  obtain ⟨D, hD⟩ := sm_D_ex hwd
  obtain ⟨cA, hA⟩ := sm_A_ex hwd
  obtain ⟨bx, hb0, hT⟩ := sm_T_ex (sb := b) hts (sm_a2 hgv)
  have hF : sm_Fr s.heap.size bx L xs s.heap D cA p s m meth c 0 := ⟨hx, hcode, hml, hown, hret, hlocks, fun h => absurd h (by decide), ⟨hD, hA⟩, ⟨b, hb0, hX, hbl⟩, hwd, hT⟩
  have hl := lv_entry [Value.ref b] (n := 4) (Nat.le_of_ble_eq_true rfl)
  rw [lg_entry_eq]
  generalize (lg_sl [Value.ref b] ++ List.replicate (4 - (lg_sl [Value.ref b]).length) Slot.unset).toArray = ls at hl ⊢
  have hl : lv_has ls (sm_maxL 0) (sm_ml s.heap.size bx [(0, .float 0)]) := by
    show lv_has ls _ [(0, va_rf (bx 0))]
    rw [hb0]
    exact hl
  have S := sm_sound (z := s.heap.size) (b := bx) (H00 := s.heap) (D := D) (cA := cA) n 60 0 0 _ _ _ _ _ hex
  have z0 : sm_ss [] = 0 := rfl
  refine S.2 p l e room_1 s m _ below meth c _ ls s.heap [] 0 0 hF ⟨rfl, fun _ _ => rfl, fun k q hk => ?_⟩ (fun w hw => by cases hw) hl (by decide) (by decide) ?_ ?_ ?_
  · rw [sm_ws_get] at hk; cases hk
  · show 0 + (h'.length - 0) ≤ 600000
    omega
  · show 0 + (sm_ss h' - sm_ss []) ≤ 7302250
    rw [z0]
    omega
  · intro H' locs' pc' ls' hR' hlo' hrk
    rcases hrk with ⟨x, ty, hv, hd, -, -⟩ | ⟨x, hv, -⟩ | ⟨k, C, hv, -⟩ | ⟨hv, -⟩
    · refine W.widen (k := 600000) (n := 7302250) ?_ ?_ (va_forget hlo' (lw_ret hx hcode hret hlocks hd))
      · show 0 + (h'.length - 0) ≤ 600000
        omega
      · rw [z0]
        omega
    · cases hv
    · cases hv
    · cases hv
