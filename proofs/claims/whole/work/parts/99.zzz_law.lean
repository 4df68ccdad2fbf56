/-! THE LAW'S LOOP: the calls -/
section M9z
variable {L i pc pc' : Nat} {xs : Nat → Int32} {st st' st2 : List Value} {m : Mm} {cl : List Nat} {D : Db} {P : Nat → List (List Int64)} {a : An}
/-- equal answers -/
theorem l_eq {w : Int32} {ta tb_ : Nat} {off : Int} (hf : sm_find (sm_tab 0) pc = some (.if_icmp .eq off, ta, tb_)) (hp_ : sm_p (some (L, xs)) (sm_maxL 0) pc (.if_icmp .eq off) ta tb_ (lvL i) [.int w, .int w] (hp m) = if w = w then some (450, lvL i, []) else some (pc + 3, lvL i, [])) (k : RL0 L xs i 450 [] m) : RL0 L xs i pc [.int w, .int w] m := by
  obtain ⟨m', hm, hr⟩ := k
  exact ⟨m', hm, rn_t (pc' := 450) (lv' := lvL i) (st' := []) hf hp_ rfl hr⟩
set_option maxRecDepth 20000 in
theorem l_erase (h : WS m cl D P a) (k : ∀ m', WS m' cl.dropLast D P a → RL0 L xs i 450 [] m') : RL0 L xs i 129 [] m := by
  refine l_p (pc' := 130) (st' := [.ref 0]) rfl rfl ?_
  refine l_call (M := 3) (As := [.ref 0]) (r := []) (d := 40) rfl rfl (by decide) rfl (w_erase (K := fun v m' => v = some (.int (bI (cl.length ≠ 0))) ∧ WS m' cl.dropLast D P a) h (fun m' hw => ⟨rfl, hw⟩)) ?_
  rintro v m1 ⟨w, rfl, rfl, c2⟩
  refine l_p (pc' := 134) (st' := [.ref 42, .int (bI (cl.length ≠ 0))]) rfl rfl ?_
  refine l_call (M := 133) (As := [.ref 42]) (r := [.int (bI (cl.length ≠ 0))]) (d := 40) rfl rfl (by decide) rfl c2 ?_
  rintro v m2 ⟨rfl, hw⟩
  obtain ⟨m', hm, hr⟩ := k m2 hw
  exact ⟨m', hm, rn_t (pc' := 450) (lv' := lvL i) (st' := []) rfl rfl rfl hr⟩
end M9z
