/-! THE LAW'S LOOP: the calls -/
section M9z
variable {L i pc pc' : Nat} {xs : Nat → Int32} {st st' st2 : List Value} {m : Mm} {cl : List Nat} {D : Db} {P : Nat → List (List Int64)} {a : An}
/-- equal answers -/
theorem l_eq {w : Int32} {ta tb_ : Nat} {off : Int} (hf : sm_find (sm_tab 0) pc = some (.if_icmp .eq off, ta, tb_)) (hp_ : sm_p (some (L, xs)) (sm_maxL 0) pc (.if_icmp .eq off) ta tb_ (lvL i) [.int w, .int w] (hp m) = if w = w then some (450, lvL i, []) else some (pc + 3, lvL i, [])) (k : RL0 L xs i 450 [] m) : RL0 L xs i pc [.int w, .int w] m := by
  obtain ⟨m', hm, hr⟩ := k
  exact ⟨m', hm, rn_t (pc' := 450) (lv' := lvL i) (st' := []) hf hp_ rfl hr⟩
set_option maxRecDepth 20000 in
theorem l_erase (h : WS m cl D P a) (k : ∀ m', WS m' cl.dropLast D P a → RL0 L xs i 450 [] m') : RL0 L xs i 129 [] m := by
  refine l_p (pc' := 130) (st' := [.ref 0]) rfl rfl ?_
  refine l_call (M := 3) (As := [.ref 0]) (r := []) (d := 40) rfl rfl (by decide) rfl (w_erase (K := fun v m' => v = some (.int (bI (cl.length ≠ 0))) ∧ WS m' cl.dropLast D P a) h (fun m' hw => ⟨rfl, hw⟩)) ?_
  rintro v m1 ⟨w, rfl, rfl, c2⟩
  refine l_p (pc' := 134) (st' := [.ref 42, .int (bI (cl.length ≠ 0))]) rfl rfl ?_
  refine l_call (M := 133) (As := [.ref 42]) (r := [.int (bI (cl.length ≠ 0))]) (d := 40) rfl rfl (by decide) rfl c2 ?_
  rintro v m2 ⟨rfl, hw⟩
  obtain ⟨m', hm, hr⟩ := k m2 hw
  exact ⟨m', hm, rn_t (pc' := 450) (lv' := lvL i) (st' := []) rfl rfl rfl hr⟩
set_option maxRecDepth 20000 in
theorem l_run (h : WS m cl D P a) (k : ∀ m' P', WS m' [] (rnD D cl) P' (rnA D cl) → RL0 L xs i 450 [] m') : RL0 L xs i 142 [] m := by
  refine l_p (pc' := 143) (st' := [.ref 0]) rfl rfl ?_
  refine l_call (M := 4) (As := [.ref 0]) (r := []) (d := 48) rfl rfl (by decide) rfl (w_run (d := 30) (K := fun v m' => v = some (.int (nI (rnC D cl))) ∧ ∃ P', WS m' [] (rnD D cl) P' (rnA D cl)) h (fun m' P' hw => ⟨rfl, P', hw⟩)) ?_
  rintro v m1 ⟨w, rfl, rfl, c2⟩
  refine l_p (pc' := 147) (st' := [.ref 42, .int (nI (rnC D cl))]) rfl rfl ?_
  refine l_call (M := 166) (As := [.ref 42]) (r := [.int (nI (rnC D cl))]) (d := 42) rfl rfl (by decide) rfl c2 ?_
  rintro v m2 ⟨rfl, P', hw⟩
  obtain ⟨m', hm, hr⟩ := k m2 P' hw
  exact ⟨m', hm, rn_t (pc' := 450) (lv' := lvL i) (st' := []) rfl rfl rfl hr⟩
set_option maxRecDepth 20000 in
theorem l_len (h : WS m cl D P a) (k : RL0 L xs i 450 [] m) : RL0 L xs i 155 [] m := by
  refine l_p (pc' := 156) (st' := [.ref 0]) rfl rfl ?_
  refine l_call (M := 5) (As := [.ref 0]) (r := []) (d := 40) (K := fun v m1 => v = some (.int (nI cl.length)) ∧ m1 = m) rfl rfl (by decide) rfl (sp_5 ⟨by rw [h.2.2.2.1], rfl⟩) ?_
  rintro v m1 ⟨rfl, rfl⟩
  refine l_p (pc' := 160) (st' := [.ref 42, .int (nI cl.length)]) rfl rfl ?_
  refine l_call (M := 134) (As := [.ref 42]) (r := [.int (nI cl.length)]) (d := 40) (K := fun v m2 => v = some (.int (nI cl.length)) ∧ m2 = m1) rfl rfl (by decide) rfl (sp_134 ⟨by rw [h.2.2.2.2.1], rfl⟩) ?_
  rintro v m2 ⟨rfl, rfl⟩
  obtain ⟨m', hm, hr⟩ := k
  exact ⟨m', hm, rn_t (pc' := 450) (lv' := lvL i) (st' := []) rfl rfl rfl hr⟩
set_option maxRecDepth 20000 in
theorem l_rows (h : WS m cl D P a) (k : RL0 L xs i 450 [] m) : RL0 L xs i 168 [] m := by
  refine l_p (pc' := 169) (st' := [.ref 0]) rfl rfl ?_
  refine l_call (M := 6) (As := [.ref 0]) (r := []) (d := 40) (K := fun v m1 => v = some (.int (nI a.1)) ∧ m1 = m) rfl rfl (by decide) rfl (sp_6 ⟨by rw [h.2.2.2.2.2.1.1], rfl⟩) ?_
  rintro v m1 ⟨rfl, rfl⟩
  refine l_p (pc' := 173) (st' := [.ref 42, .int (nI a.1)]) rfl rfl ?_
  refine l_call (M := 187) (As := [.ref 42]) (r := [.int (nI a.1)]) (d := 40) (K := fun v m2 => v = some (.int (nI a.1)) ∧ m2 = m1) rfl rfl (by decide) rfl (sp_187 ⟨by rw [h.2.2.2.2.2.2.1.1], rfl⟩) ?_
  rintro v m2 ⟨rfl, rfl⟩
  obtain ⟨m', hm, hr⟩ := k
  exact ⟨m', hm, rn_t (pc' := 450) (lv' := lvL i) (st' := []) rfl rfl rfl hr⟩
set_option maxRecDepth 20000 in
theorem l_wide (h : WS m cl D P a) (k : RL0 L xs i 450 [] m) : RL0 L xs i 181 [] m := by
  refine l_p (pc' := 182) (st' := [.ref 0]) rfl rfl ?_
  refine l_call (M := 7) (As := [.ref 0]) (r := []) (d := 40) (K := fun v m1 => v = some (.int (nI a.2.1)) ∧ m1 = m) rfl rfl (by decide) rfl (sp_7 ⟨by rw [h.2.2.2.2.2.1.2.1], rfl⟩) ?_
  rintro v m1 ⟨rfl, rfl⟩
  refine l_p (pc' := 186) (st' := [.ref 42, .int (nI a.2.1)]) rfl rfl ?_
  refine l_call (M := 188) (As := [.ref 42]) (r := [.int (nI a.2.1)]) (d := 40) (K := fun v m2 => v = some (.int (nI a.2.1)) ∧ m2 = m1) rfl rfl (by decide) rfl (sp_188 ⟨by rw [h.2.2.2.2.2.2.1.2.1], rfl⟩) ?_
  rintro v m2 ⟨rfl, rfl⟩
  obtain ⟨m', hm, hr⟩ := k
  exact ⟨m', hm, rn_t (pc' := 450) (lv' := lvL i) (st' := []) rfl rfl rfl hr⟩
set_option maxRecDepth 20000 in
theorem l_reads (h : WS m cl D P a) (k : RL0 L xs i 450 [] m) : RL0 L xs i 228 [] m := by
  refine l_p (pc' := 229) (st' := [.ref 0]) rfl rfl ?_
  refine l_call (M := 9) (As := [.ref 0]) (r := []) (d := 40) (K := fun v m1 => v = some (.int (nI a.2.2.1)) ∧ m1 = m) rfl rfl (by decide) rfl (sp_9 ⟨by rw [h.2.2.2.2.2.1.2.2.1], rfl⟩) ?_
  rintro v m1 ⟨rfl, rfl⟩
  refine l_p (pc' := 233) (st' := [.ref 42, .int (nI a.2.2.1)]) rfl rfl ?_
  refine l_call (M := 190) (As := [.ref 42]) (r := [.int (nI a.2.2.1)]) (d := 40) (K := fun v m2 => v = some (.int (nI a.2.2.1)) ∧ m2 = m1) rfl rfl (by decide) rfl (sp_190 ⟨by rw [h.2.2.2.2.2.2.1.2.2.1], rfl⟩) ?_
  rintro v m2 ⟨rfl, rfl⟩
  obtain ⟨m', hm, hr⟩ := k
  exact ⟨m', hm, rn_t (pc' := 450) (lv' := lvL i) (st' := []) rfl rfl rfl hr⟩
set_option maxRecDepth 20000 in
theorem l_plan (h : WS m cl D P a) (k : RL0 L xs i 450 [] m) : RL0 L xs i 241 [] m := by
  refine l_p (pc' := 242) (st' := [.ref 0]) rfl rfl ?_
  refine l_call (M := 10) (As := [.ref 0]) (r := []) (d := 40) (K := fun v m1 => v = some (.int (nI a.2.2.2.1)) ∧ m1 = m) rfl rfl (by decide) rfl (sp_10 ⟨by rw [h.2.2.2.2.2.1.2.2.2.1], rfl⟩) ?_
  rintro v m1 ⟨rfl, rfl⟩
  refine l_p (pc' := 246) (st' := [.ref 42, .int (nI a.2.2.2.1)]) rfl rfl ?_
  refine l_call (M := 191) (As := [.ref 42]) (r := [.int (nI a.2.2.2.1)]) (d := 40) (K := fun v m2 => v = some (.int (nI a.2.2.2.1)) ∧ m2 = m1) rfl rfl (by decide) rfl (sp_191 ⟨by rw [h.2.2.2.2.2.2.1.2.2.2.1], rfl⟩) ?_
  rintro v m2 ⟨rfl, rfl⟩
  obtain ⟨m', hm, hr⟩ := k
  exact ⟨m', hm, rn_t (pc' := 450) (lv' := lvL i) (st' := []) rfl rfl rfl hr⟩
end M9z
