/-! THE LAW'S LOOP: tools -/
def lvL (i : Nat) : sm_L := [(3, .int (nI i)), (2, .ref 42), (1, .ref 0), (0, .float 0)]
def RL0 (L : Nat) (xs : Nat → Int32) (i pc : Nat) (st : List Value) (m : Mm) : Prop := ∃ m', Len m' ∧ sm_run (some (L, xs)) 60 0 pc (lvL i) st (hp m) (some (.int 1), hp m')
section L9y
variable {L i pc pc' : Nat} {xs : Nat → Int32} {st st' st2 : List Value} {m : Mm}
/-- a call -/
theorem l_call {idx M b d : Nat} {As r : List Value} {K : Option Value → Mm → Prop} (hf : sm_find (sm_tab 0) pc = some (.invokevirtual idx, M, b)) (hv : sm_inv true M st (hp m) = some (As, r)) (hd : d ≤ 59) (hpc : pc + 3 = pc') (c : WP d M As m K) (k : ∀ v m1, K v m1 → RL0 L xs i pc' (v.toList ++ r) m1) : RL0 L xs i pc st m := by
  obtain ⟨v, g, h1, m1, h2, h3⟩ := c
  obtain ⟨m', hL, hr⟩ := k v m1 h3
  subst h2
  exact ⟨m', hL, rn_cv (d := 59) hf hv rfl hpc (sm_run.to h1 hd) hr⟩
/-- a step -/
theorem l_p {a b : Nat} {ins : Instr} (hf : sm_find (sm_tab 0) pc = some (ins, a, b)) (hp_ : sm_p (some (L, xs)) (sm_maxL 0) pc ins a b (lvL i) st (hp m) = some (pc', lvL i, st')) (k : RL0 L xs i pc' st' m) : RL0 L xs i pc st m := by
  obtain ⟨m', hL, hr⟩ := k
  exact ⟨m', hL, rn_p hf hp_ hr⟩
end L9y
