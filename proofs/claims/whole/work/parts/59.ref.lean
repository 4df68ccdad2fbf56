/-! LEXING, the reference: split() -/
section R59
variable {d : Nat} {m m0 m1 : Mm} {K : Option Value → Mm → Prop} {c k : Nat} {cl : List Nat}
theorem r_let (hc : c < 65536) (k : K (some (.int (bI (isL c = true)))) m) : WP d 135 [.int (nI c)] m K := by
  refine sp_135 _ ?_
  simp (disch := omega) only [nIlt]
  unfold isL at k
  split
  · rw [bI_f (by rw [decide_eq_true_eq]; omega)] at k; exact k
  · split
    · rw [bI_f (by rw [decide_eq_true_eq]; omega)] at k; exact k
    · rw [bI_t (by rw [decide_eq_true_eq]; omega)] at k; exact k
theorem r_dig (hc : c < 65536) (k : K (some (.int (bI (isD c = true)))) m) : WP d 136 [.int (nI c)] m K := by
  refine sp_136 _ ?_
  simp (disch := omega) only [nIlt]
  unfold isD at k
  split
  · rw [bI_f (by rw [decide_eq_true_eq]; omega)] at k; exact k
  · split
    · rw [bI_f (by rw [decide_eq_true_eq]; omega)] at k; exact k
    · rw [bI_t (by rw [decide_eq_true_eq]; omega)] at k; exact k
theorem r_sig (hc : c < 65536) (k : K (some (.int (bI (isS c = true)))) m) : WP d 137 [.int (nI c)] m K := by
  have yes : isS c = true → K (some (.int (nI 1))) m := fun h => by rw [bI_t h] at k; exact k
  have no : ¬ isS c = true → K (some (.int (nI 0))) m := fun h => by rw [bI_f h] at k; exact k
  have tl : ¬ (40 ≤ c ∧ c ≤ 47) → (if c = 91 then K (some (.int (nI 1))) m else (if c = 93 then K (some (.int (nI 1))) m else (if c = 61 then K (some (.int (nI 1))) m else (if c = 60 then K (some (.int (nI 1))) m else (if c = 62 then K (some (.int (nI 1))) m else K (some (.int (nI 0))) m))))) := by
    intro h
    by_cases h1 : c = 91
    · rw [if_pos h1]; exact yes (isS_iff.mpr (by omega))
    rw [if_neg h1]
    by_cases h2 : c = 93
    · rw [if_pos h2]; exact yes (isS_iff.mpr (by omega))
    rw [if_neg h2]
    by_cases h3 : c = 61
    · rw [if_pos h3]; exact yes (isS_iff.mpr (by omega))
    rw [if_neg h3]
    by_cases h4 : c = 60
    · rw [if_pos h4]; exact yes (isS_iff.mpr (by omega))
    rw [if_neg h4]
    by_cases h5 : c = 62
    · rw [if_pos h5]; exact yes (isS_iff.mpr (by omega))
    rw [if_neg h5]
    exact no (fun z => by have := isS_iff.mp z; omega)
  refine sp_137 _ ?_
  simp (disch := omega) only [nIlt, nIle, nIeq]
  by_cases h1 : c < 40
  · rw [if_pos h1]; exact tl (by omega)
  · rw [if_neg h1]
    by_cases h2 : c ≤ 47
    · rw [if_pos h2]; exact yes (isS_iff.mpr (by omega))
    · rw [if_neg h2]; exact tl (by omega)
/-- the value of a word that is being read, of a number -/
def wv (n a : Nat) : Int32 := if n ≤ 6 then nI a else -1
def dv (n a : Nat) : Int32 := if n ≤ 9 then nI a else nI 0
theorem w60 (hL : Len m) (hX : TX 43 m cl) (h1 : m.F 42 1 = nI cl.length) {x2 : Int32} : ∀ (u : List Nat) (rest : List Nat) (n a : Nat), cl.drop (k + n) = u ++ rest → (∀ c, c ∈ u → isL c = true) → (∀ c r, rest = c :: r → isL c ≠ true) → (n ≤ 6 → a < 32 ^ n) → k + n ≤ cl.length → WH (d + 1) 138 178 [(0, .ref 42), (1, .int (nI k)), (2, .int x2), (3, .int (nI (n + u.length))), (4, .int (wv (n + u.length) (cdw a u))), (5, .int (nI 1))] [] m K → WH (d + 1) 138 60 [(0, .ref 42), (1, .int (nI k)), (2, .int x2), (3, .int (nI n)), (4, .int (wv n a)), (5, .int (nI 1))] [] m K := by
  have l1 : (m.A 43).length = 100 := hL.a (by decide) rfl
  have hcl := hX.1
  intro u
  induction u with
  | nil =>
    intro rest n a hd hu hr ha hkn hK
    have hK : WH (d + 1) 138 178 [(0, .ref 42), (1, .int (nI k)), (2, .int x2), (3, .int (nI n)), (4, .int (wv n a)), (5, .int (nI 1))] [] m K := hK
    refine sg_138_60 _ _ _ _ _ ?_
    rw [nI_add]
    simp (disch := omega) only [h1, nIle]
    by_cases he : cl.length ≤ k + n
    · rw [if_pos he]; exact hK
    · rw [if_neg he, if_pos trivial]
      cases rest with
      | nil =>
        have := drop_nil hd hkn
        omega
      | cons c r =>
        have hc := hX.at hd
        rw [l1, ix_nI (by omega), hc.1]
        refine ⟨ok_nI (by omega) (by decide), r_let (by omega) ⟨_, rfl, ?_⟩⟩
        rw [bI_f (hr c r rfl), if_pos rfl]
        exact hK
  | cons c u ih =>
    intro rest n a hd hu hr ha hkn hK
    have hc := hX.at hd
    have hdc := drop_cons hd
    have hcl2 := isL_iff.mp (hu c (List.mem_cons_self ..))
    refine sg_138_60 _ _ _ _ _ ?_
    rw [nI_add]
    simp (disch := omega) only [h1, nIle]
    rw [if_neg (by omega), if_pos trivial, l1, ix_nI (by omega), hc.1]
    refine ⟨ok_nI (by omega) (by decide), r_let (by omega) ⟨_, rfl, ?_⟩⟩
    rw [bI_t (hu c (List.mem_cons_self ..)), if_neg (by decide)]
    refine sg_138_107 _ _ _ _ _ ?_
    rw [if_neg (by decide), nI_add, nI_add]
    have e1 : n + (c :: u).length = (n + 1) + u.length := by rw [List.length_cons]; omega
    rw [e1] at hK
    have hd2 : cl.drop (k + (n + 1)) = u ++ rest := hdc.2.2.1
    by_cases h6 : 6 ≤ n
    · rw [if_pos (by rw [nIle (by omega) (by omega)]; exact h6)]
      have e2 : (-1 : Int32) = wv (n + 1) (32 * a + (c - 96)) := by unfold wv; rw [if_neg (by omega)]
      rw [e2]
      exact ih rest (n + 1) (32 * a + (c - 96)) hd2 (fun x hx => hu x (List.mem_cons_of_mem _ hx)) hr (fun z => by omega) (by omega) hK
    · rw [if_neg (by rw [nIle (by omega) (by omega)]; exact h6), l1, ix_nI (by omega), hc.1]
      refine ⟨ok_nI (by omega) (by decide), ?_⟩
      have ha' := ha (by omega)
      have hp : (32 : Nat) ^ n ≤ 32 ^ 5 := Nat.pow_le_pow_right (by decide) (by omega)
      have e0 : wv n a = nI a := by unfold wv; rw [if_pos (by omega)]
      have e2 : nI 32 * wv n a + nI c - nI 96 = wv (n + 1) (32 * a + (c - 96)) := by
        rw [e0, pk_mul, nI_add, nIsub (by omega)]
        unfold wv
        rw [if_pos (by omega)]
        congr 1
        omega
      rw [e2]
      refine ih rest (n + 1) (32 * a + (c - 96)) hd2 (fun x hx => hu x (List.mem_cons_of_mem _ hx)) hr (fun z => ?_) (by omega) hK
      rw [Nat.pow_succ]; omega
theorem d60 (hL : Len m) (hX : TX 43 m cl) (h1 : m.F 42 1 = nI cl.length) {x2 : Int32} : ∀ (u : List Nat) (rest : List Nat) (n a : Nat), cl.drop (k + n) = u ++ rest → (∀ c, c ∈ u → isD c = true) → (∀ c r, rest = c :: r → isD c ≠ true) → (n ≤ 9 → a < 10 ^ n) → k + n ≤ cl.length → WH (d + 1) 138 178 [(0, .ref 42), (1, .int (nI k)), (2, .int x2), (3, .int (nI (n + u.length))), (4, .int (dv (n + u.length) (dvl a u))), (5, .int (nI 3))] [] m K → WH (d + 1) 138 60 [(0, .ref 42), (1, .int (nI k)), (2, .int x2), (3, .int (nI n)), (4, .int (dv n a)), (5, .int (nI 3))] [] m K := by
  have l1 : (m.A 43).length = 100 := hL.a (by decide) rfl
  have hcl := hX.1
  intro u
  induction u with
  | nil =>
    intro rest n a hd hu hr ha hkn hK
    have hK : WH (d + 1) 138 178 [(0, .ref 42), (1, .int (nI k)), (2, .int x2), (3, .int (nI n)), (4, .int (dv n a)), (5, .int (nI 3))] [] m K := hK
    refine sg_138_60 _ _ _ _ _ ?_
    rw [nI_add]
    simp (disch := omega) only [h1, nIle]
    by_cases he : cl.length ≤ k + n
    · rw [if_pos he]; exact hK
    · rw [if_neg he, if_neg (by decide)]
      cases rest with
      | nil =>
        have := drop_nil hd hkn
        omega
      | cons c r =>
        have hc := hX.at hd
        rw [l1, ix_nI (by omega), hc.1]
        refine ⟨ok_nI (by omega) (by decide), r_dig (by omega) ⟨_, rfl, ?_⟩⟩
        rw [bI_f (hr c r rfl), if_pos rfl]
        exact hK
  | cons c u ih =>
    intro rest n a hd hu hr ha hkn hK
    have hc := hX.at hd
    have hdc := drop_cons hd
    have hcl2 := isD_iff.mp (hu c (List.mem_cons_self ..))
    refine sg_138_60 _ _ _ _ _ ?_
    rw [nI_add]
    simp (disch := omega) only [h1, nIle]
    rw [if_neg (by omega), if_neg (by decide), l1, ix_nI (by omega), hc.1]
    refine ⟨ok_nI (by omega) (by decide), r_dig (by omega) ⟨_, rfl, ?_⟩⟩
    rw [bI_t (hu c (List.mem_cons_self ..)), if_neg (by decide)]
    refine sg_138_107 _ _ _ _ _ ?_
    rw [if_pos rfl, nI_add, nI_add]
    have e1 : n + (c :: u).length = (n + 1) + u.length := by rw [List.length_cons]; omega
    rw [e1] at hK
    have hd2 : cl.drop (k + (n + 1)) = u ++ rest := hdc.2.2.1
    have hK : WH (d + 1) 138 178 [(0, .ref 42), (1, .int (nI k)), (2, .int x2), (3, .int (nI (n + 1 + u.length))), (4, .int (dv (n + 1 + u.length) (dvl (a * 10 + (c - 48)) u))), (5, .int (nI 3))] [] m K := hK
    by_cases h6 : 9 ≤ n
    · rw [if_pos (by rw [nIle (by omega) (by omega)]; exact h6)]
      have e2 : nI 0 = dv (n + 1) (a * 10 + (c - 48)) := by unfold dv; rw [if_neg (by omega)]
      rw [e2]
      exact ih rest (n + 1) (a * 10 + (c - 48)) hd2 (fun x hx => hu x (List.mem_cons_of_mem _ hx)) hr (fun z => by omega) (by omega) hK
    · rw [if_neg (by rw [nIle (by omega) (by omega)]; exact h6), l1, ix_nI (by omega), hc.1]
      refine ⟨ok_nI (by omega) (by decide), ?_⟩
      have ha' := ha (by omega)
      have hp : (10 : Nat) ^ n ≤ 10 ^ 8 := Nat.pow_le_pow_right (by decide) (by omega)
      have e0 : dv n a = nI a := by unfold dv; rw [if_pos (by omega)]
      have e2 : nI 10 * dv n a + nI c - nI 48 = dv (n + 1) (a * 10 + (c - 48)) := by
        rw [e0, pk_mul, nI_add, nIsub (by omega)]
        unfold dv
        rw [if_pos (by omega)]
        congr 1
        omega
      rw [e2]
      refine ih rest (n + 1) (a * 10 + (c - 48)) hd2 (fun x hx => hu x (List.mem_cons_of_mem _ hx)) hr (fun z => ?_) (by omega) hK
      rw [Nat.pow_succ]; omega
end R59
