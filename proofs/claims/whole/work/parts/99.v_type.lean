/-! type and erase -/
def tyL (cl : List Nat) (x : Int32) : List Nat := if x < nI 32 ∨ nI 126 < x ∨ 80 ≤ cl.length then cl else cl ++ [n0 x]
def tyB (cl : List Nat) (x : Int32) : Bool := !decide (x < nI 32 ∨ nI 126 < x ∨ 80 ≤ cl.length)
theorem nar_c : ∀ n : Fin 127, vp_nar .char (nI n.val) = nI n.val := by decide
theorem chr_n {x : Int32} (h1 : ¬ x < nI 32) (h2 : ¬ nI 126 < x) : x = nI (n0 x) ∧ 32 ≤ n0 x ∧ n0 x ≤ 126 := by
  have e1 : (nI 32).toInt = 32 := by decide
  have e2 : (nI 126).toInt = 126 := by decide
  rw [Int32.lt_iff_toInt_lt, e1] at h1
  rw [Int32.lt_iff_toInt_lt, e2] at h2
  have hb : 32 ≤ n0 x ∧ n0 x ≤ 126 := by unfold n0; omega
  refine ⟨?_, hb⟩
  apply Int32.toInt_inj.mp
  rw [nI_toInt (by omega)]
  unfold n0
  omega
theorem TX_add {m m1 : Mm} {q : Nat} {cl : List Nat} {c : Nat} (hX : TX q m cl) (hl : 80 ≤ (m.A q).length) (h80 : cl.length < 80) (hc : 32 ≤ c ∧ c ≤ 126) (h : m1.A q = (m.A q).set cl.length (nI c)) : TX q m1 (cl ++ [c]) := by
  have el : (cl ++ [c]).length = cl.length + 1 := by rw [List.length_append]; rfl
  refine ⟨by omega, fun i hi => ?_, fun c' hc' => ?_⟩
  · rw [el] at hi
    rw [h, getD_set _ _ _ _ _ (by omega)]
    by_cases z : i = cl.length
    · rw [if_pos z, z, List.getD_eq_getElem?_getD, List.getElem?_append_right (Nat.le_refl _), Nat.sub_self]; rfl
    · rw [if_neg z, hX.2.1 i (by omega), List.getD_eq_getElem?_getD (l := cl ++ [c]), List.getElem?_append_left (by omega), ← List.getD_eq_getElem?_getD]
  · rcases List.mem_append.mp hc' with z | z
    · exact hX.2.2 c' z
    · rw [List.mem_singleton.mp z]; exact hc
theorem TX_pop {m m1 : Mm} {q : Nat} {cl : List Nat} (hX : TX q m cl) (h : m1.A q = m.A q) : TX q m1 cl.dropLast := by
  have el : cl.dropLast.length = cl.length - 1 := List.length_dropLast
  have h1 := hX.1
  refine ⟨by omega, fun i hi => ?_, fun c hc => hX.2.2 c (List.dropLast_subset _ hc)⟩
  rw [h, hX.2.1 i (by omega)]
  have : cl.dropLast.getD i 0 = cl.getD i 0 := by
    rw [List.getD_eq_getElem?_getD, List.getD_eq_getElem?_getD, List.getElem?_dropLast, if_pos (by omega)]
  rw [this]
section T9v
variable {d : Nat} {m m0 m1 : Mm} {K : Option Value → Mm → Prop} {cl : List Nat} {x : Int32}
theorem c_2 (hL : Len m) (hX : TX 1 m cl) (h10 : m.F 0 10 = nI cl.length) (k : ∀ m', TX 1 m' (tyL cl x) → m'.F 0 10 = nI (tyL cl x).length → (∀ f, f ≠ 10 → m'.F 0 f = m.F 0 f) → Fr [0, 1] m m' → K (some (.int (bI (tyB cl x = true)))) m') : WP d 2 [.ref 0, .int x] m K := by
  have l1 : (m.A 1).length = 80 := hL.a (by decide) rfl
  have h80 := hX.1
  have no : (x < nI 32 ∨ nI 126 < x ∨ 80 ≤ cl.length) → K (some (.int (nI 0))) m := by
    intro h
    unfold tyL tyB at k
    rw [if_pos h, decide_eq_true h, bI_f (by decide)] at k
    exact k m hX h10 (fun _ _ => rfl) (Fr.refl _ m)
  refine sp_2 _ ?_
  by_cases h1 : x < nI 32
  · rw [if_pos h1]; exact no (Or.inl h1)
  · rw [if_neg h1]
    by_cases h2 : nI 126 < x
    · rw [if_pos h2]; exact no (Or.inr (Or.inl h2))
    · rw [if_neg h2, h10]
      by_cases h3 : 80 ≤ cl.length
      · rw [if_neg (by rw [nIlt (by omega) (by decide)]; omega)]; exact no (Or.inr (Or.inr h3))
      · rw [if_pos (by rw [nIlt (by omega) (by decide)]; omega), l1, ix_nI (by omega), nI_add]
        refine ⟨ok_nI (by omega) (by decide), ?_⟩
        obtain ⟨ex, hb⟩ := chr_n h1 h2
        have en : vp_nar .char x = nI (n0 x) := by
          have := nar_c ⟨n0 x, by omega⟩
          rw [← ex] at this
          exact this.trans ex
        rw [en]
        have hn : ¬ (x < nI 32 ∨ nI 126 < x ∨ 80 ≤ cl.length) := by rintro (q | q | q); exact h1 q; exact h2 q; exact h3 q
        unfold tyL tyB at k
        rw [if_neg hn, decide_eq_false hn, bI_t (by decide)] at k
        refine k _ (TX_add hX (by omega) (by omega) hb (by show (m.uA 1 _).A 1 = _; rw [mA_A, if_pos rfl])) ?_ (fun f hf => by rw [mF_F, if_neg (fun q => hf q.2)]; rfl) (Fr.uF (Fr.uA (Fr.refl _ m) (by decide) (by rw [List.length_set])) (by decide) _ _)
        rw [mF_F, if_pos ⟨rfl, rfl⟩, List.length_append]; rfl
theorem c_132x (hL : Len m) (hX : TX 43 m cl) (h10 : m.F 42 1 = nI cl.length) (k : ∀ m', TX 43 m' (tyL cl x) → m'.F 42 1 = nI (tyL cl x).length → Fq [1] [43] m m' → K (some (.int (bI (tyB cl x = true)))) m') : WP d 132 [.ref 42, .int x] m K := by
  have l1 : (m.A 43).length = 100 := hL.a (by decide) rfl
  have h80 := hX.1
  have no : (x < nI 32 ∨ nI 126 < x ∨ 80 ≤ cl.length) → K (some (.int (nI 0))) m := by
    intro h
    unfold tyL tyB at k
    rw [if_pos h, decide_eq_true h, bI_f (by decide)] at k
    exact k m hX h10 (Fq.refl _ _ _)
  refine sp_132 _ ?_
  by_cases h1 : x < nI 32
  · rw [if_pos h1]; exact no (Or.inl h1)
  · rw [if_neg h1]
    by_cases h2 : nI 126 < x
    · rw [if_pos h2]; exact no (Or.inr (Or.inl h2))
    · rw [if_neg h2, h10]
      by_cases h3 : 80 ≤ cl.length
      · rw [if_neg (by rw [nIlt (by omega) (by decide)]; omega)]; exact no (Or.inr (Or.inr h3))
      · rw [if_pos (by rw [nIlt (by omega) (by decide)]; omega), l1, ix_nI (by omega), nI_add]
        refine ⟨ok_nI (by omega) (by decide), ?_⟩
        obtain ⟨ex, hb⟩ := chr_n h1 h2
        have en : vp_nar .char x = nI (n0 x) := by
          have := nar_c ⟨n0 x, by omega⟩
          rw [← ex] at this
          exact this.trans ex
        rw [en]
        have hn : ¬ (x < nI 32 ∨ nI 126 < x ∨ 80 ≤ cl.length) := by rintro (q | q | q); exact h1 q; exact h2 q; exact h3 q
        unfold tyL tyB at k
        rw [if_neg hn, decide_eq_false hn, bI_t (by decide)] at k
        refine k _ (TX_add hX (by omega) (by omega) hb (by show (m.uA 43 _).A 43 = _; rw [mA_A, if_pos rfl])) ?_ (Fq.uF (Fq.uA (Fq.refl _ _ _) (by decide) (by rw [List.length_set])) (by decide) _)
        rw [mF_F, if_pos ⟨rfl, rfl⟩, List.length_append]; rfl
theorem c_3 (hX : TX 1 m cl) (h10 : m.F 0 10 = nI cl.length) (k : ∀ m', TX 1 m' cl.dropLast → m'.F 0 10 = nI cl.dropLast.length → (∀ f, f ≠ 10 → m'.F 0 f = m.F 0 f) → Fr [0] m m' → K (some (.int (bI (cl.length ≠ 0)))) m') : WP d 3 [.ref 0] m K := by
  have h80 := hX.1
  have el : cl.dropLast.length = cl.length - 1 := List.length_dropLast
  refine sp_3 ?_
  rw [h10]
  by_cases h0 : cl.length = 0
  · rw [if_pos (by rw [h0])]
    rw [bI_f (fun q => q h0)] at k
    exact k m (TX_pop hX rfl) (by rw [h10, el, h0]) (fun _ _ => rfl) (Fr.refl _ m)
  · rw [if_neg (by rw [nIeq (by omega) (by decide)]; exact h0), nI_sb (by omega)]
    rw [bI_t h0] at k
    exact k _ (TX_pop hX rfl) (by rw [mF_F, if_pos ⟨rfl, rfl⟩, el]) (fun f hf => by rw [mF_F, if_neg (fun q => hf q.2)]) (Fr.uF (Fr.refl _ m) (by decide) _ _)
theorem c_133 (hX : TX 43 m cl) (h10 : m.F 42 1 = nI cl.length) (k : ∀ m', TX 43 m' cl.dropLast → m'.F 42 1 = nI cl.dropLast.length → Fq [1] [] m m' → K (some (.int (bI (cl.length ≠ 0)))) m') : WP d 133 [.ref 42] m K := by
  have h80 := hX.1
  have el : cl.dropLast.length = cl.length - 1 := List.length_dropLast
  refine sp_133 ?_
  rw [h10]
  by_cases h0 : cl.length = 0
  · rw [if_pos (by rw [h0])]
    rw [bI_f (fun q => q h0)] at k
    exact k m (TX_pop hX rfl) (by rw [h10, el, h0]) (Fq.refl _ _ _)
  · rw [if_neg (by rw [nIeq (by omega) (by decide)]; exact h0), nI_sb (by omega)]
    rw [bI_t h0] at k
    exact k _ (TX_pop hX rfl) (by rw [mF_F, if_pos ⟨rfl, rfl⟩, el]) (Fq.uF (Fq.refl _ _ _) (by decide) _)
end T9v
