/-! The state between two calls -/
theorem an_ok {m : Mm} {D : Db} {cl : List Nat} (hL : Len m) (hX : TX 43 m cl) (hI : DI D) : anOK (rnA D cl) := by
  cases hp : parse cl with
  | none =>
    rw [(rn_none (D := D) hp).2.2]
    exact ⟨by decide, by decide⟩
  | some e =>
    rw [(rn_some (D := D) hp).2.2]
    obtain ⟨hWF, hV, _⟩ := parse_ok hL hX hp
    have h5 := hWF.2.2.2.2.2.2.2.2.1
    have h20 := (hI _ h5).2.1
    unfold efA
    by_cases hc : efC D e = 0
    · rw [if_neg (by rw [hc]; decide)]
      split
      · exact ⟨by decide, by decide⟩
      · split
        · exact ⟨by decide, by decide⟩
        · next h45 h6 =>
          split
          · next h9 =>
            refine ⟨?_, (hV.2.2.2.2.2.2.2 h9).2⟩
            have hl : (hitE D e).length ≤ 60 := by
              rcases Nat.lt_or_ge 60 (hitE D e).length with z | z
              · unfold efC at hc
                by_cases hf : fault D e = 0
                · rw [hf, if_neg (by decide), if_neg h6, if_neg (by omega), if_pos ⟨h9, z⟩] at hc
                  cases hc
                · rw [if_pos hf] at hc
                  exact absurd hc hf
              · exact z
            show selN e (hitE D e) ≤ 60
            unfold selN
            split <;> omega
          · have := List.countP_le_length (p := whR D e) (l := rw_ D (e.2.1 5))
            exact ⟨by show _ ≤ 60; omega, by show 0 ≤ 3; decide⟩
    · rw [if_pos hc]
      exact ⟨by decide, by decide⟩
/-- text, tables, answers: the same on both sides -/
def WS (m : Mm) (cl : List Nat) (D : Db) (P : Nat → List (List Int64)) (a : An) : Prop := Len m ∧ TX 1 m cl ∧ TX 43 m cl ∧ m.F 0 10 = nI cl.length ∧ m.F 42 1 = nI cl.length ∧ CA m a ∧ RA m a ∧ anOK a ∧ DC m D ∧ DR m D P ∧ DI D ∧ AcI m
theorem RA.fr {S : List Nat} {m m1 : Mm} {a : An} (h : RA m a) (f : Fr S m m1) (h1 : 42 ∉ S) (h2 : 68 ∉ S) : RA m1 a := by
  unfold RA at *
  rw [f.f h1, f.f h1, f.f h1, f.f h1, f.b h2]
  exact h
section S9w
variable {d : Nat} {m m0 m1 : Mm} {K : Option Value → Mm → Prop} {D : Db} {P : Nat → List (List Int64)} {a : An} {cl : List Nat} {x y z : Int32} {v : Int64}
/-- run() on both sides -/
theorem w_run (h : WS m cl D P a) (k : ∀ m' P', WS m' [] (rnD D cl) P' (rnA D cl) → K (some (.int (nI (rnC D cl)))) m') : WP 48 4 [.ref 0] m (fun v m1 => ∃ w, v = some (.int w) ∧ w = nI (rnC D cl) ∧ WP (d + 12) 166 [.ref 42] m1 K) := by
  obtain ⟨hL, hX1, hX3, h10, h1, hC, hR, hk, hD, hDR, hI, hAc⟩ := h
  have hI' : DI (rnD D cl) := by
    cases hp : parse cl with
    | none => rw [(rn_none (D := D) hp).2.1]; exact hI
    | some e =>
      rw [(rn_some (D := D) hp).2.1]
      obtain ⟨w1, w2, _⟩ := parse_ok hL hX3 hp
      exact DI_ef w1 w2 hI
  refine c_4 hL hX1 hX3 h10 hD hI hAc (fun m1 a1 a2 a3 a4 f1 => ⟨_, rfl, rfl, ?_⟩)
  refine c_166 (hL.fr f1) (hX3.fr f1 (by decide)) (by rw [f1.f (by decide)]; exact h1) (hDR.fr' f1 (by decide)) hI (fun m2 P2 b1 b2 b3 f2 => k m2 P2 ?_)
  have nil : ∀ q (m : Mm), TX q m [] := fun q m => ⟨by decide, fun i hi => absurd hi (Nat.not_lt_zero i), fun c hc => by cases hc⟩
  exact ⟨(hL.fr f1).fr f2, nil _ _, nil _ _, by rw [f2.f (by decide)]; exact a4, b3, a1.fr f2 (by decide) (by decide), b1, an_ok hL hX3 hI, a2.fr f2 (by decide), b2, hI', a3.fr f2 (by decide) (by decide) (by decide) (by decide)⟩
/-- type() on both sides -/
theorem w_type (h : WS m cl D P a) (k : ∀ m', WS m' (tyL cl x) D P a → K (some (.int (bI (tyB cl x = true)))) m') : WP d 2 [.ref 0, .int x] m (fun v m1 => ∃ w, v = some (.int w) ∧ w = bI (tyB cl x = true) ∧ WP d 132 [.ref 42, .int x] m1 K) := by
  obtain ⟨hL, hX1, hX3, h10, h1, hC, hR, hk, hD, hDR, hI, hAc⟩ := h
  refine c_2 hL hX1 h10 (fun m1 a1 a2 a3 f1 => ⟨_, rfl, rfl, ?_⟩)
  refine c_132x (hL.fr f1) (hX3.fr f1 (by decide)) (by rw [f1.f (by decide)]; exact h1) (fun m2 b1 b2 f2 => k m2 ?_)
  have hC1 : CA m1 a := by
    unfold CA at *
    rw [a3 11 (by decide), a3 12 (by decide), a3 13 (by decide), a3 14 (by decide), f1.b (by decide)]
    exact hC
  exact ⟨(hL.fr f1).fq f2, a1.fr f2.1 (by decide), b1, by rw [f2.1.f (by decide)]; exact a2, b2, hC1.fr f2.1 (by decide) (by decide), (hR.fr f1 (by decide) (by decide)).fq f2 (by decide) (by decide), hk, (hD.fr f1 (by decide)).fr f2.1 (by decide), (hDR.fr' f1 (by decide)).fr' f2.1 (by decide), hI, (hAc.fr f1 (by decide) (by decide) (by decide) (by decide)).fr f2.1 (by decide) (by decide) (by decide) (by decide)⟩
/-- erase() on both sides -/
theorem w_erase (h : WS m cl D P a) (k : ∀ m', WS m' cl.dropLast D P a → K (some (.int (bI (cl.length ≠ 0)))) m') : WP d 3 [.ref 0] m (fun v m1 => ∃ w, v = some (.int w) ∧ w = bI (cl.length ≠ 0) ∧ WP d 133 [.ref 42] m1 K) := by
  obtain ⟨hL, hX1, hX3, h10, h1, hC, hR, hk, hD, hDR, hI, hAc⟩ := h
  refine c_3 hX1 h10 (fun m1 a1 a2 a3 f1 => ⟨_, rfl, rfl, ?_⟩)
  refine c_133 (hX3.fr f1 (by decide)) (by rw [f1.f (by decide)]; exact h1) (fun m2 b1 b2 f2 => k m2 ?_)
  have hC1 : CA m1 a := by
    unfold CA at *
    rw [a3 11 (by decide), a3 12 (by decide), a3 13 (by decide), a3 14 (by decide), f1.b (by decide)]
    exact hC
  exact ⟨(hL.fr f1).fq f2, a1.fr f2.1 (by decide), b1, by rw [f2.1.f (by decide)]; exact a2, b2, hC1.fr f2.1 (by decide) (by decide), (hR.fr f1 (by decide) (by decide)).fq f2 (by decide) (by decide), hk, (hD.fr f1 (by decide)).fr f2.1 (by decide), (hDR.fr' f1 (by decide)).fr' f2.1 (by decide), hI, (hAc.fr f1 (by decide) (by decide) (by decide) (by decide)).fr f2.1 (by decide) (by decide) (by decide) (by decide)⟩
end S9w
