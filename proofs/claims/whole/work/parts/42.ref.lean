/-! THE REFERENCE: an operand -/
section R42
variable {d N : Nat} {m m0 m1 : Mm} {K : Option Value → Mm → Prop} {q : List Tk} {cs : List Op}
theorem RT.bad {v : Int32} (h : RT m N q) : RT (m.uF 42 6 v) N q := h.fq (Fq.uF (Fq.refl [6] [] m) (by decide) _) (by decide) (by decide) (by decide) (by decide)
theorem eK_lt (t : Tk) : eK t < 5 := by
  unfold eK
  split
  · omega
  · split
    · omega
    · split <;> omega
theorem kh_lt (q : List Tk) : kh q < 5 := by
  cases q with
  | nil => decide
  | cons t r => exact eK_lt t
theorem c_take {w b : Nat} (hw : 0 < w) (hw2 : w < 100) (hb : b = 0 ∨ b = 1) (hL : Len m) (h : RT m N q) (h6 : m.F 42 6 = nI b)
    (k1 : ∀ t r, q = t :: r → eK t = w → ∀ m' x, wr t x → RT m' N r → m'.F 42 6 = nI b → Fq [5, 6] [] m m' → K (some (.int x)) m')
    (k2 : kh q ≠ w → ∀ m', RT m' N q → m'.F 42 6 = nI 1 → Fq [5, 6] [] m m' → K (some (.int (nI 0))) m') : WP d 143 [.ref 42, .int (nI w)] m K := by
  have l1 : (m.A 44).length = 101 := hL.a (by decide) rfl
  have l2 : (m.A 45).length = 101 := hL.a (by decide) rfl
  have hk := h.kind
  have hkl := kh_lt q
  have h0 := h.1
  have hN := h.2.2.2.1
  have ho : ok 101 (nI (N - q.length)) := ok_nI (by omega) (by decide)
  refine sp_143 _ ?_
  simp (disch := omega) only [h0, l1, l2, ix_nI, hk, nI_add, nIeq, h6]
  refine ⟨ho, ?_⟩
  have f2 : Fq [5, 6] [] m ((m.uF 42 6 (nI 1)).uF 42 5 (nI (N - q.length))) := Fq.uF (Fq.uF (Fq.refl _ _ m) (by decide) _) (by decide) _
  have r2 : RT ((m.uF 42 6 (nI 1)).uF 42 5 (nI (N - q.length))) N q := by
    have := h.bad (v := nI 1)
    rw [show (m.uF 42 6 (nI 1)).uF 42 5 (nI (N - q.length)) = m.uF 42 6 (nI 1) from by rw [← h0]; exact uF_id (m.uF 42 6 (nI 1)) 42 5]
    exact this
  by_cases e : kh q = w
  · rw [if_pos e]
    cases q with
    | nil => exact absurd e (by show ¬ 0 = w; omega)
    | cons t r =>
      obtain ⟨a1, a2, a3⟩ := h.hd0
      simp only [List.length_cons] at *
      rcases hb with rfl | rfl
      · rw [if_pos rfl]
        exact ⟨ho, k1 t r rfl e _ _ a2 h.bad.next (by rw [mF_F, if_neg (by decide), mF_F, if_pos ⟨rfl, rfl⟩]) (Fq.uF (Fq.uF (Fq.refl _ _ m) (by decide) _) (by decide) _)⟩
      · rw [if_neg (by decide)]
        exact ⟨ho, k1 t r rfl e _ _ a2 h.bad.next (by rw [mF_F, if_neg (by decide), mF_F, if_pos ⟨rfl, rfl⟩]) (Fq.uF (Fq.uF (Fq.refl _ _ m) (by decide) _) (by decide) _)⟩
  · rw [if_neg e]
    rcases hb with rfl | rfl
    · rw [if_pos rfl]
      exact k2 e _ r2 (by rw [mF_F, if_neg (by decide), mF_F, if_pos ⟨rfl, rfl⟩]) f2
    · rw [if_neg (by decide)]
      exact k2 e _ r2 (by rw [mF_F, if_neg (by decide), mF_F, if_pos ⟨rfl, rfl⟩]) f2
theorem tv_col {t : Tk} (h : tv t) (h3 : t.1 = 3) : t.2 < 4 := by
  rcases h with z | z | z | z | z
  · omega
  · omega
  · exact z.2
  · omega
  · rw [isS_iff] at z; omega
theorem c_takeCol {b : Nat} (hb : b = 0 ∨ b = 1) (hL : Len m) (h : RT m N q) (h6 : m.F 42 6 = nI b)
    (k1 : b = 0 → ∀ t r, q = t :: r → t.1 = 3 → ∀ m', RT m' N r → m'.F 42 6 = nI 0 → Fq [5, 6] [] m m' → K (some (.int (nI t.2))) m')
    (k2 : (b = 0 → hd q ≠ 3) → ∀ m' x q', RT m' N q' → m'.F 42 6 = nI 1 → Fq [5, 6] [] m m' → K (some (.int x)) m') : WP (d + 1) 144 [.ref 42] m K := by
  refine sp_144 ?_
  refine c_take (by decide) (by decide) hb hL h h6 (fun t r e e1 m' x a1 a2 a3 a4 => ⟨_, rfl, ?_⟩) (fun e m' a2 a3 a4 => ⟨_, rfl, ?_⟩)
  · have hv : tv t := by subst e; exact h.hd0.2.2
    rcases hb with rfl | rfl
    · rw [a3, if_pos rfl]
      unfold wr at a1
      by_cases h19 : t.1 = 19
      · rw [if_pos h19] at a1
        have k3 : ∀ y, K (some (.int y)) (m'.uF 42 6 (nI 1)) := fun y => k2 (fun _ => by subst e; show t.1 ≠ 3; omega) _ y r a2.bad rfl (Fq.uF a4 (by decide) _)
        by_cases c1 : x < nI 1
        · rw [if_pos c1]; exact k3 _
        · rw [if_neg c1]
          rcases a1.1 with z | z
          · exact absurd z c1
          · rw [if_neg (by rw [Int32.le_iff_toInt_le, Int.not_le, ← Int32.lt_iff_toInt_lt]; exact z)]; exact k3 _
      · rw [if_neg h19] at a1
        have hlt := eW_lt hv h19
        subst a1
        simp (disch := omega) only [nIlt, nIle]
        by_cases h3 : t.1 = 3
        · have e5 : eW t = t.2 + 1 := by
            unfold eW
            rw [if_neg (by omega), if_pos h3]
          have ht := tv_col hv h3
          rw [e5, if_neg (by omega), if_pos (by omega), nIsub (by omega), Nat.add_sub_cancel]
          exact k1 rfl t r e h3 _ a2.bad rfl (Fq.uF a4 (by decide) _)
        · have e5 : eW t = wc t.1 ∧ 4 ≤ t.1 ∧ t.1 ≤ 18 := by
            have e1' := e1
            unfold eK at e1'
            have h1 : t.1 ≠ 1 := by intro z; rw [if_pos z] at e1'; omega
            rw [if_neg h1] at e1'
            have h2 : t.1 ≠ 2 := by intro z; rw [if_pos z] at e1'; omega
            rw [if_neg h2] at e1'
            have h4 : t.1 ≤ 19 := by
              by_cases z : t.1 ≤ 19
              · exact z
              · rw [if_neg z] at e1'; omega
            have h5 : t.1 ≠ 0 := by
              rcases hv with z | z | z | z | z
              · omega
              · omega
              · omega
              · omega
              · rw [isS_iff] at z; omega
            refine ⟨?_, by omega, by omega⟩
            unfold eW
            rw [if_neg (by omega), if_neg (by omega), if_pos (by omega)]
          have hw := wc_big e5.2.1 e5.2.2
          rw [if_neg (by omega), if_neg (by omega)]
          exact k2 (fun _ => by subst e; exact h3) _ _ r a2.bad rfl (Fq.uF a4 (by decide) _)
    · rw [a3, if_neg (by decide)]
      exact k2 (fun z => by omega) _ _ r a2.bad rfl (Fq.uF a4 (by decide) _)
  · rw [a3, if_neg (by decide)]
    refine k2 (fun z => ?_) _ _ q a2.bad rfl (Fq.uF a4 (by decide) _)
    cases q with
    | nil => exact (by decide : (0 : Nat) ≠ 3)
    | cons t r =>
      intro (z : t.1 = 3)
      apply e
      show eK t = 1
      unfold eK
      rw [if_neg (by omega), if_neg (by omega), if_pos (by omega)]
end R42
