/-! THE REFERENCE: operand() -/
theorem pCol_t {t : Tk} {r : List Tk} (et : t.1 = 1) : pCol (t :: r) = (match r with | a :: b :: r' => if a.1 = 46 ∧ b.1 = 3 then some ([(3, b.2, t.2 + 1)], r') else none | _ => none) := by
  show (if t.1 = 1 then _ else _) = _
  rw [if_pos et]
  rfl
section R45
variable {d N b o : Nat} {m m0 m1 : Mm} {K : Option Value → Mm → Prop} {q : List Tk} {cs : List Op} {W : List Nat}
theorem c_149 (hX : RX m N b o q cs W 1)
    (k1 : ∀ t r, q = t :: r → (t.1 = 40 ∨ t.1 = 45) → nst W + o ≤ 7 → ∀ m', RX m' N b o r cs (W ++ [if t.1 = 40 then 16 else 8]) 1 → Fq GX SXr m m' → K none m')
    (k2 : (hd q = 40 ∨ hd q = 45) → 7 < nst W + o → ∀ m', RJ m N b m' → K none m')
    (k3 : hd q ≠ 40 → hd q ≠ 45 → ∀ x r, leaf q = some ([x], r) → ∀ W0 k0, W = W0 ++ List.replicate k0 8 → topW W0 ≠ 8 → ∀ m', RX m' N b o r (cs ++ [x] ++ List.replicate k0 (opr 30)) W0 0 → Fq GX SXr m m' → K none m')
    (k4 : hd q ≠ 40 → hd q ≠ 45 → leaf q = none → ∀ m', RJ m N b m' → K none m') : WP (d + 4) 149 [.ref 42] m K := by
  have hL := hX.1
  have hT := hX.2.1
  have hN := hT.2.2.2.1
  have f0 : Fq [5, 6, 16] [] m (m.uF 42 16 (nI 0)) := Fq.uF (Fq.refl _ _ m) (by decide) _
  have hL1 := hL.fq f0
  have hT1 : RT (m.uF 42 16 (nI 0)) N q := hT.fq (Fq.uF (Fq.refl [16] [] m) (by decide) _) (by decide) (by decide) (by decide) (by decide)
  have h61 : (m.uF 42 16 (nI 0)).F 42 6 = nI 0 := hX.2.2.2.2.2.2.2.1
  refine sp_149 ?_
  refine c_isSign (c := 40) rfl hL1 hT1 ⟨_, rfl, ?_⟩
  simp only [bI_0]
  by_cases h40 : hd q = 40
  · rw [if_neg (fun z => z h40)]
    refine c_isSign (c := 40) rfl hL1 hT1 ⟨_, rfl, ?_⟩
    simp only [bI_0]
    rw [if_neg (fun z => z h40)]
    cases q with
    | nil => cases h40
    | cons t r =>
      have e : t.1 = 40 := h40
      refine c_nest (w := t) hX (Or.inr rfl) (fun h m' a f => k1 t r rfl (Or.inl e) h m' ?_ f) (fun h m' a => k2 (Or.inl h40) h m' a)
      rw [if_pos e]; exact a
  · rw [if_pos h40]
    refine c_isSign (c := 45) rfl hL1 hT1 ⟨_, rfl, ?_⟩
    simp only [bI_0]
    by_cases h45 : hd q = 45
    · rw [if_neg (fun z => z h45)]
      refine c_isSign (c := 40) rfl hL1 hT1 ⟨_, rfl, ?_⟩
      simp only [bI_0]
      rw [if_pos h40]
      cases q with
      | nil => cases h45
      | cons t r =>
        have e : t.1 = 45 := h45
        refine c_nest (w := t) hX (Or.inl rfl) (fun h m' a f => k1 t r rfl (Or.inr e) h m' ?_ f) (fun h m' a => k2 (Or.inr h45) h m' a)
        rw [if_neg (by omega)]; exact a
    · rw [if_pos h45]
      replace k3 := k3 h40 h45
      replace k4 := k4 h40 h45
      have l1 : ((m.uF 42 16 (nI 0)).A 44).length = 101 := hL1.a (by decide) rfl
      have hk := hT1.kind
      have h5 := hT1.1
      have hkl := kh_lt q
      have hok : ok 101 (nI (N - q.length)) := ok_nI (by omega) (by decide)
      simp (disch := omega) only [h5, l1, ix_nI, hk, nIeq]
      refine ⟨hok, ?_⟩
      by_cases h3 : kh q = 3
      · rw [if_pos h3]
        refine c_take (by decide) (by decide) (Or.inl rfl) hL1 hT1 h61 (fun t r e e1 m' x a1 a2 a3 a4 => ⟨_, rfl, ?_⟩) (fun z => absurd h3 z)
        subst e
        have et : t.1 = 2 := by
          unfold eK at e1
          by_cases z1 : t.1 = 1
          · rw [if_pos z1] at e1; omega
          · rw [if_neg z1] at e1
            by_cases z2 : t.1 = 2
            · exact z2
            · rw [if_neg z2] at e1
              split at e1 <;> omega
        have ex : x = nI t.2 := by
          unfold wr at a1
          rw [if_neg (by omega)] at a1
          rw [a1]
          unfold eW
          rw [if_pos (Or.inr et)]
        have f1 : Fq [5, 6, 16] [] m m' := f0.trans (a4.mono (by decide) (by decide))
        refine c_leafY (x := (2, t.2, 0)) (G := []) hX f1 (by rw [a4.f (by decide)]; rfl) a3 a2 (by rw [List.length_cons]; omega) rfl ex (fun W0 k0 e h8 m2 hx f => k3 (2, t.2, 0) r ?_ W0 k0 e h8 m2 hx f)
        unfold leaf
        dsimp only
        rw [if_pos et]
      · rw [if_neg h3]
        refine ⟨hok, ?_⟩
        by_cases h2 : kh q = 2
        · rw [if_pos h2]
          refine c_take (by decide) (by decide) (Or.inl rfl) hL1 hT1 h61 (fun t r e e1 m' x a1 a2 a3 a4 => ⟨_, rfl, ?_⟩) (fun z => absurd h2 z)
          subst e
          have et : t.1 = 1 := by
            unfold eK at e1
            by_cases z1 : t.1 = 1
            · exact z1
            · rw [if_neg z1] at e1
              split at e1
              · omega
              · split at e1 <;> omega
          have ex : x = nI t.2 := by
            unfold wr at a1
            rw [if_neg (by omega)] at a1
            rw [a1]
            unfold eW
            rw [if_pos (Or.inl et)]
          have f1 : Fq [5, 6, 16] [] m m' := f0.trans (a4.mono (by decide) (by decide))
          have hL2 := hL.fq f1
          have el : leaf (t :: r) = pCol (t :: r) := by
            unfold leaf
            dsimp only
            rw [if_neg (by omega), if_neg (by omega)]
          have ec := pCol_t (r := r) et
          rw [a3, if_pos rfl]
          refine c_takeSign (c := 46) rfl hL2 a2 (fun t2 r2 e2 e3 m2 b1 b2 => ⟨_, rfl, ?_⟩) (fun z => ⟨_, rfl, ?_⟩)
          · rw [if_neg (by decide)]
            subst e2
            have f2 : Fq [5, 6, 16] [] m m2 := f1.trans (b2.mono (by decide) (by decide))
            have f3 : Fq [5, 6, 16] [] m (m2.uF 42 6 (nI 0)) := Fq.uF f2 (by decide) _
            refine c_takeCol (b := 0) (Or.inl rfl) (hL.fq f3) b1.bad rfl (fun _ t3 r3 e4 e5 m3 g1 g2 g3 => ⟨_, rfl, ?_⟩) (fun z m3 y q3 g1 g2 g3 => ⟨_, rfl, ?_⟩)
            · subst e4
              refine c_leafY (x := (3, t3.2, t.2 + 1)) (G := []) hX (f3.trans (g3.mono (by decide) (by decide))) ?_ g2 g1 (by simp only [List.length_cons]; omega) rfl ?_ (fun W0 k0 e h8 m2 hx f => k3 (3, t3.2, t.2 + 1) r3 ?_ W0 k0 e h8 m2 hx f)
              · rw [g3.f (by decide)]
                show m2.F 42 16 = nI 0
                rw [b2.f (by decide), a4.f (by decide)]; rfl
              · rw [ex, pk_mul, nI_add, nI_add]; rfl
              · rw [el, ec]
                dsimp only
                rw [if_pos ⟨e3, e5⟩]
            · refine c_leafN hX (f3.trans (g3.mono (by decide) (by decide))) g2 g1 (k4 ?_)
              rw [el, ec]
              cases r2 with
              | nil => rfl
              | cons t3 r3 =>
                dsimp only
                rw [if_neg (fun y => z rfl y.2)]
          · rw [if_pos rfl]
            have f3 : Fq [5, 6, 16] [] m (m'.uF 42 6 (nI 1)) := Fq.uF f1 (by decide) _
            refine c_takeCol (b := 1) (Or.inr rfl) (hL.fq f3) a2.bad rfl (fun z => by omega) (fun _ m3 y q3 g1 g2 g3 => ⟨_, rfl, ?_⟩)
            refine c_leafN hX (f3.trans (g3.mono (by decide) (by decide))) g2 g1 (k4 ?_)
            rw [el, ec]
            cases r with
            | nil => rfl
            | cons t2 r2 =>
              cases r2 with
              | nil => rfl
              | cons t3 r3 =>
                dsimp only
                rw [if_neg (fun y => z y.1)]
        · rw [if_neg h2]
          refine c_wrd_15 (by omega) ⟨_, rfl, ?_⟩
          have h12 : hd q ≠ 1 ∧ hd q ≠ 2 := by
            cases q with
            | nil => exact ⟨by decide, by decide⟩
            | cons t r =>
              refine ⟨fun (z : t.1 = 1) => h2 ?_, fun (z : t.1 = 2) => h3 ?_⟩
              · show eK t = 2
                unfold eK
                rw [if_pos z]
              · show eK t = 3
                unfold eK
                rw [if_neg (by omega), if_pos z]
          refine c_takeWord (n := 15) (by decide) (by decide) hL1 hT1 (fun t r e e1 m' a1 a2 => ⟨_, rfl, ?_⟩) (fun h15 => ⟨_, rfl, ?_⟩)
          · subst e
            rw [if_neg (by decide)]
            refine c_leafY (x := (15, 0, 0)) (G := []) hX (f0.trans (a2.mono (by decide) (by decide))) (by rw [a2.f (by decide)]; rfl) (by rw [a2.f (by decide)]; exact h61) a1 (by rw [List.length_cons]; omega) rfl rfl (fun W0 k0 e h8 m2 hx f => k3 (15, 0, 0) r ?_ W0 k0 e h8 m2 hx f)
            unfold leaf
            dsimp only
            rw [if_neg (by omega), if_pos e1]
          · rw [if_pos rfl]
            refine c_takeCol (b := 0) (Or.inl rfl) hL1 hT1 h61 (fun _ t3 r3 e4 e5 m3 g1 g2 g3 => ⟨_, rfl, ?_⟩) (fun z m3 y q3 g1 g2 g3 => ⟨_, rfl, ?_⟩)
            · subst e4
              refine c_leafY (x := (3, t3.2, 0)) (G := []) hX (f0.trans (g3.mono (by decide) (by decide))) (by rw [g3.f (by decide)]; rfl) g2 g1 (by rw [List.length_cons]; omega) rfl (by show nI t3.2 = nI (4 * 0 + t3.2); congr 1; omega) (fun W0 k0 e h8 m2 hx f => k3 (3, t3.2, 0) r3 ?_ W0 k0 e h8 m2 hx f)
              unfold leaf
              dsimp only
              rw [if_neg (by omega), if_neg (by omega)]
              show (if t3.1 = 1 then _ else _) = _
              rw [if_neg (by omega), if_pos e5]
            · refine c_leafN hX (f0.trans (g3.mono (by decide) (by decide))) g2 g1 (k4 ?_)
              cases q with
              | nil => rfl
              | cons t r =>
                have z3 : t.1 ≠ 3 := z rfl
                have z15 : t.1 ≠ 15 := h15
                have z1 : t.1 ≠ 1 := h12.1
                have z2 : t.1 ≠ 2 := h12.2
                unfold leaf
                dsimp only
                rw [if_neg z2, if_neg z15]
                show (if t.1 = 1 then _ else _) = _
                rw [if_neg z1, if_neg z3]
end R45
