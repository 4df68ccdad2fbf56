/-! carryOut() of the class: the statements that fetch rows, and the whole -/
section C99
variable {d N : Nat} {m m0 m1 : Mm} {K : Option Value → Mm → Prop} {D : Db} {e : St} {t i j : Nat}
theorem PN.fr {n : Nat} {S : List Nat} (h : PN m n) (f : Fr S m m1) (hs : dj S [12, 30, 36, 37, 38, 39] = true) : PN m1 n := by
  intro m2 S2 d K f2 hs2 hK
  have f3 : Fr (S ++ S2) m m2 := (f.mono (fun c hc => List.mem_append_left _ hc)).trans (f2.mono (fun c hc => List.mem_append_right _ hc))
  refine h m2 (S ++ S2) d K f3 ?_ hK
  unfold dj at *
  rw [List.all_append, hs, hs2]; rfl
theorem t_18b (hWF : WF e) (hV : VF e (e.2.1 4)) (hf : fault D e = 0) (hI : DI D) (hv : e.2.1 4 = 7 ∨ e.2.1 4 = 8 ∨ e.2.1 4 = 9) (hQ : CQ m (rs_ D e) (tq e) D e.1.2.2) (hS : SR m e.2) (hPR : PR m i j) (hA : CA m an0) (hH : HF m (hitE D e)) (h14 : m.F 30 14 = nI (rdE D e)) (hP : PN m (plE D e)) (k : ∀ m', CA m' (efA D e) → DC m' (efD D e) → G0 m m' → Fr S18 m m' → dj S18 [1] = true → (∀ c, c = 36 ∨ c = 37 ∨ c = 38 ∨ c = 39 → ∀ f, m'.F c f = m.F c f) → K (some (.int (nI (efC D e)))) m') : WH (d + 6) 18 86 [(0, .ref 0), (2, .ref (3 + 3 * e.2.1 5))] [] m K := by
  have h5 := hWF.2.2.2.2.2.2.2.2.1
  have h4 : m.F 12 4 = nI (e.2.1 4) := hS.1 4 rfl
  obtain ⟨t1, t2, t3, t4⟩ := flt0 hf
  have hM := E_MH hWF hI hQ.2.2.2.2.2.2.2.1 hQ.2.2.2.2.2.2.2.2.1 t3
  refine sg_18_86 _ (tbl_t h5) ?_
  refine sp_19 _ (tbl_t h5) ?_
  rw [h4]
  -- how it ends when all went well
  have fin : ∀ (m1 : Mm) (S : List Nat), Fr S m m1 → dj S [12, 30, 36, 37, 38, 39] = true → (∀ c, c ∈ S → c ∈ S18) → G0 m m1 → (∀ f, f = 13 ∨ f = 14 → m1.F 0 f = m.F 0 f) → efC D e = 0 → (∀ m2, m2.F 0 11 = m1.F 0 11 → m2.F 0 12 = m1.F 0 12 → m2.B 40 = m1.B 40 → m2.F 0 13 = nI (rdE D e) → m2.F 0 14 = nI (plE D e) → CA m2 (efA D e)) → DC m1 (efD D e) → WP (d + 5) 65 [.ref 12] m1 (fun v m9 => ∃ w10, v = some (.int w10) ∧ (if w10 = (nI 0) then WH (d + 6) 18 128 [(3, .int (nI 0))] [] m9 K else WP (d + 5) 122 [.ref 30] (m9.uF 0 13 (m9.F 30 14)) (fun v m12 => ∃ w13, v = some (.int w13) ∧ WH (d + 6) 18 128 [(3, .int (nI 0))] [] (m12.uF 0 14 w13) K))) := by
    intro m1 S f1 hs hsub hG _ ec hCA hD1
    have n12 := dj_no hs (show 12 ∈ [12, 30, 36, 37, 38, 39] by decide)
    have n30 := dj_no hs (show 30 ∈ [12, 30, 36, 37, 38, 39] by decide)
    have h4' : m1.F 12 4 = nI (e.2.1 4) := by rw [f1.f n12]; exact h4
    have go : WP (d + 5) 122 [.ref 30] (m1.uF 0 13 (m1.F 30 14)) (fun v m12 => ∃ w13, v = some (.int w13) ∧ WH (d + 6) 18 128 [(3, .int (nI 0))] [] (m12.uF 0 14 w13) K) := by
      have f2 : Fr (0 :: S) m (m1.uF 0 13 (m1.F 30 14)) := Fr.uF (f1.mono (fun c hc => List.mem_cons_of_mem _ hc)) (List.mem_cons_self ..) _ _
      refine hP _ (0 :: S) (d + 4) _ f2 ?_ ⟨_, rfl, ?_⟩
      · unfold dj at hs ⊢
        rw [List.all_cons, hs]; rfl
      · have f3 : Fr (0 :: S) m ((m1.uF 0 13 (m1.F 30 14)).uF 0 14 (nI (plE D e))) := Fr.uF f2 (List.mem_cons_self ..) _ _
        have f4 : Fr [0] m1 ((m1.uF 0 13 (m1.F 30 14)).uF 0 14 (nI (plE D e))) := Fr.uF (Fr.uF (Fr.refl _ m1) (by decide) _ _) (by decide) _ _
        have fS : Fr S18 m ((m1.uF 0 13 (m1.F 30 14)).uF 0 14 (nI (plE D e))) := f3.mono (fun c hc => by
          rcases List.mem_cons.mp hc with z | z
          · rw [z]; decide
          · exact hsub c z)
        refine sg_18_128 _ ?_
        have := k ((m1.uF 0 13 (m1.F 30 14)).uF 0 14 (nI (plE D e))) (hCA _ rfl rfl rfl ?_ rfl) (hD1.fr f4 (by decide)) (fun f hf => ?_) fS (by decide) (fun c hc f => ?_)
        · rw [ec] at this; exact this
        · show m1.F 30 14 = _
          rw [f1.f n30]; exact h14
        · rw [mF_F, if_neg (fun z => hf (by rw [z.2]; decide)), mF_F, if_neg (fun z => hf (by rw [z.2]; decide))]
          exact hG f hf
        · rw [f4.f (by rcases hc with z | z | z | z <;> rw [z] <;> decide)]
          exact f1.f (dj_no hs (by rcases hc with z | z | z | z <;> rw [z] <;> decide)) f
    refine sp_65 ?_
    rw [h4']
    by_cases z7 : nI (e.2.1 4) = nI 7
    · rw [if_pos z7]
      refine ⟨_, rfl, ?_⟩
      rw [if_neg (by decide)]; exact go
    · rw [if_neg z7]
      by_cases z8 : nI (e.2.1 4) = nI 8
      · rw [if_pos z8]
        refine ⟨_, rfl, ?_⟩
        rw [if_neg (by decide)]; exact go
      · rw [if_neg z8]
        have z9 : e.2.1 4 = 9 := by
          rcases hv with z | z | z
          · exact absurd (by rw [z]) z7
          · exact absurd (by rw [z]) z8
          · exact z
        rw [if_pos (by rw [z9])]
        refine ⟨_, rfl, ?_⟩
        rw [if_neg (by decide)]; exact go
  -- how it ends otherwise
  have bad : ∀ (w : Nat) (m1 : Mm) (S : List Nat), 0 < w → w < 100 → efC D e = w → Fr S m m1 → dj S [36, 37, 38, 39] = true → (∀ c, c ∈ S → c ∈ S18) → (∀ f, m1.F 0 f = m.F 0 f) → DC m1 D → (if nI w = nI 0 then WP (d + 5) 65 [.ref 12] m1 (fun v m9 => ∃ w10, v = some (.int w10) ∧ (if w10 = (nI 0) then WH (d + 6) 18 128 [(3, .int (nI w))] [] m9 K else WP (d + 5) 122 [.ref 30] (m9.uF 0 13 (m9.F 30 14)) (fun v m12 => ∃ w13, v = some (.int w13) ∧ WH (d + 6) 18 128 [(3, .int (nI w))] [] (m12.uF 0 14 w13) K))) else WH (d + 6) 18 128 [(3, .int (nI w))] [] m1 K) := by
    intro w m1 S hw hw1 ec f1 hs hsub hG hD1
    rw [if_neg (by rw [nIeq (by omega) (by decide)]; omega)]
    refine sg_18_128 _ ?_
    have ea : efA D e = an0 := by unfold efA; rw [if_pos (by omega)]
    have ed : efD D e = D := by unfold efD; rw [if_pos (by omega)]
    rw [ea, ed, ec] at k
    obtain ⟨a1, a2, a3, a4, a5⟩ := hA
    exact k m1 ⟨by rw [hG]; exact a1, by rw [hG]; exact a2, by rw [hG]; exact a3, by rw [hG]; exact a4, fun r c hr => absurd hr (Nat.not_lt_zero r)⟩ hD1 (fun f _ => hG f) (f1.mono hsub) (by decide) (fun c hc f => f1.f (dj_no hs (by rcases hc with z | z | z | z <;> rw [z] <;> decide)) f)
  have hne : ∀ n : Nat, n < 100 → e.2.1 4 ≠ n → ¬ nI (e.2.1 4) = nI n := fun n hn h => by rw [nIeq (by omega) (by omega)]; exact h
  obtain ⟨a1, a2, a3, a4, a5⟩ := hA
  rcases hv with hv | hv | hv
  · -- update
    have hno9 := hV.2.2.1 (by omega)
    have h1 := hV.2.2.2.2.2.1 hv
    have h7 : e.2.1 7 < wd D (e.2.1 5) := by
      unfold cfit at t2
      rw [if_neg (by omega), if_pos hv] at t2
      exact of_decide_eq_true t2
    have ec : efC D e = updC D e := by
      unfold efC
      rw [hf, if_neg (by decide), if_neg (by omega), if_pos hv]
    rw [if_neg (hne 4 (by decide) (by omega)), if_neg (hne 5 (by decide) (by omega)), if_neg (hne 6 (by decide) (by omega)), if_pos (by rw [hv])]
    refine c_21 (d := d) hWF hI t3 hno9.1 hno9.2.1 (by omega) (by omega) h7 hM hQ hS hPR hH (fun m1 g11 g1 hD1 f1 => ⟨_, rfl, _, rfl, ?_⟩)
    by_cases hc : updC D e = 0
    · rw [hc, if_pos rfl]
      rw [if_pos hc] at g11 hD1
      rw [hc] at ec
      refine fin m1 S21 f1 (by decide) (by decide) (fun f hf => g1 f (fun z => hf (by rw [z]; decide))) (fun f hf => g1 f (by rcases hf with z | z <;> rw [z] <;> decide)) ec (fun m2 b1 b2 b3 b4 b5 => ?_) ?_
      · unfold efA
        rw [ec, if_neg (by decide), if_neg (by omega), if_neg (by omega), if_neg (by omega)]
        exact ⟨by rw [b1, g11], by rw [b2, g1 12 (by decide)]; exact a2, b4, b5, fun r c _ hc => absurd hc (Nat.not_lt_zero c)⟩
      · unfold efD
        rw [ec, if_neg (by decide), if_neg (by omega), if_neg (by omega), if_neg (by omega), if_pos hv]
        exact hD1
    · rw [if_neg hc] at g11 hD1
      have hu : updC D e = 4 := by
        unfold updC at hc ⊢
        split
        · rfl
        · next hn => exact absurd (if_neg hn) hc
      rw [hu]
      refine bad 4 m1 S21 (by decide) (by decide) (by rw [ec, hu]) f1 (by decide) (by decide) (fun f => ?_) hD1
      by_cases z : f = 11
      · rw [z]; exact g11
      · exact g1 f z
  · -- delete
    have hno9 := hV.2.2.1 (by omega)
    have ec : efC D e = 0 := by
      unfold efC
      rw [hf, if_neg (by decide), if_neg (by omega), if_neg (by omega), if_neg (by omega)]
    rw [if_neg (hne 4 (by decide) (by omega)), if_neg (hne 5 (by decide) (by omega)), if_neg (hne 6 (by decide) (by omega)), if_neg (hne 7 (by decide) (by omega)), if_pos (by rw [hv])]
    refine c_23 (d := d + 2) hWF hI t3 hno9.1 hno9.2.1 hM hQ.1 hQ.2.2.2.1 hPR hH (fun m1 g11 g1 hD1 f1 => ⟨_, rfl, _, rfl, ?_⟩)
    rw [if_pos rfl]
    refine fin m1 S23d f1 (by decide) (by decide) (fun f hf => g1 f (fun z => hf (by rw [z]; decide))) (fun f hf => g1 f (by rcases hf with z | z <;> rw [z] <;> decide)) ec (fun m2 b1 b2 b3 b4 b5 => ?_) ?_
    · unfold efA
      rw [ec, if_neg (by decide), if_neg (by omega), if_neg (by omega), if_neg (by omega)]
      exact ⟨by rw [b1, g11], by rw [b2, g1 12 (by decide)]; exact a2, b4, b5, fun r c _ hc => absurd hc (Nat.not_lt_zero c)⟩
    · unfold efD
      rw [ec, if_neg (by decide), if_neg (by omega), if_neg (by omega), if_neg (by omega), if_neg (by omega), if_pos hv]
      exact hD1
  · -- select
    have h3 := (hV.2.2.2.2.2.2.2 hv).2
    rw [if_neg (hne 4 (by decide) (by omega)), if_neg (hne 5 (by decide) (by omega)), if_neg (hne 6 (by decide) (by omega)), if_neg (hne 7 (by decide) (by omega)), if_neg (hne 8 (by decide) (by omega))]
    refine c_24 (d := d) hWF hI t3 h3 hM hQ hS hPR hH (fun h60 => ⟨_, rfl, _, rfl, ?_⟩) (fun h60 m1 g11 g12 g1 hB f1 => ⟨_, rfl, _, rfl, ?_⟩)
    · have ec : efC D e = 5 := by
        unfold efC
        rw [hf, if_neg (by decide), if_neg (by omega), if_neg (by omega), if_pos ⟨hv, h60⟩]
      exact bad 5 m [] (by decide) (by decide) ec (Fr.refl _ m) (by decide) (by intro c hc; cases hc) (fun f => rfl) hQ.2.2.2.1
    · have ec : efC D e = 0 := by
        unfold efC
        rw [hf, if_neg (by decide), if_neg (by omega), if_neg (by omega), if_neg (by omega)]
      rw [if_pos rfl]
      refine fin m1 S24c f1 (by decide) (by decide) (fun f hf => g1 f (fun z => hf (by rw [z]; decide)) (fun z => hf (by rw [z]; decide))) (fun f hf => g1 f (by rcases hf with z | z <;> rw [z] <;> decide) (by rcases hf with z | z <;> rw [z] <;> decide)) ec (fun m2 b1 b2 b3 b4 b5 => ?_) ?_
      · unfold efA
        rw [ec, if_neg (by decide), if_neg (by omega), if_neg (by omega), if_pos hv]
        exact ⟨by rw [b1, g11], by rw [b2, g12], b4, b5, fun r c hr hc => by rw [b3]; exact hB r c hr hc⟩
      · unfold efD
        rw [ec, if_neg (by decide), if_neg (by omega), if_neg (by omega), if_neg (by omega), if_neg (by omega), if_neg (by omega)]
        exact hQ.2.2.2.1.fr f1 (by decide)
theorem nI_any9 (y : Int32) : ∃ n, y = nI n := by
  refine ⟨y.toBitVec.toNat, ?_⟩
  apply Int32.toBitVec_inj.mp
  show y.toBitVec = BitVec.ofNat 32 y.toBitVec.toNat
  rw [BitVec.ofNat_toNat, BitVec.setWidth_eq]
theorem PR_any (m : Mm) : ∃ i j, PR m i j := by
  obtain ⟨i, hi⟩   := nI_any9 ((m.A 24).getD 0 0)
  obtain ⟨j, hj⟩   := nI_any9 ((m.A 24).getD 1 0)
  exact ⟨i, j, hi, hj⟩
/-- carryOut -/
theorem c_18 (hR : R4 m N e) (hN : N ≤ 80) (hWF : WF e) (hV : VF e (e.2.1 4)) (hI : DI D) (hD : DC m D) (hA : CA m an0) (hAc : AcI m) (k : ∀ m', CA m' (efA D e) → DC m' (efD D e) → AcI m' → G0 m m' → Fr S18 m m' → K (some (.int (nI (efC D e)))) m') : WP (d + 7) 18 [.ref 0] m K := by
  have h5 := hWF.2.2.2.2.2.2.2.2.1
  have h6 := hWF.2.2.2.2.2.2.2.2.2.1
  refine sp_18 ?_
  refine c_106 (d := d + 2) hR hWF hV hD hI (fun m1 f1 hC => ⟨_, rfl, ?_⟩)
  have hL1 : Len m1 := hR.1.1.fr f1
  have hS1 : SR m1 e.2 := hR.2.1.fr f1 (by decide) (F12.fr f1 (by decide))
  have hPA1 : PA m1 e.1.2.2 := hR.1.2.2.2.1.fr f1 (by decide) (by decide) (by decide) (by decide)
  have hD1 := hD.fr f1 (by decide)
  have hA1 := hA.fr f1 (by decide) (by decide)
  have hAc1 := hAc.fr f1 (by decide) (by decide) (by decide) (by decide)
  have hflt : fault D e < 100 := by
    unfold fault
    split
    · split <;> decide
    · decide
  by_cases hf : fault D e = 0
  · rw [if_pos (by rw [hf])]
    have hC1 : CE m1 (rs_ D e) := hC (Or.inl hf)
    obtain ⟨t1, t2, t3, t4⟩ := flt0 hf
    refine ⟨3 + 3 * e.2.1 5, by rw [show m1.F 12 5 = nI (e.2.1 5) from hS1.1 5 rfl]; exact tb_t h5, tbl_t h5, ?_⟩
    refine sp_65 ?_
    rw [show m1.F 12 4 = nI (e.2.1 4) from hS1.1 4 rfl]
    have hv46 : e.2.1 4 = 4 ∨ e.2.1 4 = 5 ∨ e.2.1 4 = 6 ∨ e.2.1 4 = 7 ∨ e.2.1 4 = 8 ∨ e.2.1 4 = 9 := hV.2.1
    have hne : ∀ n : Nat, n < 100 → e.2.1 4 ≠ n → ¬ nI (e.2.1 4) = nI n := fun n hn h => by rw [nIeq (by omega) (by omega)]; exact h
    by_cases hpl : e.2.1 4 = 7 ∨ e.2.1 4 = 8 ∨ e.2.1 4 = 9
    · have main : ∃ w17, some (Value.int (nI 1)) = some (.int w17) ∧ (if w17 = (nI 0) then WH (d + 7) 18 86 [(0, .ref 0), (2, .ref (3 + 3 * e.2.1 5))] [] m1 K else (if (m1.F 12 6) = (-1) then WP (d + 6) 40 [.ref 23, .ref (3 + 3 * e.2.1 5), .ref (3 + 3 * e.2.1 5)] m1 (fun v m26 => v = none ∧ WP (d + 6) 119 [.ref 30] m26 (fun v m27 => v = none ∧ WP (d + 6) 123 [.ref 30] m27 (fun v m28 => v = none ∧ WH (d + 7) 18 86 [(0, .ref 0), (2, .ref (3 + 3 * e.2.1 5))] [] m28 K))) else ∃ r20, tb_of (m1.F 12 6) r20 ∧ tbl r20 ∧ WP (d + 6) 40 [.ref 23, .ref (3 + 3 * e.2.1 5), .ref r20] m1 (fun v m23 => v = none ∧ WP (d + 6) 119 [.ref 30] m23 (fun v m24 => v = none ∧ WP (d + 6) 123 [.ref 30] m24 (fun v m25 => v = none ∧ WH (d + 7) 18 86 [(0, .ref 0), (2, .ref (3 + 3 * e.2.1 5))] [] m25 K))))) := by
        refine ⟨_, rfl, ?_⟩
        rw [if_neg (by decide)]
        have h12_6 : m1.F 12 6 = ow (e.2.1 6) := hS1.1 6 rfl
        -- both ways
        have go : ∀ r2, tbl r2 → r2 = 3 + 3 * tq e 1 → tq e 1 < 3 → WP (d + 6) 40 [.ref 23, .ref (3 + 3 * e.2.1 5), .ref r2] m1 (fun v m26 => v = none ∧ WP (d + 6) 119 [.ref 30] m26 (fun v m27 => v = none ∧ WP (d + 6) 123 [.ref 30] m27 (fun v m28 => v = none ∧ WH (d + 7) 18 86 [(0, .ref 0), (2, .ref (3 + 3 * e.2.1 5))] [] m28 K))) := by
          intro r2 hr2 er2 ht1
          have l24 : (m1.A 24).length = 2 := hL1.a (by decide) rfl
          refine sp_40 _ _ (tbl_t h5) hr2 ?_
          rw [List.length_set, l24, show ix (nI 0) = 0 from rfl, show ix (nI 1) = 1 from rfl]
          refine ⟨ok_nI (by decide) (by decide), ok_nI (by decide) (by decide), rfl, ?_⟩
          have f2 : Fr [23, 24] m1 ((((m1.uR 23 1 (3 + 3 * e.2.1 5)).uR 23 2 r2).uA 24 ((m1.A 24).set 0 (nI 0))).uA 24 (((m1.A 24).set 0 (nI 0)).set 1 (nI 0))) := Fr.uA (Fr.uA (Fr.uR (Fr.uR (Fr.refl _ m1) (by decide) _ _) (by decide) _ _) (by decide) (by rw [List.length_set]; rfl)) (by decide) (by rw [List.length_set]; rfl)
          have r231 : ((((m1.uR 23 1 (3 + 3 * e.2.1 5)).uR 23 2 r2).uA 24 ((m1.A 24).set 0 (nI 0))).uA 24 (((m1.A 24).set 0 (nI 0)).set 1 (nI 0))).R 23 1 = 3 + 3 * e.2.1 5 := rfl
          have r232 : ((((m1.uR 23 1 (3 + 3 * e.2.1 5)).uR 23 2 r2).uA 24 ((m1.A 24).set 0 (nI 0))).uA 24 (((m1.A 24).set 0 (nI 0)).set 1 (nI 0))).R 23 2 = r2 := rfl
          have hPR : PR ((((m1.uR 23 1 (3 + 3 * e.2.1 5)).uR 23 2 r2).uA 24 ((m1.A 24).set 0 (nI 0))).uA 24 (((m1.A 24).set 0 (nI 0)).set 1 (nI 0))) 0 0 := by
            refine ⟨?_, ?_⟩
            · show (((m1.A 24).set 0 (nI 0)).set 1 (nI 0)).getD 0 0 = nI 0
              rw [getD_set _ _ _ _ _ (by rw [List.length_set]; omega), if_neg (by decide), getD_set _ _ _ _ _ (by omega), if_pos rfl]
            · show (((m1.A 24).set 0 (nI 0)).set 1 (nI 0)).getD 1 0 = nI 0
              rw [getD_set _ _ _ _ _ (by rw [List.length_set]; omega), if_pos rfl]
          generalize (((m1.uR 23 1 (3 + 3 * e.2.1 5)).uR 23 2 r2).uA 24 ((m1.A 24).set 0 (nI 0))).uA 24 (((m1.A 24).set 0 (nI 0)).set 1 (nI 0)) = m2 at *
          have hS2 : SR m2 e.2 := hS1.fr f2 (by decide) (F12.fr f2 (by decide))
          have hPt : ∀ p, p ∈ e.1.2.2 → okPt (rs_ D e) p := fun p hp => okPt_map (hWF.2.2.2.2.1 p hp)
          have hpl : e.1.2.2.length ≤ 80 := by have := hR.1.2.2.2.2.2; omega
          have hQ2 : CQ m2 (rs_ D e) (tq e) D e.1.2.2 := ⟨hL1.fr f2, hC1.fr f2 (by decide) (by decide) (by decide) (by decide), sd2_rs t3 hWF.1, hD1.fr f2 (by decide), hPA1.fr f2 (by decide) (by decide) (by decide) (by decide), okPs_of hPt, hpl, by rw [tq0]; exact h5, ht1, by rw [r231, tq0], by rw [r232]; exact er2⟩
          refine c_search (d := d) hWF hI t3 hQ2 hS2 hPR (hAc1.fr f2 (by decide) (by decide) (by decide) (by decide)) (fun m3 hH h14 hP hAc3 f3 => ⟨rfl, ?_⟩)
          have f13 : Fr S18 m m3 := ((f1.mono (by decide)).trans (f2.mono (by decide))).trans (f3.mono (by decide))
          have g03 : G0 m m3 := ((G0.fr f1 (by decide)).trans (G0.fr f2 (by decide))).trans (G0.fr f3 (by decide))
          obtain ⟨i, j, hPR3⟩ := PR_any m3
          refine t_18b (d := d + 1) hWF hV hf hI ‹_› (hQ2.fr f3 (by decide)) (hS2.fr f3 (by decide) (F12.fr f3 (by decide))) hPR3 ((hA1.fr f2 (by decide) (by decide)).fr f3 (by decide) (by decide)) hH h14 hP (fun m4 a1 a2 a3 a4 _ a5 => k m4 a1 a2 ?_ (g03.trans a3) (f13.trans a4))
          unfold AcI at hAc3 ⊢
          rw [a5 36 (by decide), a5 36 (by decide), a5 37 (by decide), a5 37 (by decide), a5 38 (by decide), a5 38 (by decide), a5 39 (by decide), a5 39 (by decide)]
          exact hAc3
        by_cases hz : e.2.1 6 = 0
        · have e1 : tq e 1 = e.2.1 5 := if_pos (Or.inr hz)
          rw [h12_6, if_pos (by rw [hz]; rfl)]
          exact go _ (tbl_t h5) (by rw [e1]) (by rw [e1]; exact h5)
        · have e1 : tq e 1 = e.2.1 6 - 1 := if_neg (by omega)
          obtain ⟨n, hn⟩ : ∃ n, e.2.1 6 = n + 1 := ⟨e.2.1 6 - 1, by omega⟩
          have e2 : ow (e.2.1 6) = nI n := by rw [hn]; rfl
          rw [h12_6, e2, if_neg (by rw [m1_eq (by omega)]; exact id)]
          have hn3 : n < 3 := by omega
          exact ⟨3 + 3 * n, tb_t hn3, tbl_t hn3, go _ (tbl_t hn3) (by rw [e1, hn]; rfl) (by rw [e1]; omega)⟩
      by_cases z7 : nI (e.2.1 4) = nI 7
      · rw [if_pos z7]; exact main
      · rw [if_neg z7]
        by_cases z8 : nI (e.2.1 4) = nI 8
        · rw [if_pos z8]; exact main
        · rw [if_neg z8]
          have z9 : e.2.1 4 = 9 := by
            rcases hpl with z | z | z
            · exact absurd (by rw [z]) z7
            · exact absurd (by rw [z]) z8
            · exact z
          rw [if_pos (by rw [z9])]; exact main
    · rw [if_neg (hne 7 (by decide) (by omega)), if_neg (hne 8 (by decide) (by omega)), if_neg (hne 9 (by decide) (by omega))]
      refine ⟨_, rfl, ?_⟩
      rw [if_pos rfl]
      have g1 : G0 m m1 := G0.fr f1 (by decide)
      refine t_18a (d := d + 1) hWF hV hf hI (by omega) hL1 hS1 hC1 hD1 hA1 (fun m4 a1 a2 a3 a4 a5 => k m4 a1 a2 ?_ (g1.trans a3) ((f1.mono (by decide)).trans a4))
      unfold AcI at hAc1 ⊢
      rw [a5 36 (by decide), a5 36 (by decide), a5 37 (by decide), a5 37 (by decide), a5 38 (by decide), a5 38 (by decide), a5 39 (by decide), a5 39 (by decide)]
      exact hAc1
  · rw [if_neg (by rw [nIeq (by omega) (by decide)]; exact hf)]
    have ec : efC D e = fault D e := by unfold efC; rw [if_pos hf]
    have ea : efA D e = an0 := by unfold efA; rw [if_pos (by rw [ec]; exact hf)]
    have ed : efD D e = D := by unfold efD; rw [if_pos (by rw [ec]; exact hf)]
    rw [ea, ed, ec] at k
    exact k m1 hA1 hD1 hAc1 (G0.fr f1 (by decide)) (f1.mono (by decide))
end C99
