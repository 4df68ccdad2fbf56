/-! THE REFERENCE: statement() reads as the spec -/
section R57
variable {d N b : Nat} {m m0 m1 : Mm} {K : Option Value → Mm → Prop} {s : St} {nm w : Nat} {v : Int32}
theorem RS.up4 {c : Sc} {x : Nat} (h : RS m c nm) : RS m (upS c 4 x) nm := h
theorem c_162 (hX : Rs m N s 0 0) (hs1 : s.1.2.1 = []) (hs2 : s.2.2 = []) (hN0 : s.1.1.length = N) (k : EQ m N (nI (wc (hd s.1.1))) K (chk (sWhole s))) : WP (d + 11) 162 [.ref 42] m K := by
  have hL := hX.1
  have hT := hX.2.1
  have hN := hT.2.2.2.1
  have l1 : (m.A 44).length = 101 := hL.a (by decide) rfl
  have l2 : (m.A 45).length = 101 := hL.a (by decide) rfl
  have hk := hT.kind
  rw [hN0, Nat.sub_self] at hk
  have hkl := kh_lt s.1.1
  have ho : ok 101 (nI 0) := ok_nI (by decide) (by decide)
  refine sp_162 ?_
  rw [l1, l2, ix_nI (by decide), hk]
  refine ⟨ho, ?_⟩
  have bad : ∀ x y, sWhole s = none → WH (d + 11) 162 300 [(0, .ref 42)] [] (((m.uF 42 17 x).uF 42 5 y).uF 42 6 (nI 1)) K := by
    intro x y h
    rw [h] at k
    exact l300b rfl (Fq.uF (Fq.uF (Fq.uF (Fq.refl _ _ _) (by decide) _) (by decide) _) (by decide) _) k
  have none_of : (∀ j, 4 ≤ j → j ≤ 9 → hd s.1.1 ≠ j) → sWhole s = none := by
    intro h
    unfold sWhole
    dsimp only
    rw [if_neg (h 4 (by decide) (by decide)), if_neg (h 5 (by decide) (by decide)), if_neg (h 6 (by decide) (by decide)), if_neg (h 7 (by decide) (by decide)), if_neg (h 8 (by decide) (by decide)), if_neg (h 9 (by decide) (by decide))]
  by_cases h1 : kh s.1.1 = 1
  · rw [if_pos (by rw [h1])]
    refine ⟨ho, ?_⟩
    cases hts : s.1.1 with
    | nil => rw [hts] at h1; cases h1
    | cons t r =>
      have hhd : hd s.1.1 = t.1 := by rw [hts]; rfl
      have hT0 := hT
      rw [hts] at hT0 h1
      have h1 : eK t = 1 := h1
      have hh := hT0.hd0
      have hlen : r.length + 1 = N := by rw [← hN0, hts]; rfl
      rw [hlen, Nat.sub_self] at hh
      obtain ⟨g1, g2, g3⟩ := hh
      generalize hw : (m.A 45).getD 0 0 = x at *
      have V : ∀ j, 4 ≤ j → j ≤ 9 → (x = nI (wc j)) = (t.1 = j) := fun j h1' h2' => verb_iff g3 h1 g2 h1' (by omega)
      have f0 : Fq (17 :: GS) SS m ((m.uF 42 17 x).uF 42 5 (nI 1)) := Fq.uF (Fq.uF (Fq.refl _ _ _) (by decide) _) (by decide) _
      have f1 : Fq [17] [] m (m.uF 42 17 x) := Fq.uF (Fq.refl _ _ _) (by decide) _
      have f2 : Fq [5, 17] [] m ((m.uF 42 17 x).uF 42 5 (nI 1)) := Fq.uF (f1.mono (by decide) (by decide)) (by decide) _
      have x1 : Rs ((m.uF 42 17 x).uF 42 5 (nI 1)) N ((s.1.1.tail, s.1.2), upS s.2 4 (hd s.1.1)) 0 0 := by
        obtain ⟨hL, hT, hC, hP, hS, h6, h15, hw, hb1, hb2⟩ := hX
        have et : s.1.1.tail = r := by rw [hts]; rfl
        rw [hts] at hb1 hb2
        simp only [List.length_cons] at hb1 hb2
        refine ⟨hL.fq f2, ?_, hC.fq f2 (by decide) (by decide) (by decide), hP.fq f2 (by decide) (by decide) (by decide) (by decide), (hS.fq f2 (by decide) (by decide)).up4, ?_, ?_, ?_, ?_, ?_⟩
        · show RT _ N s.1.1.tail
          rw [et]
          have := (hT0.fq f1 (by decide) (by decide) (by decide) (by decide)).next
          rw [hlen, Nat.sub_self, Nat.zero_add] at this
          exact this
        · rw [f2.f (by decide)]; exact h6
        · rw [f2.f (by decide)]; exact h15
        · rw [f2.f (by decide), f2.f (by decide)]; exact hw
        · show s.1.2.1.length + s.1.1.tail.length ≤ N
          rw [et]; omega
        · show s.2.2.length + s.1.1.tail.length ≤ N
          rw [et]; omega
      have h17 : ((m.uF 42 17 x).uF 42 5 (nI 1)).F 42 17 = x := rfl
      have key : ∀ j, 4 ≤ j → j ≤ 9 → t.1 = j → EQ m N x K (chk (sWhole s)) := by
        intro j h1' h2' e
        have : x = nI (wc (hd s.1.1)) := by rw [hhd, e]; exact (V j h1' h2').mpr e
        rw [this]; exact k
      refine c_wrd_4 (by omega) ⟨_, rfl, ?_⟩
      by_cases e4 : t.1 = 4
      · rw [if_pos (show x = nI (wc 4) from (V 4 (by decide) (by decide)).mpr e4)]
        have k2 := key 4 (by decide) (by decide) e4
        unfold sWhole at k2
        dsimp only at k2
        rw [if_pos (hhd.trans e4)] at k2
        exact l_create x1 h17 f0 k2
      · rw [if_neg (show ¬ x = nI (wc 4) from fun z => e4 ((V 4 (by decide) (by decide)).mp z))]
        refine c_wrd_5 (by omega) ⟨_, rfl, ?_⟩
        by_cases e5 : t.1 = 5
        · rw [if_pos (show ((m.uF 42 17 x).uF 42 5 (nI 1)).F 42 17 = nI (wc 5) from (V 5 (by decide) (by decide)).mpr e5)]
          have k2 := key 5 (by decide) (by decide) e5
          unfold sWhole at k2
          dsimp only at k2
          rw [if_neg (by rw [hhd]; exact e4), if_pos (hhd.trans e5)] at k2
          exact l_index x1 h17 f0 k2
        · rw [if_neg (show ¬ ((m.uF 42 17 x).uF 42 5 (nI 1)).F 42 17 = nI (wc 5) from fun z => e5 ((V 5 (by decide) (by decide)).mp z))]
          refine c_wrd_6 (by omega) ⟨_, rfl, ?_⟩
          by_cases e6 : t.1 = 6
          · rw [if_pos (show ((m.uF 42 17 x).uF 42 5 (nI 1)).F 42 17 = nI (wc 6) from (V 6 (by decide) (by decide)).mpr e6)]
            have k2 := key 6 (by decide) (by decide) e6
            unfold sWhole at k2
            dsimp only at k2
            rw [if_neg (by rw [hhd]; exact e4), if_neg (by rw [hhd]; exact e5), if_pos (hhd.trans e6)] at k2
            exact l_insert x1 hs1 hs2 h17 f0 k2
          · rw [if_neg (show ¬ ((m.uF 42 17 x).uF 42 5 (nI 1)).F 42 17 = nI (wc 6) from fun z => e6 ((V 6 (by decide) (by decide)).mp z))]
            refine c_wrd_7 (by omega) ⟨_, rfl, ?_⟩
            by_cases e7 : t.1 = 7
            · rw [if_pos (show ((m.uF 42 17 x).uF 42 5 (nI 1)).F 42 17 = nI (wc 7) from (V 7 (by decide) (by decide)).mpr e7)]
              have k2 := key 7 (by decide) (by decide) e7
              unfold sWhole at k2
              dsimp only at k2
              rw [if_neg (by rw [hhd]; exact e4), if_neg (by rw [hhd]; exact e5), if_neg (by rw [hhd]; exact e6), if_pos (hhd.trans e7)] at k2
              exact l_update x1 hs1 hs2 h17 f0 k2
            · rw [if_neg (show ¬ ((m.uF 42 17 x).uF 42 5 (nI 1)).F 42 17 = nI (wc 7) from fun z => e7 ((V 7 (by decide) (by decide)).mp z))]
              refine c_wrd_8 (by omega) ⟨_, rfl, ?_⟩
              by_cases e8 : t.1 = 8
              · rw [if_pos (show ((m.uF 42 17 x).uF 42 5 (nI 1)).F 42 17 = nI (wc 8) from (V 8 (by decide) (by decide)).mpr e8)]
                have k2 := key 8 (by decide) (by decide) e8
                unfold sWhole at k2
                dsimp only at k2
                rw [if_neg (by rw [hhd]; exact e4), if_neg (by rw [hhd]; exact e5), if_neg (by rw [hhd]; exact e6), if_neg (by rw [hhd]; exact e7), if_pos (hhd.trans e8)] at k2
                exact l_delete x1 h17 f0 k2
              · rw [if_neg (show ¬ ((m.uF 42 17 x).uF 42 5 (nI 1)).F 42 17 = nI (wc 8) from fun z => e8 ((V 8 (by decide) (by decide)).mp z))]
                refine c_wrd_9 (by omega) ⟨_, rfl, ?_⟩
                by_cases e9 : t.1 = 9
                · rw [if_pos (show ((m.uF 42 17 x).uF 42 5 (nI 1)).F 42 17 = nI (wc 9) from (V 9 (by decide) (by decide)).mpr e9)]
                  have k2 := key 9 (by decide) (by decide) e9
                  unfold sWhole at k2
                  dsimp only at k2
                  rw [if_neg (by rw [hhd]; exact e4), if_neg (by rw [hhd]; exact e5), if_neg (by rw [hhd]; exact e6), if_neg (by rw [hhd]; exact e7), if_neg (by rw [hhd]; exact e8), if_pos (hhd.trans e9)] at k2
                  exact l_select x1 hs1 hs2 h17 f0 k2
                · rw [if_neg (show ¬ ((m.uF 42 17 x).uF 42 5 (nI 1)).F 42 17 = nI (wc 9) from fun z => e9 ((V 9 (by decide) (by decide)).mp z))]
                  refine bad x (nI 1) (none_of (fun j h1' h2' => ?_))
                  rw [hhd]
                  rcases (by omega : j = 4 ∨ j = 5 ∨ j = 6 ∨ j = 7 ∨ j = 8 ∨ j = 9) with rfl | rfl | rfl | rfl | rfl | rfl
                  · exact e4
                  · exact e5
                  · exact e6
                  · exact e7
                  · exact e8
                  · exact e9
  · rw [if_neg (by rw [nIeq (by omega) (by omega)]; exact h1)]
    have hno : sWhole s = none := by
      refine none_of (fun j h1' h2' => ?_)
      cases hts : s.1.1 with
      | nil => show 0 ≠ j; omega
      | cons t r =>
        rw [hts] at h1
        have h1 : ¬ eK t = 1 := h1
        show t.1 ≠ j
        intro z
        apply h1
        unfold eK
        rw [if_neg (by omega), if_neg (by omega), if_pos (by omega)]
    have W : ∀ j, 4 ≤ j → j ≤ 18 → ¬ nI 0 = nI (wc j) := fun j h1' h2' => by
      have := wc_big h1' h2'
      rw [nIeq (by omega) this.2]; omega
    have h17 : ((m.uF 42 17 (nI 0)).uF 42 5 (nI 1)).F 42 17 = nI 0 := rfl
    refine c_wrd_4 (by omega) ⟨_, rfl, ?_⟩
    rw [if_neg (W 4 (by decide) (by decide))]
    refine c_wrd_5 (by omega) ⟨_, rfl, ?_⟩
    rw [h17, if_neg (W 5 (by decide) (by decide))]
    refine c_wrd_6 (by omega) ⟨_, rfl, ?_⟩
    rw [h17, if_neg (W 6 (by decide) (by decide))]
    refine c_wrd_7 (by omega) ⟨_, rfl, ?_⟩
    rw [h17, if_neg (W 7 (by decide) (by decide))]
    refine c_wrd_8 (by omega) ⟨_, rfl, ?_⟩
    rw [h17, if_neg (W 8 (by decide) (by decide))]
    refine c_wrd_9 (by omega) ⟨_, rfl, ?_⟩
    rw [if_neg (W 9 (by decide) (by decide))]
    exact bad _ _ hno
end R57
