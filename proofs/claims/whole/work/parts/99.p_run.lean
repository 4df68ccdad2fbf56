/-! run() -/
theorem WP_pure {d M : Nat} {As : List Value} {m : Mm} {p : Prop} (h : WP d M As m (fun _ _ => p)) : p := by
  obtain ⟨v, g, _, m', _, k⟩ := h
  exact k
theorem lex_tvs {m : Mm} {cl : List Nat} (hL : Len m) (hX : TX 43 m cl) : ∀ ts, lxW tokA 32 cl = some ts → tvs ts ∧ ts.length ≤ 80 := by
  have f1 : Fr [42] m (((m.uF 42 1 (nI cl.length)).uF 42 5 (nI 0)).uF 42 6 (nI 0)) := Fr.uF (Fr.uF (Fr.uF (Fr.refl _ m) (by decide) _ _) (by decide) _ _) (by decide) _ _
  refine WP_pure (d := 1) (M := 138) (As := [.ref 42]) (m := ((m.uF 42 1 (nI cl.length)).uF 42 5 (nI 0)).uF 42 6 (nI 0)) (c_138 (d := 0) (cl := cl) (hL.fr f1) hX rfl rfl rfl (fun ts hts m' hR _ _ => ?_) (fun hn m' _ _ => ?_))
  · intro ts' h'
    rw [hts] at h'
    cases h'
    refine ⟨fun t ht => ?_, hR.2.2.2.1⟩
    obtain ⟨i, hi, he⟩ := List.getElem_of_mem ht
    have := (hR.2.2.2.2.2 i hi).2.2
    rw [List.getD_eq_getElem?_getD, List.getElem?_eq_getElem hi] at this
    rw [← he]
    exact this
  · intro ts' h'
    rw [hn] at h'; cases h'
theorem chk_some {x : Option St} {e : St} (h : chk x = some e) : x = some e ∧ hd e.1.1 = 0 := by
  unfold chk at h
  split at h
  · split at h
    · next hh => cases h; exact ⟨rfl, hh⟩
    · cases h
  · cases h
theorem parse_ok {m : Mm} {cl : List Nat} {e : St} (hL : Len m) (hX : TX 43 m cl) (h : parse cl = some e) : WF e ∧ VF e (e.2.1 4) ∧ QS e := by
  rw [parse_ref] at h
  split at h
  · next ts hts =>
    obtain ⟨hw, _⟩ := chk_some h
    have ht := (lex_tvs hL hX ts hts).1
    obtain ⟨h1, h2⟩ := whole_wf ht hw
    refine ⟨h1, ?_, Q_whole hw (Nat.le_refl 0)⟩
    rw [h2.1]; exact h2
  · cases h
def rnC (D : Db) (cl : List Nat) : Nat := match parse cl with | some e => efC D e | none => 1
def rnD (D : Db) (cl : List Nat) : Db := match parse cl with | some e => efD D e | none => D
def rnA (D : Db) (cl : List Nat) : An := match parse cl with | some e => efA D e | none => an0
theorem rn_some {D : Db} {cl : List Nat} {e : St} (h : parse cl = some e) : rnC D cl = efC D e ∧ rnD D cl = efD D e ∧ rnA D cl = efA D e := by
  unfold rnC rnD rnA
  rw [h]
  exact ⟨rfl, rfl, rfl⟩
theorem rn_none {D : Db} {cl : List Nat} (h : parse cl = none) : rnC D cl = 1 ∧ rnD D cl = D ∧ rnA D cl = an0 := by
  unfold rnC rnD rnA
  rw [h]
  exact ⟨rfl, rfl, rfl⟩
def S4 : List Nat := [0, 3, 4, 5, 6, 7, 8, 9, 10, 11, 12, 13, 14, 15, 16, 17, 18, 19, 20, 21, 22, 23, 24, 25, 26, 27, 28, 30, 31, 32, 33, 34, 35, 36, 37, 38, 39, 40, 41]
theorem DI_insD {D : Db} {e : St} (hWF : WF e) (hV : VF e (e.2.1 4)) (h66 : e.2.1 4 = 6) (hf : fault D e = 0) (hI : DI D) (hic : insC D e = 0) : DI (insD D e) := by
  have h5 := hWF.2.2.2.2.2.2.2.2.1
  obtain ⟨t1, t2, t3, t4⟩ := flt0 hf
  unfold tfit at t1
  rw [if_neg (by omega)] at t1
  have t1 := (of_decide_eq_true t1).1
  have hln : e.2.2.length = wd D (e.2.1 5) := by
    unfold nfit at t4
    rw [if_neg (by omega), if_pos h66] at t4
    exact of_decide_eq_true t4
  have hn3 : ∀ x, x ∈ rs_ D e → x.1 ≠ 3 := by
    intro x hx h3
    obtain ⟨y, hy, rfl⟩ := List.mem_map.mp hx
    rw [rsv_1] at h3
    have := List.all_eq_true.mp t3 y hy
    unfold okSb at this
    rw [decide_eq_false (by intro z; exact z h3), Bool.false_or, decide_eq_false (by intro z; exact z h66), Bool.false_and] at this
    cases this
  unfold insC at hic
  split at hic
  · cases hic
  · next hno =>
    split at hic
    · cases hic
    · next h20 =>
      have k0 : key (vR D e) = vI D e 0 := vR_get t1
      refine DI_ins h5 hI t1 (vR_len D e) (fun x hx => ?_) (by omega) (by rw [k0]; exact fun z => hno (Or.inl z)) (fun r hr => ?_)
      · unfold vR at hx
        obtain ⟨c, hc, rfl⟩ := List.mem_map.mp hx
        have hc := List.mem_range.mp hc
        have ht := (hWF.2.1 c (by omega)).2.2
        have ht' : tyC false (seg (rs_ D e) (tmF e.2 c) (e.2.2.getD c 0)) := by unfold rs_; rw [seg_map]; exact tyC_map ht
        have := (val_ty (env := env0) (fun x hx h3 => absurd h3 (hn3 x (seg_mem hx))) ht').1
        unfold VT at this
        rw [if_neg (by decide)] at this
        exact this
      · rw [k0]
        intro z
        refine hno (Or.inr ?_)
        unfold cntR
        exact List.countP_pos_iff.mpr ⟨r, hr, decide_eq_true z⟩
/-- the tables stay sound -/
theorem DI_ef {D : Db} {e : St} (hWF : WF e) (hV : VF e (e.2.1 4)) (hI : DI D) : DI (efD D e) := by
  have h5 := hWF.2.2.2.2.2.2.2.2.1
  unfold efD
  by_cases hc : efC D e = 0
  · rw [if_neg (by rw [hc]; decide)]
    have hf : fault D e = 0 := by
      by_cases z : fault D e = 0
      · exact z
      · unfold efC at hc
        rw [if_pos z] at hc
        exact absurd hc z
    obtain ⟨t1, t2, t3, t4⟩ := flt0 hf
    by_cases h4 : e.2.1 4 = 4
    · rw [if_pos h4]
      unfold tfit at t1
      rw [if_pos h4] at t1
      unfold nfit at t4
      rw [if_pos h4] at t4
      exact DI_mk hI h5 (of_decide_eq_true t1) (of_decide_eq_true t4).2
    · rw [if_neg h4]
      unfold tfit at t1
      rw [if_neg h4] at t1
      have t1 := (of_decide_eq_true t1).1
      by_cases h55 : e.2.1 4 = 5
      · rw [if_pos h55]
        unfold cfit at t2
        rw [if_pos h55] at t2
        have := of_decide_eq_true t2
        exact DI_ix hI h5 ⟨this.1, this.2.1⟩
      · rw [if_neg h55]
        by_cases h66 : e.2.1 4 = 6
        · rw [if_pos h66]
          have hic : insC D e = 0 := by
            unfold efC at hc
            rw [hf, if_neg (by decide), if_pos h66] at hc
            exact hc
          exact DI_insD hWF hV h66 hf hI hic
        · rw [if_neg h66]
          by_cases h77 : e.2.1 4 = 7
          · rw [if_pos h77]
            have hno9 := hV.2.2.1 (by omega)
            have hl := hV.2.2.2.2.2.1 h77
            unfold cfit at t2
            rw [if_neg h55, if_pos h77] at t2
            unfold efC at hc
            rw [hf, if_neg (by decide), if_neg h66, if_pos h77] at hc
            exact DI_upd hWF hI t3 hno9.1 (by omega) (of_decide_eq_true t2) hc
          · rw [if_neg h77]
            by_cases h88 : e.2.1 4 = 8
            · rw [if_pos h88]; exact DI_del hI h5
            · rw [if_neg h88]; exact hI
  · rw [if_pos hc]; exact hI
section Z99
variable {d N nm : Nat} {m m0 m1 : Mm} {K : Option Value → Mm → Prop} {D : Db} {e : St} {P : Nat → List (List Int64)} {cl : List Nat}
theorem R4.fr0 {S : List Nat} {s : St} (h : R4 m N s) (f : Fr S m m1) (hs : dj S SB = true) : R4 m1 N s := by
  have n : ∀ c, c ∈ SB → c ∉ S := fun c hc => dj_no hs hc
  obtain ⟨⟨hL, hT, hC, hP, hc, hp⟩, hS, he⟩ := h
  exact ⟨⟨hL.fr f, hT.fr f (n _ (by decide)) (n _ (by decide)) (n _ (by decide)), hC.fr f (n _ (by decide)) (n _ (by decide)) (n _ (by decide)) (n _ (by decide)), hP.fr f (n _ (by decide)) (n _ (by decide)) (n _ (by decide)) (n _ (by decide)), hc, hp⟩, hS.fr f (n _ (by decide)) (F12.fr f (n _ (by decide))), he⟩
/-- run() of the class -/
theorem c_4 (hL : Len m) (hX : TX 1 m cl) (hX3 : TX 43 m cl) (h10 : m.F 0 10 = nI cl.length) (hD : DC m D) (hI : DI D) (hAc : AcI m) (k : ∀ m', CA m' (rnA D cl) → DC m' (rnD D cl) → AcI m' → m'.F 0 10 = nI 0 → Fr S4 m m' → K (some (.int (nI (rnC D cl)))) m') : WP 48 4 [.ref 0] m K := by
  refine sp_4 (sp_17 ⟨rfl, ?_⟩)
  have f1 : Fr [0] m ((((m.uF 0 11 (nI 0)).uF 0 12 (nI 0)).uF 0 13 (nI 0)).uF 0 14 (nI 0)) := Fr.uF (Fr.uF (Fr.uF (Fr.uF (Fr.refl _ m) (by decide) _ _) (by decide) _ _) (by decide) _ _) (by decide) _ _
  have hA1 : CA ((((m.uF 0 11 (nI 0)).uF 0 12 (nI 0)).uF 0 13 (nI 0)).uF 0 14 (nI 0)) an0 := ⟨rfl, rfl, rfl, rfl, fun r c hr => absurd hr (Nat.not_lt_zero r)⟩
  have e10 : ((((m.uF 0 11 (nI 0)).uF 0 12 (nI 0)).uF 0 13 (nI 0)).uF 0 14 (nI 0)).F 0 10 = nI cl.length := h10
  have hX1 : TX 1 ((((m.uF 0 11 (nI 0)).uF 0 12 (nI 0)).uF 0 13 (nI 0)).uF 0 14 (nI 0)) cl := hX
  generalize (((m.uF 0 11 (nI 0)).uF 0 12 (nI 0)).uF 0 13 (nI 0)).uF 0 14 (nI 0) = m1 at *
  have hL1 := hL.fr f1
  have hD1 := hD.fr f1 (by decide)
  have hAc1 := hAc.fr f1 (by decide) (by decide) (by decide) (by decide)
  -- no statement
  have bad : ∀ m2 S, Fr S m1 m2 → (∀ c, c ∈ S → c ∈ SB) → parse cl = none → K (some (.int (nI 1))) (m2.uF 0 10 (nI 0)) := by
    intro m2 S f2 hs hp
    obtain ⟨c1, c2, c3⟩ := rn_none (D := D) hp
    rw [c1, c2, c3] at k
    have f2' : Fr SB m1 m2 := f2.mono hs
    have f3 : Fr [0] m2 (m2.uF 0 10 (nI 0)) := Fr.uF (Fr.refl _ m2) (by decide) _ _
    refine k _ ?_ ((hD1.fr f2' (by decide)).fr f3 (by decide)) ((hAc1.fr f2' (by decide) (by decide) (by decide) (by decide)).fr f3 (by decide) (by decide) (by decide) (by decide)) (by rw [mF_F, if_pos ⟨rfl, rfl⟩]) (((f1.mono (by decide)).trans (f2'.mono (by decide))).trans (f3.mono (by decide)))
    have := hA1.fr f2' (by decide) (by decide)
    exact this
  rw [e10]
  refine c_84 (d := 46) (by decide) hL1 hX1 ?_
  cases hl : lxW tokC 32 cl with
  | none =>
    intro m2 f2
    refine ⟨_, rfl, ?_⟩
    rw [if_pos rfl]
    exact bad m2 SB f2 (fun c hc => hc) (by unfold parse; rw [hl])
  | some ts =>
    intro m2 hR2 f2
    refine ⟨_, rfl, ?_⟩
    rw [if_neg (by decide)]
    refine c_86 m2 _ ts.length _ hR2 ?_
    cases hw : sWhole ((ts, [], []), sc0) with
    | none =>
      intro m3 f3
      refine ⟨_, rfl, ?_⟩
      rw [if_pos rfl]
      exact bad m3 SB (f2.trans (f3.mono (by decide))) (fun c hc => hc) (by unfold parse; rw [hl]; dsimp only; rw [hw])
    | some e =>
      intro m3 hR3 f3
      refine ⟨_, rfl, ?_⟩
      rw [if_neg (by decide)]
      refine sp_85 (c_next hR3.1.1 hR3.1.2.1.2 ⟨_, rfl, ?_⟩)
      have hN80 : ts.length ≤ 80 := hR3.1.2.1.le
      have f23 : Fr SB m1 m3 := f2.trans (f3.mono (by decide))
      by_cases hh : hd e.1.1 = 0
      · rw [if_pos (by rw [hh])]
        refine ⟨_, rfl, ?_⟩
        rw [if_neg (by decide)]
        have hp : parse cl = some e := by unfold parse; rw [hl]; dsimp only; rw [hw]; dsimp only; rw [if_pos hh]
        obtain ⟨w1, w2, w3⟩ := parse_ok hL hX3 hp
        obtain ⟨c1, c2, c3⟩ := rn_some (D := D) hp
        rw [c1, c2, c3] at k
        have f4 : Fr [0] m3 (m3.uF 0 10 (nI 0)) := Fr.uF (Fr.refl _ m3) (by decide) _ _
        have hA2 : CA m3 an0 := hA1.fr f23 (by decide) (by decide)
        have hA3 : CA (m3.uF 0 10 (nI 0)) an0 := hA2
        refine c_18 (d := 40) (hR3.fr0 f4 (by decide)) hN80 w1 w2 hI ((hD1.fr f23 (by decide)).fr f4 (by decide)) hA3 ((hAc1.fr f23 (by decide) (by decide) (by decide) (by decide)).fr f4 (by decide) (by decide) (by decide) (by decide)) (fun m5 a1 a2 a3 a4 f5 => ⟨_, rfl, ?_⟩)
        refine k m5 a1 a2 a3 ?_ (((((f1.mono (by decide)).trans (f23.mono (by decide)))).trans (f4.mono (by decide))).trans (f5.mono (by decide)))
        rw [a4 10 (by decide), mF_F, if_pos ⟨rfl, rfl⟩]
      · have hlt : hd e.1.1 < 2 ^ 31 := by
          have hT := hR3.1.2.1.2
          cases hq : e.1.1 with
          | nil => decide
          | cons t q =>
            rw [hq] at hT
            have := (hT.2.2.2 0 (by rw [List.length_cons]; omega)).2.2.1
            show t.1 < 2 ^ 31
            have h9 : t.1 < 1000 := this
            omega
        rw [if_neg (by rw [nIeq hlt (by decide)]; exact hh)]
        refine ⟨_, rfl, ?_⟩
        rw [if_pos rfl]
        exact bad m3 SB f23 (fun c hc => hc) (by unfold parse; rw [hl]; dsimp only; rw [hw]; dsimp only; rw [if_neg hh])
end Z99
