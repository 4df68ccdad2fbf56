/-! PLANS: the class's Access -/
def sd2 (rs : List Op) : Prop := ∀ x, x ∈ rs → x.1 = 3 → x.2.2 < 2 ∧ x.2.1 < 4
theorem seg_succ {rs : List Op} {a i : Nat} (ha : a ≤ i) (hi : i < rs.length) : seg rs a (i + 1) = seg rs a i ++ [rs.getD i (0, 0, 0)] := by
  unfold seg
  rw [show i + 1 - a = (i - a) + 1 by omega, List.take_add_one, List.getElem?_drop, show a + (i - a) = i by omega, List.getElem?_eq_getElem hi, List.getD_eq_getElem?_getD, List.getElem?_eq_getElem hi]
  rfl
theorem seg_nil {rs : List Op} {a : Nat} : seg rs a a = [] := by
  unfold seg
  rw [Nat.sub_self, List.take_zero]
theorem hasS_app (l : List Op) (x : Op) (s : Nat) : hasS (l ++ [x]) s = (hasS l s || decide (x.1 = 3 ∧ x.2.2 = s)) := by
  unfold hasS
  rw [List.any_append]
  simp
theorem msk_le (l : List Op) : msk l ≤ 3 := by
  unfold msk
  split <;> split <;> omega
theorem msk_no {l : List Op} {x : Op} (h : x.1 ≠ 3) : msk (l ++ [x]) = msk l := by
  unfold msk
  rw [hasS_app, hasS_app, decide_eq_false (fun z => h z.1), decide_eq_false (fun z => h z.1), Bool.or_false, Bool.or_false]
theorem msk_yes {l : List Op} {x : Op} (h : x.1 = 3) (hs : x.2.2 < 2) : nI (msk l) ||| ((nI 1) <<< (nI x.2.2 &&& 31)) = nI (msk (l ++ [x])) := by
  unfold msk
  rw [hasS_app, hasS_app]
  rcases (by omega : x.2.2 = 0 ∨ x.2.2 = 1) with z | z
  · rw [z, decide_eq_true (⟨h, rfl⟩ : x.1 = 3 ∧ 0 = 0), decide_eq_false (fun y : x.1 = 3 ∧ 0 = 1 => by omega), Bool.or_true, Bool.or_false]
    cases hasS l 0 <;> cases hasS l 1 <;> decide
  · rw [z, decide_eq_true (⟨h, rfl⟩ : x.1 = 3 ∧ 1 = 1), decide_eq_false (fun y : x.1 = 3 ∧ 1 = 0 => by omega), Bool.or_true, Bool.or_false]
    cases hasS l 0 <;> cases hasS l 1 <;> decide
theorem msk_bef {l : List Op} {bef : Nat} (hb : bef = 0 ∨ bef = 1 ∨ bef = 2) : (nI (msk l) &&& (nI bef ^^^ (-1)) = nI 0) = (mOK l bef = true) := by
  unfold msk mOK
  apply propext
  rcases hb with rfl | rfl | rfl <;> cases hasS l 0 <;> cases hasS l 1 <;> decide
def fxI (fx : Option Nat) : Int32 := match fx with | some c => nI c | none => -1
def Ac (m : Mm) (a : Nat) (st : Acs) : Prop := m.F a 4 = nI st.1 ∧ (st.1 ≠ 1 → m.F a 5 = nI st.2.1 ∧ m.F a 6 = nI st.2.2.1 ∧ m.F a 7 = nI st.2.2.2)
def FA (a : Nat) (m m' : Mm) : Prop := Fr [a] m m' ∧ m'.F a 2 = m.F a 2 ∧ m'.F a 3 = m.F a 3
theorem FA.refl (a : Nat) (m : Mm) : FA a m m := ⟨Fr.refl _ m, rfl, rfl⟩
theorem FA.trans {a : Nat} {m m1 m2 : Mm} (h : FA a m m1) (k : FA a m1 m2) : FA a m m2 := ⟨h.1.trans k.1, k.2.1.trans h.2.1, k.2.2.trans h.2.2⟩
section P77
variable {d : Nat} {m m0 m1 : Mm} {K : Option Value → Mm → Prop} {rs : List Op} {D : Db} {a t s bef : Nat} {ps : List Pt}
theorem c_48e {i : Nat} (hL : Len m) (hC : CE m rs) (hi : i < rs.length) (k : K (some (.int (bI ((rs.getD i (0, 0, 0)).1 = 3)))) m) : WP d 48 [.ref 17, .int (nI i)] m K := by
  have l1 : (m.A 18).length = 80 := hL.a (by decide) rfl
  obtain ⟨c1, c2, c3⟩ := hC
  obtain ⟨e1, e2, _⟩ := c3 i hi
  refine sp_48 _ ?_
  rw [if_neg (by rw [nIlt (by omega) (by omega)]; omega), if_neg (by rw [c1, nIle (by omega) (by omega)]; omega), l1, ix_nI (by omega), e1]
  refine ⟨ok_nI (by omega) (by decide), ?_⟩
  by_cases h : (rs.getD i (0, 0, 0)).1 = 3
  · rw [if_pos (by rw [h])]; rw [bI_t h] at k; exact k
  · rw [if_neg (by rw [nIeq (by omega) (by omega)]; exact h)]; rw [bI_f h] at k; exact k
theorem lp_49 {x y : Nat} (hL : Len m) (hC : CE m rs) (h2 : sd2 rs) (hy : y ≤ rs.length) (k : K (some (.int (nI (msk (seg rs x y))))) m) : ∀ (n i : Nat), i + n = y → x ≤ i → WH (d + 1) 49 5 [(0, .ref 17), (2, .int (nI y)), (3, .int (nI (msk (seg rs x i)))), (4, .int (nI i))] [] m K := by
  have hn := hC.2.1
  have l1 : (m.A 21).length = 80 := hL.a (by decide) rfl
  intro n
  induction n with
  | zero =>
    intro i hi hx
    refine sg_49_5 _ _ _ ?_
    rw [if_pos (by rw [nIle (by omega) (by omega)]; omega), show i = y by omega]
    exact k
  | succ n ih =>
    intro i hi hx
    have es := seg_succ hx (show i < rs.length by omega)
    refine sg_49_5 _ _ _ ?_
    rw [if_neg (by rw [nIle (by omega) (by omega)]; omega)]
    refine c_48e hL hC (by omega) ⟨_, rfl, ?_⟩
    rw [nI_add]
    have := ih (i + 1) (by omega) (by omega)
    rw [es] at this
    by_cases h3 : (rs.getD i (0, 0, 0)).1 = 3
    · have hs := (h2 _ (getD_in (show i < rs.length by omega)) h3).1
      rw [bI_t h3, if_neg (by decide), l1, ix_nI (by omega), (hC.2.2 i (by omega)).2.2.2 h3, msk_yes h3 hs]
      exact ⟨ok_nI (by omega) (by decide), this⟩
    · rw [bI_f h3, if_pos rfl]
      rw [msk_no h3] at this
      exact this
theorem c_49 {x y : Nat} (hL : Len m) (hC : CE m rs) (h2 : sd2 rs) (hxy : x ≤ y) (hy : y ≤ rs.length) (k : K (some (.int (nI (msk (seg rs x y))))) m) : WP (d + 1) 49 [.ref 17, .int (nI x), .int (nI y)] m K := by
  refine sp_49 _ _ ?_
  have := lp_49 (d := d) (x := x) hL hC h2 hy k (y - x) x (by omega) (by omega)
  rw [seg_nil] at this
  exact this
theorem c_50 {x y : Nat} (hL : Len m) (hC : CE m rs) (h2 : sd2 rs) (hxy : x ≤ y) (hy : y ≤ rs.length) (hs : s < 2) (k : K (some (.int (fxI (lone rs x y s)))) m) : WP (d + 1) 50 [.ref 17, .int (nI x), .int (nI y), .int (nI s)] m K := by
  have hn := hC.2.1
  have l1 : (m.A 21).length = 80 := hL.a (by decide) rfl
  have l2 : (m.A 19).length = 80 := hL.a (by decide) rfl
  refine sp_50 _ _ _ ?_
  unfold lone at k
  rw [nIsub hxy]
  by_cases h1 : y - x = 1
  · rw [if_pos (by rw [h1])]
    refine c_48e hL hC (by omega) ⟨_, rfl, ?_⟩
    by_cases h3 : (rs.getD x (0, 0, 0)).1 = 3
    · have h22 := (h2 _ (getD_in (show x < rs.length by omega)) h3).1
      obtain ⟨e1, e2, e3, e4⟩ := hC.2.2 x (by omega)
      have ho : ok 80 (nI x) := ok_nI (by omega) (by decide)
      rw [bI_t h3, if_neg (by decide), l1, l2, ix_nI (by omega), e4 h3, e3]
      refine ⟨ho, ?_⟩
      by_cases hss : (rs.getD x (0, 0, 0)).2.2 = s
      · rw [if_pos (by rw [hss])]
        rw [if_pos ⟨by omega, h3, hss⟩] at k
        exact ⟨ho, k⟩
      · rw [if_neg (by rw [nIeq (by omega) (by omega)]; exact hss)]
        rw [if_neg (fun z => hss z.2.2)] at k
        exact k
    · rw [bI_f h3, if_pos rfl]
      rw [if_neg (fun z => h3 z.2.1)] at k
      exact k
  · rw [if_neg (by rw [nIeq (by omega) (by omega)]; exact h1)]
    rw [if_neg (fun z => h1 (by omega))] at k
    exact k
theorem accF (ha : acc a) {c : Nat} (hc : c < 36) : c ∉ [a] := by
  intro z
  have : c = a := List.mem_singleton.mp z
  rcases ha with h | h | h | h <;> omega
theorem c_115 {st : Acs} {fx : Option Nat} {f g : Nat} (ha : acc a) (ht : t < 3) (hL : Len m) (hC : CE m rs) (h2 : sd2 rs) (hD : DC m D) (hI : DI D) (hb : bef = 0 ∨ bef = 1 ∨ bef = 2) (h3 : m.F a 3 = nI bef) (hA : Ac m a st) (hst : st.1 < 100) (hfg : f ≤ g) (hg : g ≤ rs.length) (hfx : ∀ c, fx = some c → c < 4) (k : ∀ m', Ac m' a (cons_ (fun c => ixd D t c) rs bef st fx f g) → FA a m m' → K none m') : WP (d + 3) 115 [.ref a, .ref (3 + 3 * t), .int (fxI fx), .int (nI f), .int (nI g)] m K := by
  refine sp_115 _ _ _ _ _ ha (tbl_t ht) ?_
  cases fx with
  | none =>
    rw [if_pos (show fxI none = -1 from rfl)]
    exact k m hA (FA.refl _ _)
  | some c =>
    have hc := hfx c rfl
    have efx : fxI (some c) = nI c := rfl
    rw [efx, if_neg (by rw [m1_eq (by omega)]; exact id)]
    refine c_49 hL hC h2 hfg hg ⟨_, rfl, ?_⟩
    rw [h3]
    have k : ∀ m', Ac m' a (if mOK (seg rs f g) bef = true then (if c = 0 then (3, 0, f, g) else if st.1 = 1 ∧ ixd D t c = true then (2, c, f, g) else st) else st) → FA a m m' → K none m' := k
    have tk : ∀ kd : Nat, (∀ m', Ac m' a (kd, c, f, g) → FA a m m' → K none m') → WP (d + 2) 116 [.ref a, .int (nI kd), .int (nI c), .int (nI f), .int (nI g)] m (fun v m11 => v = none ∧ K none m11) := by
      intro kd hk
      refine sp_116 _ _ _ _ _ ha ?_
      have hma : a ∈ [a] := List.mem_singleton.mpr rfl
      have g1 : ∀ j, ((((m.uF a 4 (nI kd)).uF a 5 (nI c)).uF a 6 (nI f)).uF a 7 (nI g)).F a j = if j = 7 then nI g else if j = 6 then nI f else if j = 5 then nI c else if j = 4 then nI kd else m.F a j := by
        intro j
        simp only [mF_F, true_and]
      refine ⟨rfl, hk _ ⟨?_, fun _ => ⟨?_, ?_, ?_⟩⟩ ⟨Fr.uF (Fr.uF (Fr.uF (Fr.uF (Fr.refl _ m) hma _ _) hma _ _) hma _ _) hma _ _, ?_, ?_⟩⟩
      · rw [g1]; rfl
      · rw [g1]; rfl
      · rw [g1]; rfl
      · rw [g1]; rfl
      · rw [g1]; rfl
      · rw [g1]; rfl
    by_cases hm : mOK (seg rs f g) bef = true
    · rw [if_pos hm] at k
      rw [if_pos (by rw [msk_bef hb]; exact hm)]
      by_cases hc0 : c = 0
      · rw [if_pos hc0] at k
        rw [if_pos (by rw [hc0])]
        refine tk 3 (fun m' hA' f' => k m' ?_ f')
        rw [hc0] at hA'; exact hA'
      · rw [if_neg hc0] at k
        rw [if_neg (by rw [nIeq (by omega) (by omega)]; exact hc0), hA.1]
        by_cases hs1 : st.1 = 1
        · rw [if_pos (by rw [hs1])]
          refine c_28 ht hc hL hD hI ⟨_, rfl, ?_⟩
          cases hx : ixd D t c with
          | true =>
            rw [bI_t rfl, if_neg (by decide)]
            rw [if_pos ⟨hs1, hx⟩] at k
            exact tk 2 k
          | false =>
            rw [bI_f (by decide), if_pos rfl]
            rw [if_neg (fun z => by rw [hx] at z; cases z.2)] at k
            exact k m hA (FA.refl _ _)
        · rw [if_neg (by rw [nIeq (by omega) (by omega)]; exact hs1)]
          rw [if_neg (fun z => hs1 z.1)] at k
          exact k m hA (FA.refl _ _)
    · rw [if_neg hm] at k
      rw [if_neg (by rw [msk_bef hb]; exact hm)]
      exact k m hA (FA.refl _ _)
theorem cons_lt {ix : Nat → Bool} {st : Acs} {fx : Option Nat} {f g : Nat} (h : st.1 < 100) : (cons_ ix rs bef st fx f g).1 < 100 := by
  unfold cons_
  split
  · exact h
  · split
    · split
      · exact (by decide : 3 < 100)
      · split
        · exact (by decide : 2 < 100)
        · exact h
    · exact h
theorem lone_lt {x y c : Nat} (h2 : sd2 rs) (h : lone rs x y s = some c) (hx : x < rs.length) : c < 4 := by
  unfold lone at h
  split at h
  · next hh =>
    cases h
    exact (h2 _ (getD_in hx) hh.2.1).2
  · cases h
/-- the parts lie among the steps -/
def okPs (rs : List Op) (ps : List Pt) : Prop := ∀ p, p ∈ ps → p.1 < p.2.2 ∧ p.2.2 ≤ rs.length ∧ (p.2.1 ≠ 0 → p.1 ≤ p.2.1 - 1 ∧ p.2.1 - 1 ≤ p.2.2 - 1 ∧ p.1 < rs.length ∧ p.2.1 - 1 < rs.length)
theorem lp_114 (ha : acc a) (ht : t < 3) (h2 : sd2 rs) (hI : DI D) (hb : bef = 0 ∨ bef = 1 ∨ bef = 2) (hs : s < 2) (hP : okPs rs ps) (hps : ps.length ≤ 80) : ∀ (n i : Nat) (m : Mm) (st : Acs), i + n = ps.length → Len m → CE m rs → DC m D → PA m ps → m.F a 2 = nI s → m.F a 3 = nI bef → Ac m a st → st.1 < 100 → (∀ m', Ac m' a (chs (fun c => ixd D t c) rs s bef (ps.drop i) st) → FA a m m' → K none m') → WH (d + 4) 114 7 [(0, .ref a), (1, .ref (3 + 3 * t)), (2, .int (nI i))] [] m K := by
  intro n
  induction n with
  | zero =>
    intro i m st hi hL hC hD hPA h2a h3a hA hst k
    refine sg_114_7 _ _ _ ha (tbl_t ht) ?_
    rw [if_pos (by rw [hPA.1, nIle (by omega) (by omega)]; omega)]
    refine k m ?_ (FA.refl _ _)
    rw [List.drop_eq_nil_of_le (by omega)]
    exact hA
  | succ n ih =>
    intro i m st hi hL hC hD hPA h2a h3a hA hst k
    have hcn := hC.2.1
    have l14 : (m.A 14).length = 80 := hL.a (by decide) rfl
    have l15 : (m.A 15).length = 80 := hL.a (by decide) rfl
    have l16 : (m.A 16).length = 80 := hL.a (by decide) rfl
    have hpm : ps.getD i (0, 0, 0) ∈ ps := getD_in (by omega)
    obtain ⟨q1, q2, q3⟩ := hPA.2 i (by omega)
    have hpp := hP _ hpm
    have edr : ps.drop i = ps.getD i (0, 0, 0) :: ps.drop (i + 1) := by
      rw [List.drop_eq_getElem_cons (show i < ps.length by omega), List.getD_eq_getElem?_getD, List.getElem?_eq_getElem (show i < ps.length by omega)]; rfl
    rw [edr] at k
    generalize ps.getD i (0, 0, 0) = p at *
    have k : ∀ m', Ac m' a (chs (fun c => ixd D t c) rs s bef (ps.drop (i + 1)) (chs1 (fun c => ixd D t c) rs s bef st p)) → FA a m m' → K none m' := k
    have ho : ok 80 (nI i) := ok_nI (by omega) (by decide)
    refine sg_114_7 _ _ _ ha (tbl_t ht) ?_
    rw [if_neg (by rw [hPA.1, nIle (by omega) (by omega)]; omega), hA.1]
    by_cases h3 : st.1 = 3
    · rw [if_pos (by rw [h3])]
      have e1 : chs1 (fun c => ixd D t c) rs s bef st p = st := by unfold chs1; rw [if_pos h3]
      refine k m ?_ (FA.refl _ _)
      rw [e1, chs_3 _ _ h3]
      exact hA
    · rw [if_neg (by rw [nIeq (by omega) (by omega)]; exact h3), l14, l15, l16, ix_nI (by omega), q1, q2, q3]
      refine ⟨ho, ?_⟩
      by_cases h0 : p.2.1 = 0
      · rw [if_pos (by rw [h0]; rfl), nI_add]
        have e1 : chs1 (fun c => ixd D t c) rs s bef st p = st := by unfold chs1; rw [if_neg h3, if_pos h0]
        rw [e1] at k
        exact ih (i + 1) m st (by omega) hL hC hD hPA h2a h3a hA hst k
      · obtain ⟨j, hj⟩ : ∃ j, p.2.1 = j + 1 := ⟨p.2.1 - 1, by omega⟩
        have hmid := hpp.2.2 h0
        have e1 : chs1 (fun c => ixd D t c) rs s bef st p = cons_ (fun c => ixd D t c) rs bef (cons_ (fun c => ixd D t c) rs bef st (lone rs p.1 j s) j (p.2.2 - 1)) (lone rs j (p.2.2 - 1) s) p.1 j := by
          unfold chs1
          rw [if_neg h3, if_neg h0, hj, Nat.add_sub_cancel]
        rw [e1] at k
        rw [hj, Nat.add_sub_cancel] at hmid
        have ej : ow p.2.1 = nI j := by rw [hj]; rfl
        rw [ej, if_neg (by rw [m1_eq (by omega)]; exact id), h2a, nIsub (by omega)]
        refine ⟨ho, ho, c_50 hL hC h2 hmid.1 (by omega) hs ⟨_, rfl, ?_⟩⟩
        refine c_115 (bef := bef) ha ht hL hC h2 hD hI hb h3a hA hst hmid.2.1 (by omega) (fun c hc => lone_lt h2 hc hmid.2.2.1) (fun m1 hA1 f1 => ⟨rfl, ?_⟩)
        have hL1 := hL.fr f1.1
        have hC1 := hC.fr f1.1 (accF ha (by decide)) (accF ha (by decide)) (accF ha (by decide)) (accF ha (by decide))
        have hD1 : DC m1 D := hD.fr f1.1 (by rcases ha with z | z | z | z <;> rw [z] <;> decide)
        rw [f1.2.1, h2a]
        refine c_50 hL1 hC1 h2 hmid.2.1 (by omega) hs ⟨_, rfl, ?_⟩
        refine c_115 (bef := bef) ha ht hL1 hC1 h2 hD1 hI hb (by rw [f1.2.2]; exact h3a) hA1 (cons_lt hst) hmid.1 (by omega) (fun c hc => lone_lt h2 hc hmid.2.2.2) (fun m2 hA2 f2 => ⟨rfl, ?_⟩)
        rw [nI_add]
        have f3 := f1.trans f2
        refine ih (i + 1) m2 _ (by omega) (hL.fr f3.1) (hC.fr f3.1 (accF ha (by decide)) (accF ha (by decide)) (accF ha (by decide)) (accF ha (by decide))) (hD.fr f3.1 (by rcases ha with z | z | z | z <;> rw [z] <;> decide)) (hPA.fr f3.1 (accF ha (by decide)) (accF ha (by decide)) (accF ha (by decide)) (accF ha (by decide))) (by rw [f3.2.1]; exact h2a) (by rw [f3.2.2]; exact h3a) hA2 (cons_lt (cons_lt hst)) (fun m' a1 f4 => k m' a1 (f3.trans f4))
theorem c_114 (ha : acc a) (ht : t < 3) (h2 : sd2 rs) (hI : DI D) (hbo : befOK s bef) (hP : okPs rs ps) (hps : ps.length ≤ 80) (hL : Len m) (hC : CE m rs) (hD : DC m D) (hPA : PA m ps) (h2a : m.F a 2 = nI s) (h3a : m.F a 3 = nI bef) (k : ∀ m', Ac m' a (acsS (fun c => ixd D t c) rs s bef ps) → FA a m m' → K none m') : WP (d + 4) 114 [.ref a, .ref (3 + 3 * t)] m K := by
  have hma : a ∈ [a] := List.mem_singleton.mpr rfl
  have f1 : FA a m (m.uF a 4 (nI 1)) := ⟨Fr.uF (Fr.refl _ m) hma _ _, by rw [mF_F, if_neg (by simp)], by rw [mF_F, if_neg (by simp)]⟩
  refine sp_114 _ _ ha (tbl_t ht) ?_
  have hb3 : bef = 0 ∨ bef = 1 ∨ bef = 2 := by unfold befOK at hbo; omega
  have hs2 : s < 2 := by unfold befOK at hbo; omega
  refine lp_114 (s := s) (bef := bef) ha ht h2 hI hb3 hs2 hP hps ps.length 0 _ (1, 0, 0, 0) (by omega) (hL.fr f1.1) (hC.fr f1.1 (accF ha (by decide)) (accF ha (by decide)) (accF ha (by decide)) (accF ha (by decide))) (hD.fr f1.1 (by rcases ha with z | z | z | z <;> rw [z] <;> decide)) (hPA.fr f1.1 (accF ha (by decide)) (accF ha (by decide)) (accF ha (by decide)) (accF ha (by decide))) (by rw [f1.2.1]; exact h2a) (by rw [f1.2.2]; exact h3a) ⟨by rw [mF_F, if_pos ⟨rfl, rfl⟩], fun z => absurd rfl z⟩ (by decide) (fun m' hA f2 => k m' ?_ (f1.trans f2))
  have hx0 : (fun c => ixd D t c) 0 = false := by
    cases hz : ixd D t 0 with
    | false => exact hz
    | true =>
      have := (hI t ht).2.2.2.2.1 0 hz
      omega
  rw [List.drop_zero, chs_eq hx0 hbo ps (1, 0, 0, 0) (fun p hp h0 => ⟨((hP p hp).2.2 h0).2.2.1, ((hP p hp).2.2 h0).2.2.2⟩) rfl] at hA
  exact hA
end P77
