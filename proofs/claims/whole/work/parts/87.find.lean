/-! findAll of two tables, the class -/
section F87
variable {d : Nat} {m m0 m1 : Mm} {K : Option Value → Mm → Prop} {D : Db} {e : St} {ps : List Pt} {i j o a : Nat}
theorem PR.fr {S : List Nat} (h : PR m i j) (k : Fr S m m1) (hs : 24 ∉ S) : PR m1 i j := ⟨by rw [k.a hs]; exact h.1, by rw [k.a hs]; exact h.2⟩
theorem acc_no {ai : Nat} (h : acc ai) {S : List Nat} (hs : dj S [36, 37, 38, 39] = true) : ai ∉ S := dj_no hs (by rcases h with z | z | z | z <;> rw [z] <;> decide)
def S24 : List Nat := [22, 24, 30, 33, 34, 35]
theorem iO_inj {o a b a' b' : Nat} (h1 : iO o a b = iO o a' b') (h2 : jO o a b = jO o a' b') : a = a' ∧ b = b' := by
  unfold iO at h1
  unfold jO at h2
  by_cases h : o = 0
  · rw [if_pos h, if_pos h] at h1 h2; exact ⟨h1, h2⟩
  · rw [if_neg h, if_neg h] at h1 h2; exact ⟨h2, h1⟩
theorem lp_123c (hWF : WF e) (hI : DI D) (h6 : e.2.1 6 ≠ 0) (ha : e.1.2.1.all (okSb D e) = true) (ho : o < 2) {ai N x : Nat} (hai : acc ai) (hla : a < (rw_ D (tq e o)).length) {L0 : List Hit} (hL0 : L0.length ≤ 900) (hnew : ∀ h, h ∈ L0 → ∃ a' b', a' ≠ a ∧ h.2.1 = iO o a' b' ∧ h.2.2 = jO o a' b') : ∀ (n y : Nat) (m : Mm) (b0 : Nat), y + n = (inL D e o a).length → CQ m (rs_ D e) (tq e) D ps → SR m e.2 → PR m (iO o a b0) (jO o a b0) → m.R 30 13 = ai → m.F ai 2 = nI (1 - o) → (∀ j, j < (inL D e o a).length → (m.A 32).getD j 0 = nI ((inL D e o a).getD j 0)) → HF m (L0 ++ hits2 D e o a ((inL D e o a).take y)) → (∀ m' b1, HF m' (L0 ++ hits2 D e o a (inL D e o a)) → PR m' (iO o a b1) (jO o a b1) → F30 m m' → Fr S24 m m' → WH (d + 5) 123 25 [(0, .ref 30), (1, .int (nI N)), (2, .int (nI x + nI 1))] [] m' K) → WH (d + 5) 123 87 [(0, .ref 30), (1, .int (nI N)), (2, .int (nI x)), (3, .int (nI (inL D e o a).length)), (4, .int (nI y))] [] m K := by
  intro n
  induction n with
  | zero =>
    intro y m b0 hy hQ hS hPR hR hF hA hH k
    have hf : tq e (1 - o) < 3 := by
      rcases (by omega : o = 0 ∨ o = 1) with z | z <;> rw [z]
      · exact hQ.2.2.2.2.2.2.2.2.1
      · exact hQ.2.2.2.2.2.2.2.1
    have h20 := (hI _ hf).2.1
    have hfl : (inL D e o a).length ≤ (rw_ D (tq e (1 - o))).length := ftL_len _ _
    refine sg_123_87 _ _ _ _ ?_
    rw [if_pos (by rw [nIle (by omega) (by omega)]; omega)]
    rw [List.take_of_length_le (by omega)] at hH
    exact k m b0 hH hPR ⟨fun _ _ => rfl, rfl, rfl⟩ (Fr.refl _ m)
  | succ n ih =>
    intro y m b0 hy hQ hS hPR hR hF hA hH k
    have hf0 := hQ.2.2.2.2.2.2.2.1
    have hf1 := hQ.2.2.2.2.2.2.2.2.1
    have hf : tq e (1 - o) < 3 := by
      rcases (by omega : o = 0 ∨ o = 1) with z | z <;> rw [z]
      · exact hf1
      · exact hf0
    have hf' : tq e o < 3 := by
      rcases (by omega : o = 0 ∨ o = 1) with z | z <;> rw [z]
      · exact hf0
      · exact hf1
    have h20 := (hI _ hf).2.1
    have h20' := (hI _ hf').2.1
    have hfl : (inL D e o a).length ≤ (rw_ D (tq e (1 - o))).length := ftL_len _ _
    have l1 : (m.A 32).length = 20 := hQ.1.a (by decide) rfl
    have hmem : (inL D e o a).getD y 0 ∈ inL D e o a := getD_in (by omega)
    have hlt : (inL D e o a).getD y 0 < (rw_ D (tq e (1 - o))).length := (ftL_mem.mp hmem).1
    have hnd : (inL D e o a).getD y 0 ∉ (inL D e o a).take y := nodup_take (ftL_nodup _ _ : (inL D e o a).Nodup) (show y < (inL D e o a).length by omega)
    have etk := take_succ_nat (show y < (inL D e o a).length by omega)
    refine sg_123_87 _ _ _ _ ?_
    rw [if_neg (by rw [nIle (by omega) (by omega)]; omega), hR, hF, l1, ix_nI (by omega), hA y (by omega)]
    refine ⟨hai, ok_nI (by omega) (by decide), ?_⟩
    refine c_43 hQ.1 hPR (by omega) (fun m1 hPR1 f1 => ⟨rfl, ?_⟩)
    generalize (inL D e o a).getD y 0 = b at *
    have hPR1 : PR m1 (iO o a b) (jO o a b) := by
      rcases (by omega : o = 0 ∨ o = 1) with z | z <;> subst z
      · exact hPR1
      · exact hPR1
    have hQ1 := hQ.fr f1 (by decide)
    have hS1 : SR m1 e.2 := hS.fr f1 (by decide) (F12.fr f1 (by decide))
    have hH1 : HF m1 (L0 ++ hits2 D e o a ((inL D e o a).take y)) := hH.fr f1 (f1.f (by decide) 15) (by decide) (by decide) (by decide)
    have hll : (L0 ++ hits2 D e o a ((inL D e o a).take y)).length ≤ 920 := by
      have h1 := hits2_len D e o a ((inL D e o a).take y)
      have h2 : ((inL D e o a).take y).length ≤ y := by rw [List.length_take]; omega
      rw [List.length_append]
      omega
    have hin : inR D e (iO o a b) (jO o a b) := by
      rcases (by omega : o = 0 ∨ o = 1) with z | z <;> subst z
      · exact ⟨hla, fun _ => hlt⟩
      · exact ⟨hlt, fun _ => hla⟩
    have hsm : iO o a b < 1000 ∧ jO o a b < 1000 := by
      unfold iO jO
      by_cases z : o = 0
      · rw [if_pos z, if_pos z]; omega
      · rw [if_neg z, if_neg z]; omega
    refine c_126 hWF hI hQ1 hS1 hPR1 ha hin hsm hH1 (by omega) (fun h hy hz => ?_) (fun m2 hH2 f2 g2 => ⟨rfl, ?_⟩)
    · rcases List.mem_append.mp hy with hy | hy
      · obtain ⟨a', b', hne, h1, h2⟩ := hnew h hy
        rw [h1, h2] at hz
        exact hne (iO_inj hz.1 hz.2).1
      · obtain ⟨b', hb', h1, h2⟩ := hits2_mem hy
        rw [h1, h2] at hz
        have := (iO_inj hz.1 hz.2).2
        rw [this] at hb'
        exact hnd hb'
    · have e2 : (if whB D e (iO o a b) (jO o a b) = true then (L0 ++ hits2 D e o a ((inL D e o a).take y)) ++ [hitD D e (iO o a b) (jO o a b)] else L0 ++ hits2 D e o a ((inL D e o a).take y)) = L0 ++ hits2 D e o a ((inL D e o a).take (y + 1)) := by
        rw [etk, hits2_snoc]
        split
        · rw [List.append_assoc]
        · rfl
      rw [e2] at hH2
      have f12 : Fr S24 m m2 := (f1.mono (by decide)).trans (f2.mono (by decide))
      have g12 : F30 m m2 := (F30.fr f1 (by decide)).trans g2
      rw [nI_add]
      refine ih (y + 1) m2 b (by omega) (hQ.fr f12 (by decide)) (hS.fr f12 (by decide) (F12.fr f12 (by decide))) (hPR1.fr f2 (by decide)) (by rw [g12.2.2]; exact hR) (by rw [f12.f (acc_no hai (by decide))]; exact hF) (fun j hj => ?_) hH2 (fun m' b1 a1 a2 a3 a4 => k m' b1 a1 a2 (g12.trans a3) (f12.trans a4))
      rw [f2.a (by decide), f1.a (by decide)]; exact hA j hj
theorem hasS_mem {l : List Op} {s : Nat} {x : Op} (hx : x ∈ l) (h3 : x.1 = 3) (hs : x.2.2 = s) : hasS l s = true := by
  unfold hasS
  rw [List.any_eq_true]
  exact ⟨x, hx, decide_eq_true ⟨h3, hs⟩⟩
theorem mOK_out {l : List Op} (ho : o < 2) (h : mOK l (o + 1) = true) : hasS l (1 - o) = false := by
  have hm := of_decide_eq_true h
  cases hh : hasS l (1 - o) with
  | false => rfl
  | true =>
    rcases (by omega : o = 0 ∨ o = 1) with z | z <;> subst z
    · have := hm.2 hh; omega
    · have := hm.1 hh; omega
theorem env_out (ho : o < 2) {b s c : Nat} (hs : s < 2) (hne : s ≠ 1 - o) : envD D (tq e) (iO o a b) (jO o a b) s c = envA D e o a s c := by
  unfold envA envD iO jO
  rcases (by omega : o = 0 ∨ o = 1) with rfl | rfl
  · have z : s = 0 := by omega
    simp only [z, if_true]
  · have z : s = 1 := by omega
    simp only [z, if_neg (show ¬ (1 = 0) by decide)]
/-- the inner side's access, the outer row in place -/
theorem in_st (hWF : WF e) (hI : DI D) (ha : e.1.2.1.all (okSb D e) = true) (ho : o < 2) {b : Nat} (hla : a < (rw_ D (tq e o)).length) (hQ : CQ m (rs_ D e) (tq e) D e.1.2.2) (hPR : PR m (iO o a b) (jO o a b)) : (aF D e (1 - o) (o + 1)).1 = 1 ∨ (((aF D e (1 - o) (o + 1)).1 = 2 ∨ (aF D e (1 - o) (o + 1)).1 = 3) ∧ (aF D e (1 - o) (o + 1)).2.1 < wd D (tq e (1 - o)) ∧ (aF D e (1 - o) (o + 1)).2.2.1 ≤ (aF D e (1 - o) (o + 1)).2.2.2 ∧ (aF D e (1 - o) (o + 1)).2.2.2 ≤ (rs_ D e).length ∧ tyC false (seg (rs_ D e) (aF D e (1 - o) (o + 1)).2.2.1 (aF D e (1 - o) (o + 1)).2.2.2) ∧ PV m (envA D e o a) (seg (rs_ D e) (aF D e (1 - o) (o + 1)).2.2.1 (aF D e (1 - o) (o + 1)).2.2.2)) := by
  have hcw : ∀ x, x ∈ rs_ D e → x.1 = 3 → x.2.2 = 1 - o → x.2.1 < wd D (tq e (1 - o)) := fun x hx h3 h0 => by
    have := (rs_col ha hWF.1 x hx h3).2.2.1
    rw [h0] at this; exact this
  have hPt : ∀ p, p ∈ e.1.2.2 → okPt (rs_ D e) p := fun p hp => okPt_map (hWF.2.2.2.2.1 p hp)
  have hok := acs_ok (D := D) (t := tq e (1 - o)) (rs := rs_ D e) (s := 1 - o) (bef := o + 1) (ps := e.1.2.2) hPt hcw (aF D e (1 - o) (o + 1)) rfl
  rcases hok with z | ⟨z1, z2, z3, z4, z5, z6⟩
  · exact Or.inl z
  · refine Or.inr ⟨z1, z2, z3, z4, z5, ?_⟩
    have hn := mOK_out ho z6
    have hl : ∀ x, x ∈ seg (rs_ D e) (aF D e (1 - o) (o + 1)).2.2.1 (aF D e (1 - o) (o + 1)).2.2.2 → x ∈ rs_ D e := fun x hx => seg_mem hx
    generalize seg (rs_ D e) (aF D e (1 - o) (o + 1)).2.2.1 (aF D e (1 - o) (o + 1)).2.2.2 = l at *
    have hno : ∀ s, s = 1 - o → (∃ y, y ∈ l ∧ y.1 = 3 ∧ y.2.2 = s) → False := by
      intro s hs ⟨y, hy, h3, hz⟩
      have := hasS_mem hy h3 (hz.trans hs)
      rw [hn] at this; cases this
    have hPV : PV m (envD D (tq e) (iO o a b) (jO o a b)) l := by
      refine PV_of hI hQ hPR ha hWF.1 hl (fun hex => ?_) (fun hex => ?_)
      · rcases (by omega : o = 0 ∨ o = 1) with z | z
        · subst z; exact hla
        · exact (hno 0 (by omega) hex).elim
      · rcases (by omega : o = 0 ∨ o = 1) with z | z
        · exact (hno 1 (by omega) hex).elim
        · subst z; exact hla
    intro x hx h3
    obtain ⟨p1, p2, row, dn, ac, p3, p4, p5, p6, p7, p8, p9, p10⟩ := hPV x hx h3
    refine ⟨p1, p2, row, dn, ac, p3, p4, p5, p6, p7, p8, p9, p10.trans ?_⟩
    exact env_out ho p1 (fun z => hno _ z ⟨x, hx, h3, rfl⟩)
theorem lp_123b (hWF : WF e) (hI : DI D) (h6 : e.2.1 6 ≠ 0) (ha : e.1.2.1.all (okSb D e) = true) (ho : o < 2) {ao ai : Nat} (hao : acc ao) (hai : acc ai) : ∀ (n x : Nat) (m : Mm) (i0 j0 : Nat), x + n = (fo2 D e o).length → CQ m (rs_ D e) (tq e) D e.1.2.2 → SR m e.2 → PR m i0 j0 → m.R 30 12 = ao → m.R 30 13 = ai → m.F ao 2 = nI o → m.F ai 2 = nI (1 - o) → Ac m ai (aF D e (1 - o) (o + 1)) → (∀ j, j < (fo2 D e o).length → (m.A 31).getD j 0 = nI ((fo2 D e o).getD j 0)) → HF m (LL D e o ((fo2 D e o).take x)) → m.F 30 14 = nI ((fo2 D e o).length + rd2 D e o ((fo2 D e o).take x)) → (∀ m', HF m' (LL D e o (fo2 D e o)) → m'.F 30 14 = nI ((fo2 D e o).length + rd2 D e o (fo2 D e o)) → m'.R 30 12 = ao → m'.R 30 13 = ai → Fr S23 m m' → K none m') → WH (d + 5 + 1) 123 25 [(0, .ref 30), (1, .int (nI (fo2 D e o).length)), (2, .int (nI x))] [] m K := by
  intro n
  induction n with
  | zero =>
    intro x m i0 j0 hx hQ hS hPR hR12 hR13 hFo hFi hAi hA hH h14 k
    have hf' : tq e o < 3 := by
      rcases (by omega : o = 0 ∨ o = 1) with z | z <;> rw [z]
      · exact hQ.2.2.2.2.2.2.2.1
      · exact hQ.2.2.2.2.2.2.2.2.1
    have h20 := (hI _ hf').2.1
    have hfl : (fo2 D e o).length ≤ (rw_ D (tq e o)).length := ftL_len _ _
    refine sg_123_25 _ _ ?_
    rw [if_pos (by rw [nIle (by omega) (by omega)]; omega)]
    rw [List.take_of_length_le (by omega)] at hH h14
    exact k m hH h14 hR12 hR13 (Fr.refl _ m)
  | succ n ih =>
    intro x m i0 j0 hx hQ hS hPR hR12 hR13 hFo hFi hAi hA hH h14 k
    have hf0 := hQ.2.2.2.2.2.2.2.1
    have hf1 := hQ.2.2.2.2.2.2.2.2.1
    have hf' : tq e o < 3 := by
      rcases (by omega : o = 0 ∨ o = 1) with z | z <;> rw [z]
      · exact hf0
      · exact hf1
    have hf : tq e (1 - o) < 3 := by
      rcases (by omega : o = 0 ∨ o = 1) with z | z <;> rw [z]
      · exact hf1
      · exact hf0
    have h20 := (hI _ hf).2.1
    have h20' := (hI _ hf').2.1
    have hfl : (fo2 D e o).length ≤ (rw_ D (tq e o)).length := ftL_len _ _
    have l1 : (m.A 31).length = 20 := hQ.1.a (by decide) rfl
    have hmem : (fo2 D e o).getD x 0 ∈ fo2 D e o := getD_in (by omega)
    have hlt : (fo2 D e o).getD x 0 < (rw_ D (tq e o)).length := (ftL_mem.mp hmem).1
    have hnd : (fo2 D e o).getD x 0 ∉ (fo2 D e o).take x := nodup_take (ftL_nodup _ _ : (fo2 D e o).Nodup) (show x < (fo2 D e o).length by omega)
    have etk := take_succ_nat (show x < (fo2 D e o).length by omega)
    have hi20 : ∀ z, (inL D e o z).length ≤ 20 := fun z => by
      have : (inL D e o z).length ≤ (rw_ D (tq e (1 - o))).length := ftL_len _ _
      omega
    have hLb : (LL D e o ((fo2 D e o).take x)).length ≤ 400 := by
      have h1 := LL_len hi20 ((fo2 D e o).take x)
      have h2 : ((fo2 D e o).take x).length ≤ x := by rw [List.length_take]; omega
      omega
    have hRb : rd2 D e o ((fo2 D e o).take x) ≤ 400 := by
      have h1 := rd2_le hi20 ((fo2 D e o).take x)
      have h2 : ((fo2 D e o).take x).length ≤ x := by rw [List.length_take]; omega
      omega
    obtain ⟨n6, hn6⟩ : ∃ n, e.2.1 6 = n + 1 := ⟨e.2.1 6 - 1, by omega⟩
    have hn63 : n6 < 3 := by
      have h := hf1
      unfold tq at h
      rw [if_neg (by omega)] at h
      omega
    refine sg_123_25 _ _ ?_
    rw [if_neg (by rw [nIle (by omega) (by omega)]; omega), hR12, hFo, l1, ix_nI (by omega), hA x (by omega)]
    refine ⟨hao, ok_nI (by omega) (by decide), ?_⟩
    refine c_43 hQ.1 hPR (by omega) (fun m1 hPR1 f1 => ⟨rfl, ?_⟩)
    generalize (fo2 D e o).getD x 0 = a at *
    have hPR1 : ∃ b, PR m1 (iO o a b) (jO o a b) := by
      rcases (by omega : o = 0 ∨ o = 1) with z | z <;> subst z
      · exact ⟨j0, hPR1⟩
      · exact ⟨i0, hPR1⟩
    obtain ⟨b, hPR1⟩ := hPR1
    have hQ1 := hQ.fr f1 (by decide)
    have hS1 : SR m1 e.2 := hS.fr f1 (by decide) (F12.fr f1 (by decide))
    refine sp_121 ?_
    rw [if_neg (by rw [hS1.1 6 rfl, hn6]; exact fun z => by have z : nI n6 = -1 := z; rw [m1_eq (by omega)] at z; exact z)]
    refine ⟨_, rfl, ?_⟩
    rw [if_neg (by decide)]
    refine c_125 hWF hI h6 ha ho hai hlt hQ1 hPR1 (by rw [f1.r (by decide)]; exact hR13) (by rw [f1.f (acc_no hai (by decide))]; exact hFi) (fun m2 f2 => ⟨_, rfl, ?_⟩)
    have f12 : Fr S23 m m2 := (f1.mono (by decide)).trans (f2.mono (by decide))
    have g30 : ∀ g, m2.F 30 g = m.F 30 g := fun g => by rw [f2.f (by decide), f1.f (by decide)]
    have gr : ∀ g, m2.R 30 g = m.R 30 g := fun g => by rw [f2.r (by decide), f1.r (by decide)]
    have hH2 : HF m2 (LL D e o ((fo2 D e o).take x)) := (hH.fr f1 (f1.f (by decide) 15) (by decide) (by decide) (by decide)).fr f2 (f2.f (by decide) 15) (by decide) (by decide) (by decide)
    have hA2 : ∀ j, j < (fo2 D e o).length → (m2.A 31).getD j 0 = nI ((fo2 D e o).getD j 0) := fun j hj => by rw [f2.a (by decide), f1.a (by decide)]; exact hA j hj
    have hPR2 := hPR1.fr f2 (by decide)
    have hQ2 := hQ.fr f12 (by decide)
    have hS2 : SR m2 e.2 := hS.fr f12 (by decide) (F12.fr f12 (by decide))
    by_cases hb : oHB D e o a = true
    · rw [bI_t hb, if_neg (by decide)]
      rw [gr 13, hR13]
      refine ⟨hai, ?_⟩
      refine c_124 (env := envA D e o a) (bef := o + 1) (st := aF D e (1 - o) (o + 1)) (s := 1 - o) hai (Or.inr rfl) (by omega) hQ2 hI (by rw [f12.f (acc_no hai (by decide))]; exact hFi) (hAi.fr f12 (acc_no hai (by decide))) (in_st hWF hI ha ho hlt hQ2 hPR2) (fun m3 b1 f3 b2 b3 b4 b5 => ⟨_, rfl, ?_⟩)
      have f13 : Fr S23 m m3 := f12.trans (f3.mono (by decide))
      have hH3 : HF m3 (LL D e o ((fo2 D e o).take x) ++ hits2 D e o a ((inL D e o a).take 0)) := by
        rw [List.take_zero, show hits2 D e o a [] = [] from rfl, List.append_nil]
        exact hH2.fr f3 (b2 15 (by decide)) (by decide) (by decide) (by decide)
      refine lp_123c (d := d + 1) (N := (fo2 D e o).length) (x := x) (a := a) (ps := e.1.2.2) hWF hI h6 ha ho hai hlt (by omega) (fun h hh => ?_) (inL D e o a).length 0 m3 b (by omega) (hQ.fr f13 (by decide)) (hS.fr f13 (by decide) (F12.fr f13 (by decide))) (hPR2.fr f3 (by decide)) (by rw [b4, gr]; exact hR13) (by rw [f13.f (acc_no hai (by decide))]; exact hFi) b1 hH3 (fun m4 b' hH4 hPR4 g4 f4 => ?_)
      · obtain ⟨a', b', h1, h2, h3⟩ := LL_mem hh
        exact ⟨a', b', fun z => by rw [z] at h1; exact hnd h1, h2, h3⟩
      · have f14 : Fr S23 m m4 := f13.trans (f4.mono (by decide))
        have eL : LL D e o ((fo2 D e o).take x) ++ hits2 D e o a (inL D e o a) = LL D e o ((fo2 D e o).take (x + 1)) := by rw [etk, LL_snoc, if_pos hb]
        have eR : rd2 D e o ((fo2 D e o).take (x + 1)) = rd2 D e o ((fo2 D e o).take x) + (inL D e o a).length := by rw [etk, rd2_snoc, if_pos hb]
        rw [eL] at hH4
        rw [nI_add]
        refine ih (x + 1) m4 _ _ (by omega) (hQ.fr f14 (by decide)) (hS.fr f14 (by decide) (F12.fr f14 (by decide))) hPR4 (by rw [g4.2.1, b3, gr]; exact hR12) (by rw [g4.2.2, b4, gr]; exact hR13) (by rw [f14.f (acc_no hao (by decide))]; exact hFo) (by rw [f14.f (acc_no hai (by decide))]; exact hFi) (hAi.fr f14 (acc_no hai (by decide))) (fun j hj => by rw [f4.a (by decide), f3.a (by decide)]; exact hA2 j hj) hH4 ?_ (fun m' a1 a2 a3 a4 a5 => k m' a1 a2 a3 a4 (f14.trans a5))
        rw [g4.1 14 (by decide), b5, g30, h14, eR]
        show nI _ + nI (inL D e o a).length = _
        rw [nI_add, Nat.add_assoc]
    · rw [bI_f hb, if_pos rfl, nI_add]
      have eL : LL D e o ((fo2 D e o).take (x + 1)) = LL D e o ((fo2 D e o).take x) := by rw [etk, LL_snoc, if_neg hb, List.append_nil]
      have eR : rd2 D e o ((fo2 D e o).take (x + 1)) = rd2 D e o ((fo2 D e o).take x) := by rw [etk, rd2_snoc, if_neg hb, Nat.add_zero]
      exact ih (x + 1) m2 _ _ (by omega) hQ2 hS2 hPR2 (by rw [gr]; exact hR12) (by rw [gr]; exact hR13) (by rw [f12.f (acc_no hao (by decide))]; exact hFo) (by rw [f12.f (acc_no hai (by decide))]; exact hFi) (hAi.fr f12 (acc_no hai (by decide))) hA2 (by rw [eL]; exact hH2) (by rw [eR, g30]; exact h14) (fun m' a1 a2 a3 a4 a5 => k m' a1 a2 a3 a4 (f12.trans a5))
/-- findAll of two tables -/
theorem c_123b (hWF : WF e) (hI : DI D) (h6 : e.2.1 6 ≠ 0) (ha : e.1.2.1.all (okSb D e) = true) (ho : o < 2) {ao ai : Nat} (hao : acc ao) (hai : acc ai) (hQ : CQ m (rs_ D e) (tq e) D e.1.2.2) (hS : SR m e.2) (hPR : PR m 0 0) (hR12 : m.R 30 12 = ao) (hR13 : m.R 30 13 = ai) (hFo : m.F ao 2 = nI o) (hFi : m.F ai 2 = nI (1 - o)) (hAo : Ac m ao (aF D e o 0)) (hAi : Ac m ai (aF D e (1 - o) (o + 1))) (k : ∀ m', HF m' (LL D e o (fo2 D e o)) → m'.F 30 14 = nI ((fo2 D e o).length + rd2 D e o (fo2 D e o)) → m'.R 30 12 = ao → m'.R 30 13 = ai → Fr S23 m m' → K none m') : WP (d + 5 + 1) 123 [.ref 30] m K := by
  have hcw : ∀ x, x ∈ rs_ D e → x.1 = 3 → x.2.2 = o → x.2.1 < wd D (tq e o) := fun x hx h3 h0 => by
    have := (rs_col ha hWF.1 x hx h3).2.2.1
    rw [h0] at this; exact this
  have hPt : ∀ p, p ∈ e.1.2.2 → okPt (rs_ D e) p := fun p hp => okPt_map (hWF.2.2.2.2.1 p hp)
  have hok := acs_ok (D := D) (t := tq e o) (rs := rs_ D e) (s := o) (bef := 0) (ps := e.1.2.2) hPt hcw (aF D e o 0) rfl
  have f1 : Fr [30] m ((m.uF 30 14 (nI 0)).uF 30 15 (nI 0)) := Fr.uF (Fr.uF (Fr.refl _ m) (by decide) _ _) (by decide) _ _
  have hQ1 := hQ.fr f1 (by decide)
  refine sp_123 ?_
  rw [hR12]
  refine ⟨hao, ?_⟩
  refine c_124 (env := env0) (bef := 0) (st := aF D e o 0) (s := o) hao (Or.inl rfl) ho hQ1 hI (by rw [f1.f (acc_no hao (by decide))]; exact hFo) (hAo.fr f1 (acc_no hao (by decide))) ?_ (fun m2 b1 f2 b2 b3 b4 b5 => ⟨_, rfl, ?_⟩)
  · rcases hok with z | ⟨z1, z2, z3, z4, z5, z6⟩
    · exact Or.inl z
    · refine Or.inr ⟨z1, z2, z3, z4, z5, fun x hx h3 => ?_⟩
      exact absurd h3 (mOK0 (fun y hy h3 => sd2_rs ha hWF.1 y (seg_mem hy) h3) z6 x hx)
  · have f12 : Fr S23 m m2 := (f1.mono (by decide)).trans (f2.mono (by decide))
    have e15 : m2.F 30 15 = nI 0 := by rw [b2 15 (by decide)]; rfl
    have e14 : m2.F 30 14 = nI ((fo2 D e o).length + rd2 D e o ((fo2 D e o).take 0)) := by
      rw [b5]
      show nI 0 + nI (fo2 D e o).length = nI ((fo2 D e o).length + 0)
      rw [nI_add, Nat.zero_add, Nat.add_zero]
    have hH0 : HF m2 (LL D e o ((fo2 D e o).take 0)) := by
      rw [List.take_zero]
      exact ⟨e15, (fun _ q hq => absurd hq (Nat.not_lt_zero q)), List.nodup_nil, (fun x hx => by cases hx), (by decide : (0 : Nat) ≤ 1000)⟩
    exact lp_123b hWF hI h6 ha ho hao hai (fo2 D e o).length 0 m2 0 0 (by omega) (hQ.fr f12 (by decide)) (hS.fr f12 (by decide) (F12.fr f12 (by decide))) ((hPR.fr f1 (by decide)).fr f2 (by decide)) (by rw [b3]; exact hR12) (by rw [b4]; exact hR13) (by rw [f12.f (acc_no hao (by decide))]; exact hFo) (by rw [f12.f (acc_no hai (by decide))]; exact hFi) (hAi.fr f12 (acc_no hai (by decide))) b1 hH0 e14 (fun m' c1 c2 c3 c4 c5 => k m' c1 c2 c3 c4 (f12.trans c5))
end F87
