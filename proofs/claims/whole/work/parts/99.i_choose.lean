/-! choose() of the reference: collecting -/
def SCh : List Nat := [60, 61, 64, 65, 66, 67]
section K99
variable {d nm : Nat} {m m0 m1 : Mm} {K : Option Value → Mm → Prop} {D : Db} {e : St} {P : Nat → List (List Int64)} {ps : List Pt} {t r q : Nat} {L : List Pr}
def TD0 (m : Mm) (n : Nat) : Prop := ∀ k, k < n → (m.A 67).getD k 0 = nI 0
theorem RL_add (hL : Len m) (hR : RL m D e P L) (hT : TD0 m L.length) (hl : L.length < 60) {p : Pr} (h48 : m1.F 42 48 = nI (L.length + 1)) (h64 : m1.A 64 = (m.A 64).set L.length (nI p.1)) (h65 : m1.A 65 = (m.A 65).set L.length (nI p.2)) (h66 : m1.B 66 = (m.B 66).set L.length (orV D e (p1 D e P p) (p2 D e P p))) (h67 : m1.A 67 = (m.A 67).set L.length (nI 0)) : RL m1 D e P (L ++ [p]) ∧ TD0 m1 (L ++ [p]).length := by
  have l64 : (m.A 64).length = 60 := hL.a (by decide) rfl
  have l65 : (m.A 65).length = 60 := hL.a (by decide) rfl
  have l66 : (m.B 66).length = 60 := hL.b (by decide) rfl
  have l67 : (m.A 67).length = 60 := hL.a (by decide) rfl
  have el : (L ++ [p]).length = L.length + 1 := by rw [List.length_append]; rfl
  have eg : ∀ k, k < L.length → (L ++ [p]).getD k (0, 0) = L.getD k (0, 0) := fun k hk => by
    rw [List.getD_eq_getElem?_getD, List.getElem?_append_left hk, ← List.getD_eq_getElem?_getD]
  have eg' : (L ++ [p]).getD L.length (0, 0) = p := by
    rw [List.getD_eq_getElem?_getD, List.getElem?_append_right (by omega), Nat.sub_self]; rfl
  refine ⟨⟨by rw [h48, el], fun k hk => ?_⟩, fun k hk => ?_⟩
  · rw [el] at hk
    rw [h64, h65, h66, getD_set _ _ _ _ _ (by omega), getD_set _ _ _ _ _ (by omega), getD_set _ _ _ _ _ (by omega)]
    by_cases z : k = L.length
    · rw [if_pos z, if_pos z, if_pos z, z, eg']
      exact ⟨rfl, rfl, rfl⟩
    · rw [if_neg z, if_neg z, if_neg z, eg k (by omega)]
      exact hR.2 k (by omega)
  · rw [el] at hk
    rw [h67, getD_set _ _ _ _ _ (by omega)]
    by_cases z : k = L.length
    · rw [if_pos z]
    · rw [if_neg z]; exact hT k (by omega)
theorem RL.fq {G S : List Nat} (h : RL m D e P L) (k : Fq G S m m1) (h48 : 48 ∉ G) (hs : dj (42 :: S) [64, 65, 66] = true) : RL m1 D e P L := by
  unfold RL at *
  rw [k.f h48, k.a (dj_no hs (by decide)), k.a (dj_no hs (by decide)), k.1.b (dj_no hs (by decide))]
  exact h
theorem TD0.fq {G S : List Nat} {n : Nat} (h : TD0 m n) (k : Fq G S m m1) (hs : dj (42 :: S) [67] = true) : TD0 m1 n := by
  unfold TD0 at *
  rw [k.a (dj_no hs (by decide))]
  exact h
/-- one pair -/
theorem t_184 (hWF : WF e) (hI : DI D) (ha : e.1.2.1.all (okSb D e) = true) (hQ : RQ m (rs_ D e) (tq e) D P ps) (hS : RS m e.2 nm) (hR : RL m D e P L) (hT : TD0 m L.length) (hl : L.length ≤ 60) {x1 x2 x4 : Int32} (hp : okPr D e (r, q)) (h0 : (m.A 60).getD (tq e 0) 0 = nI r) (h1 : e.2.1 6 ≠ 0 → (m.A 60).getD (tq e 1) 0 = nI q) (k5 : L.length = 60 → whP D e P (r, q) = true → ∀ m', Fq [48] SCh m m' → K (some (.int (nI 5))) m') (k : ∀ m', RL m' D e P (if whP D e P (r, q) = true then L ++ [(r, q)] else L) → TD0 m' (if whP D e P (r, q) = true then L ++ [(r, q)] else L).length → Fq [48] SCh m m' → (whP D e P (r, q) = true → L.length < 60) → WH (d + 3) 184 62 [(0, .ref 42), (1, .int x1), (2, .int x2), (3, .int (nI r)), (4, .int x4), (5, .int (nI q + nI 1))] [] m' K) : WH (d + 3) 184 88 [(0, .ref 42), (1, .int x1), (2, .int x2), (3, .int (nI r)), (4, .int x4), (5, .int (nI q))] [] m K := by
  have hRV := RVp hWF hI ha hQ hp h0 h1
  refine sg_184_88 _ _ _ _ _ ?_
  refine c_169 (d := d) hWF hQ.1 hQ.2.1 hS hRV.1 hRV.2 (fun m1 f1 => ⟨_, rfl, ?_⟩)
  have ew : wE D e (envD D (tq e) (p1 D e P (r, q)) (p2 D e P (r, q))) = whP D e P (r, q) := rfl
  rw [ew]
  have hR1 := hR.fq f1 (by decide) (by decide)
  have hT1 := hT.fq f1 (by decide)
  have hL1 := hQ.1.fq f1
  have f1' : Fq [48] SCh m m1 := f1.mono (by decide) (by decide)
  by_cases hw : whP D e P (r, q) = true
  · rw [if_pos hw] at k
    rw [bI_t hw, if_neg (by decide), hR1.1]
    by_cases h60 : L.length = 60
    · rw [if_pos (by rw [h60])]
      exact k5 h60 hw m1 f1'
    · rw [if_neg (by rw [nIeq (by omega) (by decide)]; exact h60)]
      have l64 : (m1.A 64).length = 60 := hL1.a (by decide) rfl
      have l65 : (m1.A 65).length = 60 := hL1.a (by decide) rfl
      have l66 : (m1.B 66).length = 60 := hL1.b (by decide) rfl
      have l67 : (m1.A 67).length = 60 := hL1.a (by decide) rfl
      have hS1 := hS.fq f1 (by decide) (by decide)
      have s11 := hS1.2.2.2.2.2.2.2.2.2.2.1
      have s12 := hS1.2.2.2.2.2.2.2.2.2.2.2.1
      rw [l64, l65, ix_nI (by omega), s11]
      refine ⟨ok_nI (by omega) (by decide), ok_nI (by omega) (by decide), ?_⟩
      by_cases h13 : e.2.1 13 = 0
      · rw [if_pos h13, if_pos rfl, l66, l67]
        refine ⟨ok_nI (by omega) (by decide), ok_nI (by omega) (by decide), ?_⟩
        refine sg_184_179 _ _ _ _ _ ?_
        have f2 : Fq [48] SCh m1 (((((m1.uA 64 ((m1.A 64).set L.length (nI r))).uA 65 ((m1.A 65).set L.length (nI q))).uB 66 ((m1.B 66).set L.length 0)).uA 67 ((m1.A 67).set L.length (vp_nar .boolean (nI 0)))).uF 42 48 (nI L.length + nI 1)) := Fq.uF (Fq.uA (Fq.uB (Fq.uA (Fq.uA (Fq.refl _ _ _) (by decide) (by rw [List.length_set])) (by decide) (by rw [List.length_set]; rfl)) (by decide) (by rw [List.length_set]; rfl)) (by decide) (by rw [List.length_set]; rfl)) (by decide) _
        have hadd := RL_add (p := (r, q)) (m1 := ((((m1.uA 64 ((m1.A 64).set L.length (nI r))).uA 65 ((m1.A 65).set L.length (nI q))).uB 66 ((m1.B 66).set L.length 0)).uA 67 ((m1.A 67).set L.length (vp_nar .boolean (nI 0)))).uF 42 48 (nI L.length + nI 1)) hL1 hR1 hT1 (by omega) (by rw [mF_F, if_pos ⟨rfl, rfl⟩, nI_add]) rfl rfl (by
          have : orV D e (p1 D e P (r, q)) (p2 D e P (r, q)) = 0 := if_pos h13
          rw [this]; rfl) rfl
        exact k _ hadd.1 hadd.2 (f1'.trans f2) (fun _ => by omega)
      · rw [if_neg h13, if_neg (by decide), (s12 h13).1, (s12 h13).2]
        obtain ⟨w1, w2, w3⟩ := hWF.2.2.2.1 h13
        have hlen : (rs_ D e).length = e.1.2.1.length := by unfold rs_; rw [List.length_map]
        have f2 : Fq [48] SCh m1 ((m1.uA 64 ((m1.A 64).set L.length (nI r))).uA 65 ((m1.A 65).set L.length (nI q))) := Fq.uA (Fq.uA (Fq.refl _ _ _) (by decide) (by rw [List.length_set])) (by decide) (by rw [List.length_set]; rfl)
        have f12 := f1'.trans f2
        have h60n : ((m1.uA 64 ((m1.A 64).set L.length (nI r))).uA 65 ((m1.A 65).set L.length (nI q))).A 60 = m.A 60 := by
          show m1.A 60 = _
          exact f1.a (by decide)
        have hRV2 := RVp hWF hI ha (hQ.fq f12 (by decide) (by decide)) hp (by rw [h60n]; exact h0) (fun z => by rw [h60n]; exact h1 z)
        have hQ2 := hQ.fq f12 (by decide) (by decide)
        refine c_167 (b := false) (env := envD D (tq e) (p1 D e P (r, q)) (p2 D e P (r, q))) (c := seg (rs_ D e) (e.2.1 12) (e.2.1 13)) hQ2.1 hQ2.2.1 rfl (by omega) (by omega) (fun x hx h3 => hRV2.1 x (seg_mem hx) h3) (fun x hx h3 => hRV2.2 x (seg_mem hx) h3) (by unfold rs_; rw [seg_map]; exact tyC_map w3) (fun m2 f3 => ⟨_, rfl, ?_⟩)
        have ev : tr false (val (envD D (tq e) (p1 D e P (r, q)) (p2 D e P (r, q))) (seg (rs_ D e) (e.2.1 12) (e.2.1 13))) = orV D e (p1 D e P (r, q)) (p2 D e P (r, q)) := by
          unfold tr orV
          rw [if_neg (by decide), if_neg h13]
        have l66' : (m2.B 66).length = 60 := (hQ2.1.fq f3).b (by decide) rfl
        have l67' : (m2.A 67).length = 60 := (hQ2.1.fq f3).a (by decide) rfl
        have e48 : m2.F 42 48 = nI L.length := by rw [f3.f (by decide)]; exact hR1.1
        rw [ev, l66', l67', e48, ix_nI (by omega)]
        refine ⟨ok_nI (by omega) (by decide), ok_nI (by omega) (by decide), ?_⟩
        refine sg_184_179 _ _ _ _ _ ?_
        have f4 : Fq [48] SCh m2 (((m2.uB 66 ((m2.B 66).set L.length (orV D e (p1 D e P (r, q)) (p2 D e P (r, q))))).uA 67 ((m2.A 67).set L.length (vp_nar .boolean (nI 0)))).uF 42 48 (nI L.length + nI 1)) := Fq.uF (Fq.uA (Fq.uB (Fq.refl _ _ _) (by decide) (by rw [List.length_set])) (by decide) (by rw [List.length_set]; rfl)) (by decide) _
        have hadd := RL_add (p := (r, q)) (m1 := ((m2.uB 66 ((m2.B 66).set L.length (orV D e (p1 D e P (r, q)) (p2 D e P (r, q))))).uA 67 ((m2.A 67).set L.length (vp_nar .boolean (nI 0)))).uF 42 48 (nI L.length + nI 1)) hL1 hR1 hT1 (by omega) (by rw [mF_F, if_pos ⟨rfl, rfl⟩, nI_add]) (by
          show m2.A 64 = _
          rw [f3.a (by decide)]; rfl) (by
          show m2.A 65 = _
          rw [f3.a (by decide)]; rfl) (by
          show (m2.B 66).set _ _ = _
          rw [f3.1.b (by decide)]; rfl) (by
          show (m2.A 67).set _ _ = _
          rw [f3.a (by decide)]; rfl)
        exact k _ hadd.1 hadd.2 ((f12.trans (f3.mono (by decide) (by decide))).trans f4) (fun _ => by omega)
  · rw [if_neg hw] at k
    rw [bI_f hw, if_pos rfl]
    refine sg_184_179 _ _ _ _ _ ?_
    exact k m1 hR1 hT1 f1' (fun z => absurd z hw)
end K99
