/-! choose() of the reference: telling -/
def ST2 : List Nat := [60, 61, 64, 65, 66, 67, 68]
def GT2 : List Nat := [48, 53, 54, 56, 57, 58]
section T99
variable {d nm : Nat} {m m0 m1 : Mm} {K : Option Value → Mm → Prop} {D : Db} {e : St} {P : Nat → List (List Int64)} {ps : List Pt} {t r q : Nat}
def HR (D : Db) (e : St) (P : Nat → List (List Int64)) : List Hit := (FL D e P).map (hP D e P)
theorem HR_len : (HR D e P).length = (FL D e P).length := by unfold HR; rw [List.length_map]
theorem HR_get {i : Nat} (h : i < (HR D e P).length) : hK D e P (FL D e P) i = (HR D e P).getD i (0, 0, 0) := by
  unfold HR at h ⊢
  rw [List.length_map] at h
  rw [getD_map _ _ i (0, 0) (0, 0, 0) h]; rfl
def TDx (m : Mm) (D : Db) (e : St) (P : Nat → List (List Int64)) (x : Nat) : Prop := ∀ k, k < (FL D e P).length → (m.A 67).getD k 0 = bI (decide (hK D e P (FL D e P) k ∈ (srt (HR D e P)).take x) = true)
theorem lp_184c (hWF : WF e) (hI : DI D) (ha : e.1.2.1.all (okSb D e) = true) (h3 : e.2.2.length ≤ 3) {x : Nat} (hx : x < 60) {p : Pr} (hp : okPr D e p) (hv1 : p1 D e P p = (hA (HR D e P) x).2.1) (hv2 : p2 D e P p = (hA (HR D e P) x).2.2) : ∀ (n c : Nat) (m : Mm), c + n = e.2.2.length → RQ m (rs_ D e) (tq e) D P ps → RS m e.2 nm → (m.A 60).getD (tq e 0) 0 = nI p.1 → (e.2.1 6 ≠ 0 → (m.A 60).getD (tq e 1) 0 = nI p.2) → m.F 42 53 = nI x → (∀ m', (∀ y, (m'.B 68).getD y 0 = if 3 * x + c ≤ y ∧ y < 3 * x + e.2.2.length then selV D e (HR D e P) x (y - 3 * x) else (m.B 68).getD y 0) → Fq [] [61, 68] m m' → WH (d + 2) 184 199 [(0, .ref 42), (1, .int (nI (tq e 0))), (2, .int (uX e))] [] (m'.uF 42 53 (nI (x + 1))) K) → WH (d + 2) 184 266 [(0, .ref 42), (1, .int (nI (tq e 0))), (2, .int (uX e)), (4, .int (nI c))] [] m K := by
  intro n
  induction n with
  | zero =>
    intro c m hc hQ hS g0 g1 h53 k
    have e22 : m.F 42 22 = nI e.2.2.length := hS.2.2.2.2.2.2.1
    refine sg_184_266 _ _ _ ?_
    rw [e22, if_pos (by rw [nIle (by omega) (by omega)]; omega), h53, nI_add]
    refine k m (fun y => ?_) (Fq.refl _ _ _)
    rw [if_neg (by omega)]
  | succ n ih =>
    intro c m hc hQ hS g0 g1 h53 k
    have e22 : m.F 42 22 = nI e.2.2.length := hS.2.2.2.2.2.2.1
    have l51 : (m.A 51).length = 4 := hQ.1.a (by decide) rfl
    have l52 : (m.A 52).length = 4 := hQ.1.a (by decide) rfl
    obtain ⟨u1, u2⟩ := hS.2.2.2.2.2.2.2.1 c (by omega) (by omega)
    obtain ⟨w1, w2, w3⟩ := hWF.2.1 c (by omega)
    have hlen : (rs_ D e).length = e.1.2.1.length := by unfold rs_; rw [List.length_map]
    have hRV := RVp hWF hI ha hQ hp g0 g1
    refine sg_184_266 _ _ _ ?_
    rw [e22, if_neg (by rw [nIle (by omega) (by omega)]; omega), l51, l52, ix_nI (by omega), u1, u2]
    refine ⟨ok_nI (by omega) (by decide), ok_nI (by omega) (by decide), ?_⟩
    refine c_167 (b := false) (env := envD D (tq e) (p1 D e P p) (p2 D e P p)) (c := seg (rs_ D e) (tmF e.2 c) (e.2.2.getD c 0)) hQ.1 hQ.2.1 rfl (by omega) (by omega) (fun y hy h3 => hRV.1 y (seg_mem hy) h3) (fun y hy h3 => hRV.2 y (seg_mem hy) h3) (by unfold rs_; rw [seg_map]; exact tyC_map w3) (fun m1 f1 => ⟨_, rfl, ?_⟩)
    have l68 : (m1.B 68).length = 180 := (hQ.1.fq f1).b (by decide) rfl
    have ev : tr false (val (envD D (tq e) (p1 D e P p) (p2 D e P p)) (seg (rs_ D e) (tmF e.2 c) (e.2.2.getD c 0))) = selV D e (HR D e P) x c := by
      unfold tr selV
      rw [if_neg (by decide), hv1, hv2]
    rw [ev, h53, l68, pk_mul, nI_add, nI_add, ix_nI (by omega)]
    refine ⟨ok_nI (by omega) (by decide), ?_⟩
    have f2 : Fq [] [61, 68] m (m1.uB 68 ((m1.B 68).set (3 * x + c) (selV D e (HR D e P) x c))) := Fq.uB (f1.mono (by decide) (by decide)) (by decide) (by rw [List.length_set])
    have h60n : (m1.uB 68 ((m1.B 68).set (3 * x + c) (selV D e (HR D e P) x c))).A 60 = m.A 60 := f2.a (by decide)
    refine ih (c + 1) _ (by omega) (hQ.fq f2 (by decide) (by decide)) (hS.fq f2 (by decide) (by decide)) (by rw [h60n]; exact g0) (fun z => by rw [h60n]; exact g1 z) (by rw [f2.f (by decide)]; exact h53) (fun m' hB f3 => k m' (fun y => ?_) (f2.trans f3))
    rw [hB y, mB_B, if_pos rfl, getD_set _ _ _ _ _ (by omega), f1.1.b (by decide)]
    by_cases h1 : 3 * x + (c + 1) ≤ y ∧ y < 3 * x + e.2.2.length
    · rw [if_pos h1, if_pos (by omega)]
    · rw [if_neg h1]
      by_cases h2 : y = 3 * x + c
      · rw [if_pos h2, if_pos (by omega), h2, show 3 * x + c - 3 * x = c by omega]
      · rw [if_neg h2, if_neg (by omega)]
theorem lp_184d (hWF : WF e) (hI : DI D) (ha : e.1.2.1.all (okSb D e) = true) (hab : e.2.1 6 ≠ 0 → tq e 0 ≠ tq e 1) (h01 : 0 < wd D (tq e 0) ∧ 0 < wd D (tq e 1)) (h3 : e.2.2.length ≤ 3) (h60 : (FL D e P).length ≤ 60) (hQ0 : RQ m0 (rs_ D e) (tq e) D P ps) (hS0 : RS m0 e.2 nm) (k : ∀ m', m'.F 42 53 = nI (selN e (HR D e P)) → m'.F 42 54 = nI e.2.2.length → (∀ x c, x < selN e (HR D e P) → c < e.2.2.length → (m'.B 68).getD (3 * x + c) 0 = selV D e (HR D e P) x c) → Fq GT2 ST2 m0 m' → WH (d + 4) 184 326 [(0, .ref 42), (1, .int (nI (tq e 0))), (2, .int (uX e))] [] m' K) : ∀ (n x : Nat) (m : Mm), x + n = selN e (HR D e P) → Fq GT2 ST2 m0 m → RL m D e P (FL D e P) → TDx m D e P x → m.F 42 53 = nI x → m.F 42 54 = nI e.2.2.length → (∀ y c, y < x → c < e.2.2.length → (m.B 68).getD (3 * y + c) 0 = selV D e (HR D e P) y c) → WH (d + 4) 184 199 [(0, .ref 42), (1, .int (nI (tq e 0))), (2, .int (uX e))] [] m K := by
  have hf := hQ0.2.2.2.2.1
  have hf0 := hf.1
  have hf1 := hf.2.1
  have hDD := hQ0.2.2.2.2.2.1
  have hp0 := (hDD _ hf.1).2.2.1
  have hp1 := (hDD _ hf.2.1).2.2.1
  have hM : MH D e (HR D e P) := FL_MH hI hf.1 hf.2.1 hp0 hp1
  have hHl := HR_len (D := D) (e := e) (P := P)
  have hR0 := (hI _ hf.1).2.1
  have hR1 := (hI _ hf.2.1).2.1
  have hok : ∀ p, p ∈ FL D e P → okPr D e p := fun p hp => FL_ok hp
  have hinj : ∀ i j, i < (FL D e P).length → j < (FL D e P).length → hK D e P (FL D e P) i = hK D e P (FL D e P) j → i = j := by
    intro i j hi hj he
    have := hP_inj hI hf.1 hf.2.1 hp0 hp1 (hok _ (getD_in hi)) (hok _ (getD_in hj)) he
    have gi : (FL D e P).getD i (0, 0) = (FL D e P)[i] := by rw [List.getD_eq_getElem?_getD, List.getElem?_eq_getElem hi]; rfl
    have gj : (FL D e P).getD j (0, 0) = (FL D e P)[j] := by rw [List.getD_eq_getElem?_getD, List.getElem?_eq_getElem hj]; rfl
    rw [gi, gj] at this
    exact (List.getElem_inj (FL_nodup D e P)).mp this
  have hlimB := hWF.2.2.2.2.2.2.2.2.2.2.2.2.1
  have hlimN : limN e ≤ 2 ^ 30 := by unfold limN; split <;> omega
  have hsel : selN e (HR D e P) ≤ (FL D e P).length ∧ selN e (HR D e P) ≤ limN e ∧ (selN e (HR D e P) = (FL D e P).length ∨ selN e (HR D e P) = limN e) := by
    unfold selN
    rw [hHl]
    split
    · exact ⟨by omega, by omega, Or.inr rfl⟩
    · exact ⟨by omega, by omega, Or.inl rfl⟩
  intro n
  induction n with
  | zero =>
    intro x m hx hF hR hT h53 h54 hB
    have hS := hS0.fq hF (by decide) (by decide)
    have e32 : m.F 42 32 = nI (limN e) := hS.2.2.2.2.2.2.2.2.2.2.2.2.2
    have ex : x = selN e (HR D e P) := by omega
    subst ex
    have go := k m h53 h54 hB hF
    refine sg_184_199 _ _ ?_
    rw [hR.1, h53, e32]
    by_cases z : (FL D e P).length ≤ selN e (HR D e P)
    · rw [if_pos (by rw [nIle (by omega) (by omega)]; exact z)]; exact go
    · rw [if_neg (by rw [nIle (by omega) (by omega)]; exact z), if_pos (by rw [nIle (by omega) (by omega)]; omega)]; exact go
  | succ n ih =>
    intro x m hx hF hR hT h53 h54 hB
    have hQ := hQ0.fq hF (by decide) (by decide)
    have hS := hS0.fq hF (by decide) (by decide)
    have e32 : m.F 42 32 = nI (limN e) := hS.2.2.2.2.2.2.2.2.2.2.2.2.2
    have e29 : m.F 42 29 = nI (e.2.1 14) := hS.2.2.2.2.2.2.2.2.2.2.2.2.1
    have hD := hQ.2.2.2.2.2.1
    refine sg_184_199 _ _ ?_
    rw [hR.1, h53, e32, if_neg (by rw [nIle (by omega) (by omega)]; omega), if_neg (by rw [nIle (by omega) (by omega)]; omega)]
    refine c_185 (d := d + 2) (T := fun k => decide (hK D e P (FL D e P) k ∈ (srt (HR D e P)).take x)) hWF hI hf.1 hf.2.1 ha h01 hQ.1 hD e29 hR h60 hok hinj hT (fun o hBS => ⟨_, rfl, ?_⟩)
    rw [← hHl] at hBS
    obtain ⟨b, ho, hb, hbe⟩ := BS_next (H := HR D e P) (h := hK D e P (FL D e P)) (fun i hi => HR_get hi) hM.1 (x := x) (by omega) (fun i hi => decide_eq_true_iff) hBS
    subst ho
    rw [hHl] at hb
    have eo : oIx (some b) = nI b := rfl
    have l67 : (m.A 67).length = 60 := hQ.1.a (by decide) rfl
    have l64 : (m.A 64).length = 60 := hQ.1.a (by decide) rfl
    have l65 : (m.A 65).length = 60 := hQ.1.a (by decide) rfl
    have l60 : (m.A 60).length = 3 := hQ.1.a (by decide) rfl
    obtain ⟨q1, q2, q3⟩ := hR.2 b hb
    rw [eo, l67, l64, l60, ix_nI (by omega : b < 2 ^ 31), ix_nI (by omega : tq e 0 < 2 ^ 31), q1]
    refine ⟨ok_nI (by omega) (by decide), ok_nI (by omega) (by decide), ok_nI (by omega) (by decide), ?_⟩
    have hpb : okPr D e ((FL D e P).getD b (0, 0)) := hok _ (getD_in hb)
    have hv1 : p1 D e P ((FL D e P).getD b (0, 0)) = (hA (HR D e P) x).2.1 := by rw [← hbe]; rfl
    have hv2 : p2 D e P ((FL D e P).getD b (0, 0)) = (hA (HR D e P) x).2.2 := by rw [← hbe]; rfl
    -- what is told afterwards
    have hTn : ∀ m2 : Mm, m2.A 67 = (m.A 67).set b (nI 1) → TDx m2 D e P (x + 1) := by
      intro m2 h67 kk hkk
      have hts : (srt (HR D e P)).take (x + 1) = (srt (HR D e P)).take x ++ [hA (HR D e P) x] := by
        have hxl : x < (srt (HR D e P)).length := by rw [srt_len]; omega
        unfold hA
        rw [List.take_add_one, List.getElem?_eq_getElem hxl, List.getD_eq_getElem?_getD, List.getElem?_eq_getElem hxl]; rfl
      rw [h67, getD_set _ _ _ _ _ (by omega), hts]
      by_cases z : kk = b
      · rw [if_pos z, z, bI_t (decide_eq_true (List.mem_append_right _ (by rw [hbe]; exact List.mem_singleton.mpr rfl)))]
      · rw [if_neg z, hT kk hkk]
        have : decide (hK D e P (FL D e P) kk ∈ (srt (HR D e P)).take x) = decide (hK D e P (FL D e P) kk ∈ (srt (HR D e P)).take x ++ [hA (HR D e P) x]) := by
          rw [decide_eq_decide, List.mem_append, List.mem_singleton]
          constructor
          · exact Or.inl
          · rintro (y | y)
            · exact y
            · rw [← hbe] at y
              exact absurd (hinj kk b hkk hb y) z
        rw [this]
    -- the row's values
    have go : ∀ m2 : Mm, Fq GT2 ST2 m m2 → RL m2 D e P (FL D e P) → m2.A 67 = (m.A 67).set b (nI 1) → (m2.A 60).getD (tq e 0) 0 = nI ((FL D e P).getD b (0, 0)).1 → (e.2.1 6 ≠ 0 → (m2.A 60).getD (tq e 1) 0 = nI ((FL D e P).getD b (0, 0)).2) → m2.F 42 53 = nI x → m2.F 42 54 = nI e.2.2.length → m2.B 68 = m.B 68 → WH (d + 4) 184 263 [(0, .ref 42), (1, .int (nI (tq e 0))), (2, .int (uX e))] [] m2 K := by
      intro m2 f2 hR2 h67 g0 g1 g53 g54 g68
      refine sg_184_263 _ _ ?_
      have fA := hF.trans f2
      refine lp_184c (d := d + 2) (ps := ps) (nm := nm) hWF hI ha h3 (x := x) (by omega) hpb hv1 hv2 e.2.2.length 0 m2 (by omega) (hQ0.fq fA (by decide) (by decide)) (hS0.fq fA (by decide) (by decide)) g0 g1 g53 (fun m3 hB3 f3 => ?_)
      have f4 : Fq GT2 ST2 m2 (m3.uF 42 53 (nI (x + 1))) := Fq.uF (f3.mono (by decide) (by decide)) (by decide) _
      refine ih (x + 1) _ (by omega) (fA.trans f4) ?_ (hTn _ ?_) rfl ?_ (fun y c hy hc => ?_)
      · have hR3 := hR2.fq f3 (by decide) (by decide)
        exact ⟨by rw [mF_F, if_neg (by decide)]; exact hR3.1, hR3.2⟩
      · show m3.A 67 = _
        rw [f3.a (by decide)]; exact h67
      · rw [mF_F, if_neg (by decide), f3.f (by decide)]; exact g54
      · show (m3.B 68).getD _ 0 = _
        rw [hB3]
        by_cases z : y = x
        · rw [if_pos (by omega), z, show 3 * x + c - 3 * x = c by omega]
        · rw [if_neg (by omega), g68]; exact hB y c (by omega) hc
    by_cases hz : e.2.1 6 = 0
    · have hu : uX e = -1 := if_pos hz
      rw [if_pos (by rw [hu]; decide)]
      refine go _ (Fq.uA (Fq.uA (Fq.refl _ _ _) (by decide) (by rw [List.length_set])) (by decide) (by rw [List.length_set]; rfl)) hR ?_ ?_ (fun z => absurd hz z) h53 h54 rfl
      · rw [mA_A, if_neg (by decide), mA_A, if_pos rfl]; rfl
      · rw [mA_A, if_pos rfl, getD_set _ _ _ _ _ (by omega), if_pos rfl]
    · have hu : uX e = nI (tq e 1) := if_neg hz
      have hne := hab hz
      rw [if_neg (by rw [hu, nIlt (by omega) (by decide)]; omega), l65, List.length_set, l60, q2, hu, ix_nI (by omega)]
      refine ⟨ok_nI (by omega) (by decide), ok_nI (by omega) (by decide), ?_⟩
      rw [← hu]
      refine go _ (Fq.uA (Fq.uA (Fq.uA (Fq.refl _ _ _) (by decide) (by rw [List.length_set])) (by decide) (by rw [List.length_set]; rfl)) (by decide) (by rw [List.length_set, mA_A, if_pos rfl])) hR ?_ ?_ (fun _ => ?_) h53 h54 rfl
      · rw [mA_A, if_neg (by decide), mA_A, if_neg (by decide), mA_A, if_pos rfl]; rfl
      · rw [mA_A, if_pos rfl, getD_set _ _ _ _ _ (by rw [List.length_set]; omega), if_neg hne, getD_set _ _ _ _ _ (by omega), if_pos rfl]
      · rw [mA_A, if_pos rfl, getD_set _ _ _ _ _ (by rw [List.length_set]; omega), if_pos rfl]
end T99
