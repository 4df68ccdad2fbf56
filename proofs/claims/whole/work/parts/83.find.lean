/-! WHAT IS FOUND: a row (or a pair) is kept, the class -/
def tq (e : St) (s : Nat) : Nat := if s = 0 ∨ e.2.1 6 = 0 then e.2.1 5 else e.2.1 6 - 1
def envD (D : Db) (f : Nat → Nat) (i j : Nat) : Evr := fun s c => cl_ (rw_ D (f s)) (if s = 0 then i else j) c
def whB (D : Db) (e : St) (i j : Nat) : Bool := decide (e.2.1 11 = 0) || decide (val (envD D (tq e) i j) (seg (rs_ D e) (e.2.1 10) (e.2.1 11)) = 2)
def orV (D : Db) (e : St) (i j : Nat) : Int64 := if e.2.1 13 = 0 then 0 else val (envD D (tq e) i j) (seg (rs_ D e) (e.2.1 12) (e.2.1 13))
def rkO (dn : Nat) (v : Int64) : Int64 := if v = NUL then (if dn = 0 then -NUL else NUL) else (if dn = 0 then v else -v)
def hitD (D : Db) (e : St) (i j : Nat) : Hit := (rkO (e.2.1 14) (orV D e i j), i, j)
theorem rs_col {D : Db} {e : St} (ha : e.1.2.1.all (okSb D e) = true) (hok : okc e.1.2.1) : ∀ x, x ∈ rs_ D e → x.1 = 3 → x.2.2 < 2 ∧ x.2.1 < 4 ∧ x.2.1 < wd D (tq e x.2.2) ∧ (x.2.2 = 1 → e.2.1 6 ≠ 0) := by
  intro x hx h3
  obtain ⟨y, hy, rfl⟩ := List.mem_map.mp hx
  rw [rsv_1] at h3
  have hb := List.all_eq_true.mp ha y hy
  have h4 := ((hok y hy).2.1 h3).1
  unfold okSb at hb
  rw [decide_eq_false (fun z => z h3), Bool.false_or, Bool.and_eq_true] at hb
  unfold rsv
  rw [if_pos h3]
  dsimp only
  cases hs : sdO D e y.2.2 y.2.1 with
  | none => rw [hs] at hb; cases hb.2
  | some s =>
    show s < 2 ∧ _ ∧ y.2.1 < wd D (tq e s) ∧ _
    unfold sdO at hs
    split at hs
    · cases hs
    · next hne =>
      split at hs
      · next hf =>
        cases hs
        have := of_decide_eq_true hf
        exact ⟨by decide, h4, this.2, fun z => by cases z⟩
      · next hf =>
        cases hs
        have hS : inS D e y.2.2 y.2.1 = true := by
          cases h1 : inF D e y.2.2 y.2.1 with
          | true => exact absurd h1 hf
          | false =>
            cases h2 : inS D e y.2.2 y.2.1 with
            | true => rfl
            | false => rw [h1, h2] at hne; exact absurd rfl hne
        have := of_decide_eq_true hS
        have e1 : tq e 1 = e.2.1 6 - 1 := by unfold tq; rw [if_neg (fun z => by rcases z with z | z; cases z; exact this.1 z)]
        rw [e1]
        exact ⟨by decide, h4, this.2.2, fun _ => this.1⟩
theorem sd2_rs {D : Db} {e : St} (ha : e.1.2.1.all (okSb D e) = true) (hok : okc e.1.2.1) : sd2 (rs_ D e) := fun x hx h3 => ⟨(rs_col ha hok x hx h3).1, (rs_col ha hok x hx h3).2.1⟩
/-- rows of the two sides that are there -/
def inR (D : Db) (e : St) (i j : Nat) : Prop := i < (rw_ D (tq e 0)).length ∧ (e.2.1 6 ≠ 0 → j < (rw_ D (tq e 1)).length)
def PR (m : Mm) (i j : Nat) : Prop := (m.A 24).getD 0 0 = nI i ∧ (m.A 24).getD 1 0 = nI j
theorem envD_ok {D : Db} {e : St} {i j : Nat} (hI : DI D) (h5 : tq e 0 < 3) (h6 : tq e 1 < 3) (ha : e.1.2.1.all (okSb D e) = true) (hok : okc e.1.2.1) (hR : inR D e i j) : EnvOk (envD D (tq e) i j) (rs_ D e) := by
  intro x hx h3
  obtain ⟨c1, c2, c3, c4⟩ := rs_col ha hok x hx h3
  show Nm (cl_ (rw_ D (tq e x.2.2)) (if x.2.2 = 0 then i else j) x.2.1)
  unfold cl_
  have go : ∀ t k, t < 3 → k < (rw_ D t).length → x.2.1 < wd D t → Nm (((rw_ D t).getD k []).getD x.2.1 0) := by
    intro t k ht hk hw
    have hr := (hI t ht).2.2.1 _ (getD_in (z := []) hk)
    exact hr.2 _ (getD_in (by rw [hr.1]; exact hw))
  rcases (by omega : x.2.2 = 0 ∨ x.2.2 = 1) with z | z
  · rw [z] at c3 ⊢
    rw [if_pos rfl]
    exact go _ _ h5 hR.1 c3
  · have h6n := c4 z
    rw [z] at c3 ⊢
    rw [if_neg (by decide)]
    exact go _ _ h6 (hR.2 h6n) c3
section K83
variable {d : Nat} {m m0 m1 : Mm} {K : Option Value → Mm → Prop} {D : Db} {e : St} {ps : List Pt} {i j : Nat}
theorem PV_of (hI : DI D) (hQ : CQ m (rs_ D e) (tq e) D ps) (hPR : PR m i j) (ha : e.1.2.1.all (okSb D e) = true) (hok : okc e.1.2.1) {l : List Op} (hl : ∀ x, x ∈ l → x ∈ rs_ D e) (h0 : (∃ x, x ∈ l ∧ x.1 = 3 ∧ x.2.2 = 0) → i < (rw_ D (tq e 0)).length) (h1 : (∃ x, x ∈ l ∧ x.1 = 3 ∧ x.2.2 = 1) → j < (rw_ D (tq e 1)).length) : PV m (envD D (tq e) i j) l := by
  obtain ⟨hL, hC, h2, hD, hPA, hPs, hpl, hf0, hf1, hr0, hr1⟩ := hQ
  intro x hx h3
  obtain ⟨c1, c2, c3, c4⟩ := rs_col ha hok x (hl x hx) h3
  refine ⟨c1, ?_⟩
  rcases (by omega : x.2.2 = 0 ∨ x.2.2 = 1) with z | z
  · rw [z] at c3 ⊢
    have hr : m.R 23 (1 + 0) = 3 + 3 * tq e 0 := hr0
    rw [hr]
    obtain ⟨d1, d2, d3, d4⟩ := hD (tq e 0) hf0
    have hi := h0 ⟨x, hx, h3, z⟩
    refine ⟨tbl_t hf0, i, (rw_ D (tq e 0)).length, wd D (tq e 0), hPR.1, d2, d1, hi, (hI _ hf0).2.1, c3, (hI _ hf0).1, ?_⟩
    exact d3 i hi x.2.1 c3
  · rw [z] at c3 ⊢
    have hr : m.R 23 (1 + 1) = 3 + 3 * tq e 1 := hr1
    rw [hr]
    obtain ⟨d1, d2, d3, d4⟩ := hD (tq e 1) hf1
    have hj := h1 ⟨x, hx, h3, z⟩
    refine ⟨tbl_t hf1, j, (rw_ D (tq e 1)).length, wd D (tq e 1), hPR.2, d2, d1, hj, (hI _ hf1).2.1, c3, (hI _ hf1).1, ?_⟩
    exact d3 j hj x.2.1 c3
theorem PV_in (hI : DI D) (hQ : CQ m (rs_ D e) (tq e) D ps) (hPR : PR m i j) (ha : e.1.2.1.all (okSb D e) = true) (hok : okc e.1.2.1) (hR : inR D e i j) {l : List Op} (hl : ∀ x, x ∈ l → x ∈ rs_ D e) : PV m (envD D (tq e) i j) l :=
  PV_of hI hQ hPR ha hok hl (fun _ => hR.1) (fun ⟨x, hx, h3, h1⟩ => hR.2 ((rs_col ha hok x (hl x hx) h3).2.2.2 h1))
/-- what is found so far -/
def HF (m : Mm) (L : List Hit) : Prop := m.F 30 15 = nI L.length ∧ (L.length ≤ 60 → HA m (srt L)) ∧ L.Nodup ∧ smH L ∧ L.length ≤ 1000
theorem c_127 {v : Int64} {dn : Nat} (hdn : dn < 2) (h14 : m.F 12 14 = nI dn) (k : K (some (.long (rkO dn v))) m) : WP d 127 [.ref 30, .long v] m K := by
  refine sp_127 _ ?_
  unfold rkO at k
  rw [h14]
  by_cases hn : v = NUL
  · rw [if_pos ((lg_nul _).mpr hn)]
    rw [if_pos hn] at k
    by_cases h0 : dn = 0
    · rw [if_pos (by rw [h0])]; rw [if_pos h0] at k; exact k
    · rw [if_neg (by rw [nIeq (by omega) (by omega)]; exact h0)]; rw [if_neg h0] at k; exact k
  · rw [if_neg (fun z => hn ((lg_nul _).mp z))]
    rw [if_neg hn] at k
    by_cases h0 : dn = 0
    · rw [if_pos (by rw [h0])]; rw [if_pos h0] at k; exact k
    · rw [if_neg (by rw [nIeq (by omega) (by omega)]; exact h0)]; rw [if_neg h0] at k; exact k
theorem c_42 {s : Nat} (hL : Len m) (hPR : PR m i j) (hs : s < 2) (k : K (some (.int (nI (if s = 0 then i else j)))) m) : WP d 42 [.ref 23, .int (nI s)] m K := by
  have l1 : (m.A 24).length = 2 := hL.a (by decide) rfl
  refine sp_42 _ ?_
  rcases (by omega : s = 0 ∨ s = 1) with rfl | rfl
  · rw [if_pos rfl, l1, ix_nI (by decide), hPR.1]
    rw [if_pos rfl] at k
    exact ⟨ok_nI (by decide) (by decide), k⟩
  · rw [if_neg (by decide), l1, ix_nI (by decide), hPR.2]
    rw [if_neg (by decide)] at k
    exact ⟨ok_nI (by decide) (by decide), k⟩
def S26 : List Nat := [22, 30, 33, 34, 35]
/-- cell 30 apart from what was found -/
def F30 (m m' : Mm) : Prop := (∀ g, g ≠ 15 → m'.F 30 g = m.F 30 g) ∧ m'.R 30 12 = m.R 30 12 ∧ m'.R 30 13 = m.R 30 13
theorem F30.trans {m m1 m2 : Mm} (h : F30 m m1) (k : F30 m1 m2) : F30 m m2 := ⟨fun g hg => (k.1 g hg).trans (h.1 g hg), k.2.1.trans h.2.1, k.2.2.trans h.2.2⟩
theorem F30.fr {S : List Nat} {m m1 : Mm} (h : Fr S m m1) (hs : 30 ∉ S) : F30 m m1 := ⟨fun g _ => h.f hs g, h.r hs 12, h.r hs 13⟩
theorem c_126 {L : List Hit} (hWF : WF e) (hI : DI D) (hQ : CQ m (rs_ D e) (tq e) D ps) (hS : SR m e.2) (hPR : PR m i j) (ha : e.1.2.1.all (okSb D e) = true) (hR : inR D e i j) (hsm : i < 1000 ∧ j < 1000) (hH : HF m L) (hL9 : L.length < 1000) (hnew : ∀ x, x ∈ L → ¬ (x.2.1 = i ∧ x.2.2 = j)) (k : ∀ m', HF m' (if whB D e i j = true then L ++ [hitD D e i j] else L) → Fr S26 m m' → F30 m m' → K none m') : WP (d + 4) 126 [.ref 30] m K := by
  have hQ0 := hQ
  obtain ⟨hL, hC, h2, hD, hPA, hPs, hpl, hf0, hf1, hr0, hr1⟩ := hQ
  have hcn := hC.2.1
  have hlen : (rs_ D e).length = e.1.2.1.length := by unfold rs_; rw [List.length_map]
  obtain ⟨w1, w2, w3, w4, w5, w6, w7, w8, w9, w10, w11, w12, w13, w14⟩ := hWF
  have e10 : m.F 12 10 = nI (e.2.1 10) := hS.1 10 rfl
  have e11 : m.F 12 11 = nI (e.2.1 11) := hS.1 11 rfl
  have hE := envD_ok hI hf0 hf1 ha w1 hR
  -- behind the where
  have G43 : ∀ m1, Fr [22] m m1 → whB D e i j = true → WH (d + 4) 126 43 [(0, .ref 30)] [] m1 K := by
    intro m1 f1 hw
    rw [if_pos hw] at k
    have hQ1 : CQ m1 (rs_ D e) (tq e) D ps := hQ0.fr f1 (by decide)
    have hS1 : SR m1 e.2 := hS.fr f1 (by decide) (F12.fr f1 (by decide))
    have hPR1 : PR m1 i j := ⟨by rw [f1.a (by decide)]; exact hPR.1, by rw [f1.a (by decide)]; exact hPR.2⟩
    have h15 : m1.F 30 15 = nI L.length := by rw [f1.f (by decide)]; exact hH.1
    have e12 : m1.F 12 12 = nI (e.2.1 12) := hS1.1 12 rfl
    have e13 : m1.F 12 13 = nI (e.2.1 13) := hS1.1 13 rfl
    have e14 : m1.F 12 14 = nI (e.2.1 14) := hS1.1 14 rfl
    have hnl : (L ++ [hitD D e i j]).length = L.length + 1 := by rw [List.length_append]; rfl
    have hnot : hitD D e i j ∉ L := fun hx => hnew _ hx ⟨rfl, rfl⟩
    have hnd : (L ++ [hitD D e i j]).Nodup := by
      rw [List.nodup_append]
      refine ⟨hH.2.2.1, by simp, fun a hal b hb => ?_⟩
      rw [List.mem_singleton.mp hb]
      intro hz; rw [hz] at hal; exact hnot hal
    have hsm2 : smH (L ++ [hitD D e i j]) := fun x hx => by
      rcases List.mem_append.mp hx with z | z
      · exact hH.2.2.2.1 x z
      · rw [List.mem_singleton.mp z]; exact hsm
    have fin : ∀ m2, Fr [22, 33, 34, 35] m m2 → m2.F 30 15 = nI L.length → (L.length < 60 → HA m2 (insH (hitD D e i j) (srt L))) → WH (d + 4) 126 117 [(0, .ref 30)] [] m2 K := by
      intro m2 f2 g15 hA2
      refine sg_126_117 ?_
      rw [g15, nI_add]
      refine k _ ⟨?_, fun hle => ?_, hnd, hsm2, by rw [hnl]; omega⟩ ?_ ?_
      · rw [mF_F, if_pos ⟨rfl, rfl⟩, hnl]
      · rw [hnl] at hle
        rw [srt_snoc]
        exact hA2 (by omega)
      · exact Fr.uF (f2.mono (by decide)) (by decide) _ _
      · refine ⟨fun g hg => ?_, f2.r (by decide) 12, f2.r (by decide) 13⟩
        rw [mF_F, if_neg (fun z => hg z.2), f2.f (by decide)]
    refine sg_126_43 ?_
    rw [h15]
    by_cases h60 : 60 ≤ L.length
    · rw [if_pos (by rw [nIle (by omega) (by omega)]; exact h60)]
      exact fin m1 (f1.mono (by decide)) h15 (fun z => by omega)
    · rw [if_neg (by rw [nIle (by omega) (by omega)]; exact h60)]
      -- the hit goes to its place
      have put : ∀ m2 v, Fr [22] m m2 → v = orV D e i j → WP (d + 3) 127 [.ref 30, .long v] m2 (fun v m9 => ∃ w10, v = some (.long w10) ∧ WP (d + 3) 42 [.ref 23, .int (nI 0)] m9 (fun v m11 => ∃ w12, v = some (.int w12) ∧ WP (d + 3) 42 [.ref 23, .int (nI 1)] m11 (fun v m13 => ∃ w14, v = some (.int w14) ∧ WP (d + 3) 128 [.ref 30, .long w10, .int w12, .int w14] m13 (fun v m15 => v = none ∧ WH (d + 4) 126 117 [(0, .ref 30)] [] m15 K)))) := by
        intro m2 v f2 hv
        have hS2 : SR m2 e.2 := hS.fr f2 (by decide) (F12.fr f2 (by decide))
        have hPR2 : PR m2 i j := ⟨by rw [f2.a (by decide)]; exact hPR.1, by rw [f2.a (by decide)]; exact hPR.2⟩
        have hL2 := hL.fr f2
        refine c_127 w14 (hS2.1 14 rfl) ⟨_, rfl, ?_⟩
        refine c_42 hL2 hPR2 (by decide) ⟨_, rfl, ?_⟩
        refine c_42 hL2 hPR2 (by decide) ⟨_, rfl, ?_⟩
        rw [if_pos rfl, if_neg (by decide), hv]
        have hsrt := srt_srt L hH.2.2.1
        have hA2 : HA m2 (srt L) := by
          intro q hq
          have := hH.2.1 (by omega) q hq
          rw [f2.b (by decide), f2.a (by decide), f2.a (by decide)]
          exact this
        refine c_128 (x := hitD D e i j) hsm (fun x hx => hH.2.2.2.1 x ((srt_perm L).mem_iff.mp hx)) hsrt (by rw [srt_len]; omega) hL2 (by rw [f2.f (by decide), srt_len]; exact hH.1) hA2 (fun m3 hA3 f3 => ⟨rfl, ?_⟩)
        exact fin m3 ((f2.mono (by decide)).trans (f3.mono (by decide))) (by rw [f3.f (by decide), f2.f (by decide)]; exact hH.1) (fun _ => hA3)
      refine sp_67 ?_
      rw [e12, e13]
      by_cases h13 : e.2.1 13 = 0
      · have h12 := (w8 h13).1
        rw [if_pos (by rw [h13, h12]; decide)]
        refine ⟨_, rfl, ?_⟩
        rw [if_pos rfl]
        refine put m1 0 f1 ?_
        unfold orV; rw [if_pos h13]
      · obtain ⟨o1, o2, o3⟩ := w4 h13
        rw [if_neg (by rw [nIle (by omega) (by omega)]; omega)]
        refine ⟨_, rfl, ?_⟩
        rw [if_neg (by decide)]
        have ty : tyC false (seg (rs_ D e) (e.2.1 12) (e.2.1 13)) := by
          unfold rs_; rw [seg_map]; exact tyC_map o3
        refine c_51 (c := seg (rs_ D e) (e.2.1 12) (e.2.1 13)) (hL.fr f1) (hC.fr f1 (by decide) (by decide) (by decide) (by decide)) rfl (by omega) (by rw [hlen]; exact o2) (PV_in hI hQ1 hPR1 ha w1 hR (fun x hx => seg_mem hx)) ty (fun m2 f2 => ⟨_, rfl, ?_⟩)
        refine put m2 _ (f1.trans f2) ?_
        unfold orV; rw [if_neg h13]
  refine sp_126 ?_
  refine sp_66 ?_
  rw [e10, e11]
  by_cases h11 : e.2.1 11 = 0
  · have h10 := (w7 h11).2
    rw [if_pos (by rw [h11, h10]; decide)]
    refine ⟨_, rfl, ?_⟩
    rw [if_pos rfl]
    exact G43 m (Fr.refl _ m) (by unfold whB; rw [decide_eq_true h11, Bool.true_or])
  · obtain ⟨o1, o2, o3⟩ := w3 h11
    rw [if_neg (by rw [nIle (by omega) (by omega)]; omega)]
    refine ⟨_, rfl, ?_⟩
    rw [if_neg (by decide)]
    have ty : tyC true (seg (rs_ D e) (e.2.1 10) (e.2.1 11)) := by
      unfold rs_; rw [seg_map]; exact tyC_map o3
    refine c_51 (c := seg (rs_ D e) (e.2.1 10) (e.2.1 11)) hL hC rfl (by omega) (by rw [hlen]; exact o2) (PV_in hI hQ0 hPR ha w1 hR (fun x hx => seg_mem hx)) ty (fun m1 f1 => ⟨_, rfl, ?_⟩)
    by_cases hv : val (envD D (tq e) i j) (seg (rs_ D e) (e.2.1 10) (e.2.1 11)) = 2
    · rw [if_pos ((lg_k _ _).mpr hv)]
      exact G43 m1 f1 (by unfold whB; rw [decide_eq_true hv, Bool.or_true])
    · rw [if_neg (fun z => hv ((lg_k _ _).mp z))]
      have hw : whB D e i j = false := by unfold whB; rw [decide_eq_false h11, decide_eq_false hv]; rfl
      rw [hw, if_neg (by decide)] at k
      refine k m1 ⟨by rw [f1.f (by decide)]; exact hH.1, fun hle q hq => ?_, hH.2.2⟩ (f1.mono (by decide)) (F30.fr f1 (by decide))
      have := hH.2.1 hle q hq
      rw [f1.b (by decide), f1.a (by decide), f1.a (by decide)]
      exact this
end K83
