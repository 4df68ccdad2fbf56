/-! SELECT, the class -/
def hA (L : List Hit) (k : Nat) : Hit := (srt L).getD k (0, 0, 0)
def limN (e : St) : Nat := if e.2.1 15 = 0 then 60 else e.2.1 15 - 1
def selN (e : St) (L : List Hit) : Nat := if limN e < L.length then limN e else L.length
def selV (D : Db) (e : St) (L : List Hit) (r c : Nat) : Int64 := val (envD D (tq e) (hA L r).2.1 (hA L r).2.2) (seg (rs_ D e) (tmF e.2 c) (e.2.2.getD c 0))
section S92
variable {d : Nat} {m m0 m1 : Mm} {K : Option Value → Mm → Prop} {D : Db} {e : St} {i j : Nat} {L : List Hit} {ps : List Pt}
theorem hA_in (hM : MH D e L) {k : Nat} (hk : k < L.length) : inZ D e (hA L k).2.1 (hA L k).2.2 ∧ whB D e (hA L k).2.1 (hA L k).2.2 = true ∧ hA L k = hitD D e (hA L k).2.1 (hA L k).2.2 := by
  have hm : hA L k ∈ L := (srt_perm L).mem_iff.mp (getD_in (by rw [srt_len]; exact hk))
  obtain ⟨i, j, h1, h2, h3⟩ := (hM.2 _).mp hm
  rw [h3]
  exact ⟨h1, h2, rfl⟩
theorem c_130 {k : Nat} (hL : Len m) (hH : HF m L) (h60 : L.length ≤ 60) (hk : k < L.length) (hPR : PR m i j) (kk : ∀ m', PR m' (hA L k).2.1 (hA L k).2.2 → Fr [24] m m' → K none m') : WP (d + 1) 130 [.ref 30, .int (nI k)] m K := by
  have l34 : (m.A 34).length = 60 := hL.a (by decide) rfl
  have hh := hH.2.1 h60 k (by rw [srt_len]; exact hk)
  refine sp_130 _ ?_
  rw [hH.1, if_neg (by rw [nIlt (by omega) (by decide)]; omega), if_neg (by rw [nIle (by omega) (by omega)]; omega), if_neg (by rw [nIle (by decide) (by omega)]; omega), l34, ix_nI (by omega), hh.2.1]
  refine ⟨ok_nI (by omega) (by decide), ?_⟩
  refine c_43 hL hPR (by decide) (fun m1 hP1 f1 => ⟨rfl, ?_⟩)
  rw [if_pos rfl, if_pos rfl] at hP1
  have l35 : (m1.A 35).length = 60 := (hL.fr f1).a (by decide) rfl
  rw [l35, f1.a (by decide), hh.2.2]
  refine ⟨ok_nI (by omega) (by decide), ?_⟩
  refine c_43 (hL.fr f1) hP1 (by decide) (fun m2 hP2 f2 => ⟨rfl, kk m2 ?_ (f1.trans f2)⟩)
  rw [if_neg (by decide), if_neg (by decide)] at hP2
  exact hP2
def S24c : List Nat := [0, 22, 24, 40]
def F0k (m m' : Mm) : Prop := ∀ f, m'.F 0 f = m.F 0 f
/-- one row's values -/
theorem lp_24b (hWF : WF e) (hI : DI D) (ha : e.1.2.1.all (okSb D e) = true) (h3 : e.2.2.length ≤ 3) {r i j : Nat} (hr : r < 60) (hin : inR D e i j) : ∀ (n c : Nat) (m : Mm), c + n = e.2.2.length → CQ m (rs_ D e) (tq e) D ps → SR m e.2 → PR m i j → m.F 0 12 = nI e.2.2.length → (∀ m', (∀ q, q < 180 → (m'.B 40).getD q 0 = if 3 * r + c ≤ q ∧ q < 3 * r + e.2.2.length then val (envD D (tq e) i j) (seg (rs_ D e) (tmF e.2 (q - 3 * r)) (e.2.2.getD (q - 3 * r) 0)) else (m.B 40).getD q 0) → Fr [22, 40] m m' → WH (d + 4) 24 48 [(0, .ref 0), (1, .int (nI r + nI 1))] [] m' K) → WH (d + 4) 24 66 [(0, .ref 0), (1, .int (nI r)), (2, .int (nI c))] [] m K := by
  intro n
  induction n with
  | zero =>
    intro c m hc hQ hS hPR h12 k
    refine sg_24_66 _ _ ?_
    rw [h12, if_pos (by rw [nIle (by omega) (by omega)]; omega)]
    refine k m (fun q hq => ?_) (Fr.refl _ m)
    rw [if_neg (by omega)]
  | succ n ih =>
    intro c m hc hQ hS hPR h12 k
    obtain ⟨w1, w2, w3, w4, w5, w6, w7, w8, w9, w10, w11, w12, w13, w14⟩ := hWF
    have hcl : c < e.2.2.length := by omega
    obtain ⟨t1, t2, t3⟩ := w2 c hcl
    have hlen : (rs_ D e).length = e.1.2.1.length := by unfold rs_; rw [List.length_map]
    have l40 : (m.B 40).length = 180 := hQ.1.b (by decide) rfl
    refine sg_24_66 _ _ ?_
    rw [h12, if_neg (by rw [nIle (by omega) (by omega)]; omega), if_neg (by rw [nIle (by decide) (by omega)]; omega)]
    refine c_61 hQ.1 hS (by omega) (by omega) ⟨_, rfl, ?_⟩
    refine c_62 hQ.1 hS (by omega) (by omega) ⟨_, rfl, ?_⟩
    have hPV := PV_in hI hQ hPR ha w1 hin (l := seg (rs_ D e) (tmF e.2 c) (e.2.2.getD c 0)) (fun y hy => seg_mem hy)
    refine c_51 (c := seg (rs_ D e) (tmF e.2 c) (e.2.2.getD c 0)) hQ.1 hQ.2.1 rfl (by omega) (by omega) hPV (by unfold rs_; rw [seg_map]; exact tyC_map t3) (fun m1 f1 => ⟨_, rfl, ?_⟩)
    have l40' : (m1.B 40).length = 180 := by rw [f1.b (by decide)]; exact l40
    have ei : nI r * nI 3 + nI c = nI (3 * r + c) := by rw [pk_mul, nI_add, Nat.mul_comm]
    rw [ei, l40', ix_nI (by omega), nI_add]
    refine ⟨ok_nI (by omega) (by decide), ?_⟩
    have f2 : Fr [22, 40] m (m1.uB 40 ((m1.B 40).set (3 * r + c) (val (envD D (tq e) i j) (seg (rs_ D e) (tmF e.2 c) (e.2.2.getD c 0))))) := Fr.uB (f1.mono (by decide)) (by decide) (by rw [List.length_set])
    refine ih (c + 1) _ (by omega) (hQ.fr f2 (by decide)) (hS.fr f2 (by decide) (F12.fr f2 (by decide))) (hPR.fr f2 (by decide)) (by rw [f2.f (by decide)]; exact h12) (fun m' hB f3 => k m' (fun q hq => ?_) (f2.trans f3))
    rw [hB q hq]
    show _ = if 3 * r + c ≤ q ∧ q < 3 * r + e.2.2.length then _ else (m.B 40).getD q 0
    have eb : ((m1.uB 40 ((m1.B 40).set (3 * r + c) (val (envD D (tq e) i j) (seg (rs_ D e) (tmF e.2 c) (e.2.2.getD c 0))))).B 40).getD q 0 = if q = 3 * r + c then val (envD D (tq e) i j) (seg (rs_ D e) (tmF e.2 c) (e.2.2.getD c 0)) else (m.B 40).getD q 0 := by
      show ((m1.B 40).set (3 * r + c) _).getD q 0 = _
      rw [getD_set _ _ _ _ _ (by omega), f1.b (by decide)]
    rw [eb]
    by_cases hq1 : 3 * r + (c + 1) ≤ q ∧ q < 3 * r + e.2.2.length
    · rw [if_pos hq1, if_pos (by omega)]
    · rw [if_neg hq1]
      by_cases hq2 : q = 3 * r + c
      · rw [if_pos hq2, if_pos (by omega), hq2, show 3 * r + c - 3 * r = c by omega]
      · rw [if_neg hq2, if_neg (by omega)]
/-- the rows -/
theorem lp_24a (hWF : WF e) (hI : DI D) (ha : e.1.2.1.all (okSb D e) = true) (h3 : e.2.2.length ≤ 3) (hM : MH D e L) (h60 : L.length ≤ 60) {N : Nat} (hN : N ≤ L.length) : ∀ (n r : Nat) (m : Mm) (i j : Nat), r + n = N → CQ m (rs_ D e) (tq e) D ps → SR m e.2 → PR m i j → HF m L → m.F 0 11 = nI N → m.F 0 12 = nI e.2.2.length → (∀ x c, x < r → c < e.2.2.length → (m.B 40).getD (3 * x + c) 0 = selV D e L x c) → (∀ m', (∀ x c, x < N → c < e.2.2.length → (m'.B 40).getD (3 * x + c) 0 = selV D e L x c) → Fr [22, 24, 40] m m' → K (some (.int (nI 0))) m') → WH (d + 4) 24 48 [(0, .ref 0), (1, .int (nI r))] [] m K := by
  intro n
  induction n with
  | zero =>
    intro r m i j hr hQ hS hPR hH h11 h12 hB k
    refine sg_24_48 _ ?_
    rw [h11, if_pos (by rw [nIle (by omega) (by omega)]; omega)]
    exact k m (fun x c hx hc => hB x c (by omega) hc) (Fr.refl _ m)
  | succ n ih =>
    intro r m i j hr hQ hS hPR hH h11 h12 hB k
    refine sg_24_48 _ ?_
    rw [h11, if_neg (by rw [nIle (by omega) (by omega)]; omega)]
    have hin := hA_in hM (k := r) (by omega)
    refine c_130 (d := d + 2) hQ.1 hH h60 (by omega) hPR (fun m1 hP1 f1 => ⟨rfl, ?_⟩)
    have hQ1 := hQ.fr f1 (by decide)
    have hS1 : SR m1 e.2 := hS.fr f1 (by decide) (F12.fr f1 (by decide))
    refine lp_24b (d := d) (ps := ps) hWF hI ha h3 (r := r) (by omega) hin.1.r e.2.2.length 0 m1 (by omega) hQ1 hS1 hP1 (by rw [f1.f (by decide)]; exact h12) (fun m2 hB2 f2 => ?_)
    have f3 : Fr [22, 24, 40] m m2 := (f1.mono (by decide)).trans (f2.mono (by decide))
    rw [nI_add]
    refine ih (r + 1) m2 _ _ (by omega) (hQ.fr f3 (by decide)) (hS.fr f3 (by decide) (F12.fr f3 (by decide))) (hP1.fr f2 (by decide)) (hH.fr f3 (f3.f (by decide) 15) (by decide) (by decide) (by decide)) (by rw [f3.f (by decide)]; exact h11) (by rw [f3.f (by decide)]; exact h12) (fun x c hx hc => ?_) (fun m' a1 a2 => k m' a1 (f3.trans a2))
    rw [hB2 _ (by omega)]
    by_cases hxr : x = r
    · rw [if_pos (by omega), hxr, show 3 * r + c - 3 * r = c by omega]; rfl
    · rw [if_neg (by omega), f1.b (by decide)]; exact hB x c (by omega) hc
theorem c_24 (hWF : WF e) (hI : DI D) (ha : e.1.2.1.all (okSb D e) = true) (h3 : e.2.2.length ≤ 3) (hM : MH D e L) (hQ : CQ m (rs_ D e) (tq e) D ps) (hS : SR m e.2) (hPR : PR m i j) (hH : HF m L) (k5 : 60 < L.length → K (some (.int (nI 5))) m) (k0 : L.length ≤ 60 → ∀ m', m'.F 0 11 = nI (selN e L) → m'.F 0 12 = nI e.2.2.length → (∀ f, f ≠ 11 → f ≠ 12 → m'.F 0 f = m.F 0 f) → (∀ x c, x < selN e L → c < e.2.2.length → (m'.B 40).getD (3 * x + c) 0 = selV D e L x c) → Fr S24c m m' → K (some (.int (nI 0))) m') : WP (d + 4) 24 [.ref 0] m K := by
  have h15 : m.F 12 15 = lim (e.2.1 15) := hS.1 15 rfl
  have hw := hWF.2.2.2.2.2.2.2.2.2.2.2.2.1
  have hN := hH.2.2.2.2
  refine sp_24 ?_
  rw [hH.1, h15, hS.2.1]
  by_cases h60 : L.length ≤ 60
  · rw [if_pos (by rw [nIle (by omega) (by decide)]; omega)]
    have em : mnI (nI L.length) (lim (e.2.1 15)) = nI (selN e L) := by
      cases z : e.2.1 15 with
      | zero =>
        have e1 : selN e L = L.length := by
          unfold selN limN
          rw [if_pos z, if_neg (by omega)]
        rw [e1]
        show (if nI 2147483647 < nI L.length then nI 2147483647 else nI L.length) = nI L.length
        rw [if_neg (by rw [nIlt (by decide) (by omega)]; omega)]
      | succ n =>
        have e1 : selN e L = if n < L.length then n else L.length := by
          unfold selN limN
          rw [z]; rfl
        rw [e1]
        show (if nI n < nI L.length then nI n else nI L.length) = _
        by_cases z2 : n < L.length
        · rw [if_pos (by rw [nIlt (by omega) (by omega)]; exact z2), if_pos z2]
        · rw [if_neg (by rw [nIlt (by omega) (by omega)]; exact z2), if_neg z2]
    rw [em]
    have hsel : selN e L ≤ L.length := by unfold selN; split <;> omega
    have f1 : Fr S24c m ((m.uF 0 11 (nI (selN e L))).uF 0 12 (nI e.2.2.length)) := Fr.uF (Fr.uF (Fr.refl _ m) (by decide) _ _) (by decide) _ _
    refine lp_24a (ps := ps) hWF hI ha h3 hM h60 hsel (selN e L) 0 _ i j (by omega) (hQ.fr f1 (by decide)) (hS.fr f1 (by decide) (F12.fr f1 (by decide))) (hPR.fr (Fr.uF (Fr.uF (Fr.refl [0] m) (by decide) _ _) (by decide) _ _) (by decide)) (hH.fr f1 rfl (by decide) (by decide) (by decide)) rfl rfl (fun x c hx => absurd hx (Nat.not_lt_zero x)) (fun m' hB f2 => k0 h60 m' ?_ ?_ (fun f hf1 hf2 => ?_) hB (f1.trans (f2.mono (by decide))))
    · rw [f2.f (by decide)]; rfl
    · rw [f2.f (by decide)]; rfl
    · rw [f2.f (by decide), mF_F, if_neg (fun z => hf2 z.2), mF_F, if_neg (fun z => hf1 z.2)]
  · rw [if_neg (by rw [nIle (by omega) (by decide)]; omega)]
    exact k5 (by omega)
end S92
