/-! A NEW ROW: the class -/
def cntR (R : List (List Int64)) (c : Nat) (v : Int64) : Nat := R.countP (fun x => decide (x.getD c 0 = v))
def updD (D : Db) (t : Nat) (R : List (List Int64)) : Db := fun s => if s = t then (wd D t, R, (D t).2.2) else D s
theorem updD_w (D : Db) (t s : Nat) (R : List (List Int64)) : wd (updD D t R) s = wd D s := by
  unfold wd updD
  by_cases h : s = t
  · rw [if_pos h, h]; rfl
  · rw [if_neg h]
theorem updD_x (D : Db) (t s c : Nat) (R : List (List Int64)) : ixd (updD D t R) s c = ixd D s c := by
  unfold ixd updD
  by_cases h : s = t
  · rw [if_pos h, h]
  · rw [if_neg h]
theorem updD_r (D : Db) (t s : Nat) (R : List (List Int64)) : rw_ (updD D t R) s = if s = t then R else rw_ D s := by
  unfold rw_ updD
  by_cases h : s = t
  · rw [if_pos h, if_pos h]
  · rw [if_neg h, if_neg h]
theorem insK_map {w : Nat} (hw : 0 < w) (x : List Int64) : ∀ (Q : List (List Int64)), (insK x Q).map (fun r => r.take w) = insK (x.take w) (Q.map (fun r => r.take w))
  | [] => rfl
  | y :: Q => by
    have hk : ∀ z : List Int64, key (z.take w) = key z := by
      intro z
      unfold key
      cases z with
      | nil => rw [List.take_nil]
      | cons a z =>
        obtain ⟨n, rfl⟩ : ∃ n, w = n + 1 := ⟨w - 1, by omega⟩
        rfl
    rw [List.map_cons]
    unfold insK
    rw [hk, hk]
    split
    · rw [List.map_cons, insK_map hw x Q]
    · rw [List.map_cons, List.map_cons]
theorem getD_take {l : List Int64} {w c : Nat} (h : c < w) : (l.take w).getD c 0 = l.getD c 0 := by
  rw [List.getD_eq_getElem?_getD, List.getElem?_take_of_lt h, ← List.getD_eq_getElem?_getD]
theorem list_ext {a b : List Int64} (hl : a.length = b.length) (h : ∀ c, c < a.length → a.getD c 0 = b.getD c 0) : a = b := by
  apply List.ext_getElem hl
  intro i h1 h2
  have := h i h1
  rw [List.getD_eq_getElem?_getD, List.getD_eq_getElem?_getD, List.getElem?_eq_getElem h1, List.getElem?_eq_getElem h2] at this
  exact this
theorem list_ext2 {a b : List (List Int64)} (hl : a.length = b.length) (h : ∀ i, i < a.length → a.getD i [] = b.getD i []) : a = b := by
  apply List.ext_getElem hl
  intro i h1 h2
  have := h i h1
  rw [List.getD_eq_getElem?_getD, List.getD_eq_getElem?_getD, List.getElem?_eq_getElem h1, List.getElem?_eq_getElem h2] at this
  exact this
section I73
variable {d N : Nat} {m m0 m1 : Mm} {K : Option Value → Mm → Prop} {D : Db} {e : St} {t : Nat}
/-- the rows, read off the cells -/
theorem rows_phy (ht : t < 3) (hD : DC m D) (hI : DI D) : rw_ D t = (phy (m.B (3 + 3 * t + 1)) (rw_ D t).length).map (fun r => r.take (wd D t)) := by
  have h3 := (hD t ht).2.2.1
  obtain ⟨i1, i2, i3, _⟩ := hI t ht
  refine list_ext2 (by rw [List.length_map, phy_len]) (fun i hi => ?_)
  rw [getD_map _ _ i [] [] (by rw [phy_len]; exact hi), phy_get hi]
  have hr := i3 _ (getD_in (z := []) hi)
  refine list_ext ?_ (fun c hc => ?_)
  · rw [hr.1, List.length_take]
    show _ = min (wd D t) 4
    omega
  · rw [hr.1] at hc
    rw [getD_take hc]
    have := h3 i hi c hc
    unfold cl_ at this
    rw [← this]
    rcases (by omega : c = 0 ∨ c = 1 ∨ c = 2 ∨ c = 3) with rfl | rfl | rfl | rfl <;> rfl
theorem cnt_snoc (R : List (List Int64)) (x : List Int64) (c : Nat) (v : Int64) : cntR (R ++ [x]) c v = if x.getD c 0 = v then cntR R c v + 1 else cntR R c v := by
  unfold cntR
  rw [List.countP_append, List.countP_singleton]
  by_cases h : x.getD c 0 = v
  · rw [if_pos h, if_pos (decide_eq_true h)]
  · rw [if_neg h, if_neg (by rw [decide_eq_true_iff]; exact h)]; rfl
theorem take_succ_getD {R : List (List Int64)} {i : Nat} (h : i < R.length) : R.take (i + 1) = R.take i ++ [R.getD i []] := by
  rw [List.take_add_one, List.getElem?_eq_getElem h, List.getD_eq_getElem?_getD, List.getElem?_eq_getElem h]; rfl
theorem lp_30 (ht : t < 3) {c : Nat} {v : Int64} (hL : Len m) (hD : DC m D) (hI : DI D) (hc : c < wd D t) (k : K (some (.int (nI (cntR (rw_ D t) c v)))) m) : ∀ (n i : Nat), i + n = (rw_ D t).length → WH d 30 6 [(0, .ref (3 + 3 * t)), (1, .int (nI c)), (2, .long v), (4, .int (nI (cntR ((rw_ D t).take i) c v))), (5, .int (nI i))] [] m K := by
  obtain ⟨i1, i2, i3, _⟩ := hI t ht
  obtain ⟨d1, d2, d3, d4⟩ := hD t ht
  have l1 := lenB (tbl_t ht) hL
  have hcl : ∀ i, cntR ((rw_ D t).take i) c v ≤ 20 := by
    intro i
    unfold cntR
    have := List.countP_le_length (p := fun x : List Int64 => decide (x.getD c 0 = v)) (l := (rw_ D t).take i)
    rw [List.length_take] at this
    omega
  intro n
  induction n with
  | zero =>
    intro i hi
    refine sg_30_6 _ _ _ _ _ (tbl_t ht) ?_
    rw [if_pos (by rw [d2, nIle (by omega) (by omega)]; omega), show i = (rw_ D t).length by omega, List.take_length]
    exact k
  | succ n ih =>
    intro i hi
    have h3 := d3 i (by omega) c hc
    have ec := cnt_snoc ((rw_ D t).take i) ((rw_ D t).getD i []) c v
    rw [← take_succ_getD (by omega)] at ec
    refine sg_30_6 _ _ _ _ _ (tbl_t ht) ?_
    rw [if_neg (by rw [d2, nIle (by omega) (by omega)]; omega), pk_mul, nI_add, l1, ix_nI (by omega), h3, nI_add, nI_add]
    refine ⟨ok_nI (by omega) (by decide), ?_⟩
    unfold cl_
    have := ih (i + 1) (by omega)
    by_cases hv : ((rw_ D t).getD i []).getD c 0 = v
    · rw [if_pos hv] at ec
      rw [if_pos ((lg_k _ _).mpr hv)]
      rw [ec] at this
      exact this
    · rw [if_neg hv] at ec
      rw [if_neg (fun z => hv ((lg_k _ _).mp z))]
      rw [ec] at this
      exact this
theorem c_30 (ht : t < 3) {c : Nat} {v : Int64} (hL : Len m) (hD : DC m D) (hI : DI D) (hc : c < wd D t) (k : K (some (.int (nI (cntR (rw_ D t) c v)))) m) : WP d 30 [.ref (3 + 3 * t), .int (nI c), .long v] m K := by
  refine sp_30 _ _ _ (tbl_t ht) ?_
  exact lp_30 ht hL hD hI hc k (rw_ D t).length 0 (by omega)
/-- where a list's E begins and ends -/
theorem c_61 {i : Nat} (hL : Len m) (hS : SR m e.2) (hi : i ≤ e.2.2.length) (hl : e.2.2.length ≤ 80) (k : K (some (.int (nI (tmF e.2 i)))) m) : WP d 61 [.ref 12, .int (nI i)] m K := by
  have l1 : (m.A 13).length = 80 := hL.a (by decide) rfl
  refine sp_61 _ ?_
  unfold tmF at k
  by_cases h0 : i = 0
  · rw [if_pos (by rw [nIle (by omega) (by omega)]; omega)]
    rw [if_pos h0] at k; exact k
  · rw [if_neg (by rw [nIle (by omega) (by omega)]; omega), if_neg (by rw [hS.2.1, nIlt (by omega) (by omega)]; omega), nIsub (by omega), l1, ix_nI (by omega), hS.2.2 (i - 1) (by omega)]
    rw [if_neg h0] at k
    exact ⟨ok_nI (by omega) (by decide), k⟩
theorem c_62 {i : Nat} (hL : Len m) (hS : SR m e.2) (hi : i < e.2.2.length) (hl : e.2.2.length ≤ 80) (k : K (some (.int (nI (e.2.2.getD i 0)))) m) : WP d 62 [.ref 12, .int (nI i)] m K := by
  have l1 : (m.A 13).length = 80 := hL.a (by decide) rfl
  refine sp_62 _ ?_
  rw [if_neg (by rw [nIlt (by omega) (by omega)]; omega), if_neg (by rw [hS.2.1, nIle (by omega) (by omega)]; omega), l1, ix_nI (by omega), hS.2.2 i hi]
  exact ⟨ok_nI (by omega) (by decide), k⟩
/-- the new row's cells, one behind the other; then it goes to its place -/
theorem lp_33 (ht : t < 3) {n w : Nat} (hn : n < 20) (hw4 : w ≤ 4) : ∀ (j c : Nat) (m : Mm), c + j = w → Len m → m.F (3 + 3 * t) 2 = nI w → m.F (3 + 3 * t) 3 = nI n → (∀ m', Len m' → (∀ i, (m'.B (3 + 3 * t + 1)).getD i 0 = if n * 4 + c ≤ i ∧ i < n * 4 + w then (m.B 41).getD (i - n * 4) 0 else (m.B (3 + 3 * t + 1)).getD i 0) → Fr [3 + 3 * t + 1] m m' → WP d 37 [.ref (3 + 3 * t), .int (nI n)] (m'.uF (3 + 3 * t) 3 (nI (n + 1))) (fun v m2 => v = none ∧ K none m2)) → WH (d + 1) 33 12 [(0, .ref (3 + 3 * t)), (1, .ref 41), (2, .int (nI c))] [] m K := by
  have hr := tbl_t ht
  have n41 : 3 + 3 * t + 1 ≠ 41 := by omega
  intro j
  induction j with
  | zero =>
    intro c m hc hL h2 h3 k
    refine sg_33_12 _ _ hr ?_
    rw [if_pos (by rw [h2, nIle (by omega) (by omega)]; omega), h3, nI_add, mF_F, if_pos ⟨rfl, rfl⟩, nIsub (by omega), Nat.add_sub_cancel]
    refine k m hL (fun i => ?_) (Fr.refl _ m)
    rw [if_neg (by omega)]
  | succ j ih =>
    intro c m hc hL h2 h3 k
    have l1 := lenB hr hL
    have l2 : (m.B 41).length = 20 := hL.b (by decide) rfl
    refine sg_33_12 _ _ hr ?_
    rw [if_neg (by rw [h2, nIle (by omega) (by omega)]; omega), h3, pk_mul, nI_add, l1, l2, ix_nI (by omega), ix_nI (by omega), nI_add]
    refine ⟨ok_nI (by omega) (by decide), ok_nI (by omega) (by decide), ?_⟩
    have f1 : Fr [3 + 3 * t + 1] m (m.uB (3 + 3 * t + 1) ((m.B (3 + 3 * t + 1)).set (n * 4 + c) ((m.B 41).getD c 0))) := by
      refine Fr.uB (Fr.refl _ m) (List.mem_singleton.mpr rfl) ?_
      rw [List.length_set]
    have e41 : (m.uB (3 + 3 * t + 1) ((m.B (3 + 3 * t + 1)).set (n * 4 + c) ((m.B 41).getD c 0))).B 41 = m.B 41 := by rw [mB_B, if_neg (fun z => n41 z.symm)]
    have eB : (m.uB (3 + 3 * t + 1) ((m.B (3 + 3 * t + 1)).set (n * 4 + c) ((m.B 41).getD c 0))).B (3 + 3 * t + 1) = (m.B (3 + 3 * t + 1)).set (n * 4 + c) ((m.B 41).getD c 0) := by rw [mB_B, if_pos rfl]
    refine ih (c + 1) _ (by omega) (hL.fr f1) h2 h3 (fun m' hL' h' f2 => k m' hL' (fun i => ?_) (f1.trans f2))
    rw [h' i, e41, eB, getD_set _ _ _ _ _ (by omega)]
    by_cases c1 : n * 4 + (c + 1) ≤ i ∧ i < n * 4 + w
    · rw [if_pos c1, if_pos (by omega)]
    · rw [if_neg c1]
      by_cases c2 : i = n * 4 + c
      · rw [if_pos c2, if_pos (by omega), c2]
        congr 1
        omega
      · rw [if_neg c2, if_neg (by omega)]
theorem DI_ins (ht : t < 3) (hI : DI D) {v : List Int64} (hw : 0 < wd D t) (hv : v.length = wd D t) (hn : ∀ x, x ∈ v → Nm x) (h20 : (rw_ D t).length < 20) (hk : key v ≠ NUL) (hd : ∀ r, r ∈ rw_ D t → key r ≠ key v) : DI (updD D t (insK v (rw_ D t))) := by
  intro s hs
  have h0 := hI s hs
  rw [updD_w, updD_r]
  have ex : (fun c => ixd (updD D t (insK v (rw_ D t))) s c) = fun c => ixd D s c := by
    funext c
    exact updD_x _ _ _ _ _
  rw [ex]
  by_cases hst : s = t
  · subst hst
    rw [if_pos rfl]
    obtain ⟨a1, a2, a3, a4, a5, a6, a7⟩ := h0
    have mem : ∀ r, r ∈ insK v (rw_ D s) → r = v ∨ r ∈ rw_ D s := by
      intro r hr
      have := (insK_perm v (rw_ D s)).mem_iff.mp hr
      exact List.mem_cons.mp this
    refine ⟨a1, by rw [insK_len]; omega, fun r hr => ?_, fun z => by omega, a5, fun r hr => ?_, ?_⟩
    · rcases mem r hr with z | z
      · rw [z]; exact ⟨hv, hn⟩
      · exact a3 r z
    · rcases mem r hr with z | z
      · rw [z]; exact hk
      · exact a6 r z
    · -- in order
      have go : ∀ l : List (List Int64), l.Pairwise (fun a b => key a < key b) → (∀ r, r ∈ l → key r ≠ key v) → (insK v l).Pairwise (fun a b => key a < key b) := by
        intro l
        induction l with
        | nil => intro _ _; exact List.pairwise_singleton _ _
        | cons y l ih =>
          intro hp hne
          have hp' := List.pairwise_cons.mp hp
          have hy := hne y (List.mem_cons_self ..)
          unfold insK
          by_cases hc : key y ≤ key v
          · rw [if_pos hc]
            refine List.pairwise_cons.mpr ⟨fun z hz => ?_, ih hp'.2 (fun r hr => hne r (List.mem_cons_of_mem _ hr))⟩
            have := (insK_perm v l).mem_iff.mp hz
            rcases List.mem_cons.mp this with e1 | e1
            · rw [e1]
              rw [Int64.le_iff_toInt_le] at hc
              rw [Int64.lt_iff_toInt_lt]
              have : (key y).toInt ≠ (key v).toInt := fun z => hy (Int64.toInt_inj.mp z)
              omega
            · exact hp'.1 z e1
          · rw [if_neg hc]
            have hlt : key v < key y := by
              rw [Int64.le_iff_toInt_le] at hc
              rw [Int64.lt_iff_toInt_lt]; omega
            refine List.pairwise_cons.mpr ⟨fun z hz => ?_, hp⟩
            rcases List.mem_cons.mp hz with e1 | e1
            · rw [e1]; exact hlt
            · have := hp'.1 z e1
              rw [Int64.lt_iff_toInt_lt] at *
              omega
      exact go _ a7 hd
  · rw [if_neg hst]
    exact h0
/-- the class adds a row -/
theorem c_33 (ht : t < 3) (hL : Len m) (hD : DC m D) (hI : DI D) (hw : 0 < wd D t) (h20 : (rw_ D t).length < 20) {v : List Int64} (hv : v.length = wd D t) (h41 : ∀ c, c < wd D t → (m.B 41).getD c 0 = v.getD c 0) (k : ∀ m', DC m' (updD D t (insK v (rw_ D t))) → Fr [3 + 3 * t, 3 + 3 * t + 1] m m' → K none m') : WP (d + 2) 33 [.ref (3 + 3 * t), .ref 41] m K := by
  have hr := tbl_t ht
  obtain ⟨d1, d2, d3, d4⟩ := hD t ht
  obtain ⟨a1, a2, a3, a4, a5, a6, a7⟩ := hI t ht
  refine sp_33 _ hr ?_
  rw [if_pos (by rw [d2, nIlt (by omega) (by omega)]; exact h20)]
  refine lp_33 ht h20 a1 (wd D t) 0 m (by omega) hL d1 d2 (fun m1 hL1 h1 f1 => ?_)
  have f2 : Fr [3 + 3 * t, 3 + 3 * t + 1] m (m1.uF (3 + 3 * t) 3 (nI ((rw_ D t).length + 1))) := Fr.uF (f1.mono (fun c hc => List.mem_cons_of_mem _ hc)) (List.mem_cons_self ..) _ _
  -- the cells as rows
  have hQ : phy (m1.B (3 + 3 * t + 1)) ((rw_ D t).length + 1) = phy (m.B (3 + 3 * t + 1)) (rw_ D t).length ++ [(phy (m1.B (3 + 3 * t + 1)) ((rw_ D t).length + 1)).getD (rw_ D t).length []] := by
    refine list_ext2 (by rw [List.length_append, phy_len, phy_len]; rfl) (fun i hi => ?_)
    rw [phy_len] at hi
    rw [getD_snoc2, phy_len]
    by_cases hin : i = (rw_ D t).length
    · rw [if_pos hin, hin]
    · rw [if_neg hin, phy_get hi, phy_get (by omega), h1, h1, h1, h1, if_neg (by omega), if_neg (by omega), if_neg (by omega), if_neg (by omega)]
  have hrows := rows_phy ht hD hI
  have hsort : (phy (m.B (3 + 3 * t + 1)) (rw_ D t).length).Pairwise (fun a b => key a < key b) := by
    have h7 := a7
    rw [hrows, List.pairwise_map] at h7
    refine h7.imp_of_mem (fun {a b} ha hb hab => ?_)
    have hk : ∀ z : List Int64, (z.take (wd D t)).getD 0 0 = key z := fun z => getD_take hw
    rw [hk, hk] at hab
    exact hab
  have hT : TBl ((m1.uF (3 + 3 * t) 3 (nI ((rw_ D t).length + 1))).B (3 + 3 * t + 1)) (phy (m1.B (3 + 3 * t + 1)) ((rw_ D t).length + 1)) := phy_TBl _ _
  refine c_37 hr (by rw [phy_len]; omega) (by rw [phy_len]; omega) (hL.fr f2) hT (fun m2 hT2 f3 => ⟨rfl, ?_⟩)
  have f4 : Fr [3 + 3 * t, 3 + 3 * t + 1] m m2 := f2.trans (f3.mono (fun c hc => List.mem_cons_of_mem _ hc))
  have hx : ((phy (m1.B (3 + 3 * t + 1)) ((rw_ D t).length + 1)).getD (rw_ D t).length []).take (wd D t) = v := by
    rw [phy_get (by omega)]
    refine list_ext ?_ (fun c hc => ?_)
    · rw [List.length_take, hv]
      show min (wd D t) 4 = _
      omega
    · rw [List.length_take] at hc
      have hcw : c < wd D t := by omega
      rw [getD_take hcw, ← h41 c hcw]
      have := h1 ((rw_ D t).length * 4 + c)
      rw [if_pos (by omega), Nat.add_sub_cancel_left] at this
      rw [← this]
      rcases (by omega : c = 0 ∨ c = 1 ∨ c = 2 ∨ c = 3) with rfl | rfl | rfl | rfl <;> rfl
  rw [hQ] at hT2
  have hs := snk_ins ((phy (m1.B (3 + 3 * t + 1)) ((rw_ D t).length + 1)).getD (rw_ D t).length []) (rw_ D t).length (phy (m.B (3 + 3 * t + 1)) (rw_ D t).length) [] (phy_len _ _) hsort
  rw [List.append_nil, List.append_nil] at hs
  rw [hs] at hT2
  refine k m2 (fun s hs3 => ?_) f4
  rw [updD_w, updD_r]
  have ex : ∀ c, ixd (updD D t (insK v (rw_ D t))) s c = ixd D s c := fun c => updD_x _ _ _ _ _
  by_cases hst : s = t
  · subst hst
    rw [if_pos rfl]
    refine ⟨?_, ?_, fun i hi c hc => ?_, fun c hc => ?_⟩
    · rw [f3.f (by simp), mF_F, if_neg (by simp), f1.f (by simp)]; exact d1
    · rw [f3.f (by simp), mF_F, if_pos ⟨rfl, rfl⟩, insK_len]
    · rw [insK_len] at hi
      have := hT2 i (by rw [insK_len, phy_len]; exact hi) c (by omega)
      rw [this]
      have em := insK_map hw ((phy (m1.B (3 + 3 * s + 1)) ((rw_ D s).length + 1)).getD (rw_ D s).length []) (phy (m.B (3 + 3 * s + 1)) (rw_ D s).length)
      rw [hx, ← hrows] at em
      unfold cl_
      rw [← em, getD_map _ _ i [] [] (by rw [insK_len, phy_len]; exact hi), getD_take hc]
    · rw [ex, f4.a (by simp)]; exact d4 c hc
  · rw [if_neg hst]
    obtain ⟨b1, b2, b3, b4⟩ := hD s hs3
    have n1 : 3 + 3 * s ∉ [3 + 3 * t, 3 + 3 * t + 1] := by simp; omega
    have n2 : 3 + 3 * s + 1 ∉ [3 + 3 * t, 3 + 3 * t + 1] := by simp; omega
    have n3 : 3 + 3 * s + 2 ∉ [3 + 3 * t, 3 + 3 * t + 1] := by simp; omega
    refine ⟨?_, ?_, ?_, fun c hc => ?_⟩
    · rw [f4.f n1]; exact b1
    · rw [f4.f n1]; exact b2
    · rw [f4.b n2]; exact b3
    · rw [ex, f4.a n3]; exact b4 c hc
end I73
