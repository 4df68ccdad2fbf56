/-! THE REFERENCE: statement() -/
def chk (x : Option St) : Option St := match x with | some s => if hd s.1.1 = 0 then some s else none | none => none
def EQ (m0 : Mm) (N : Nat) (v : Int32) (K : Option Value → Mm → Prop) (x : Option St) : Prop := match x with
  | some e => ∀ m' nm, 0 < nm → Rs m' N e nm 1 → m'.F 42 17 = v → Fq (17 :: GS) SS m0 m' → K none m'
  | none => ∀ m', m'.F 42 6 = nI 1 → Fq (17 :: GS) SS m0 m' → K none m'
section R56
variable {d N b : Nat} {m m0 m1 : Mm} {K : Option Value → Mm → Prop} {s : St} {nm w : Nat} {v : Int32}
theorem tv_pos {t : Tk} (h : tv t) : t.1 ≠ 0 := by
  rcases h with z | z | z | z | z
  · omega
  · omega
  · omega
  · omega
  · rw [isS_iff] at z; omega
theorem Rs.w1 (h : Rs m N s nm w) : Rs m N s nm 1 := by
  obtain ⟨hL, hT, hC, hP, hS, h6, h15, hw, hb1, hb2⟩ := h
  exact ⟨hL, hT, hC, hP, hS, h6, h15, fun z => by omega, hb1, hb2⟩
theorem l300 (hX : Rs m N s nm w) (hnm : 0 < nm) (h17 : m.F 42 17 = v) (f : Fq (17 :: GS) SS m0 m) (k : EQ m0 N v K (chk (some s))) : WH d 162 300 [(0, .ref 42)] [] m K := by
  have h6 : m.F 42 6 = nI 0 := hX.2.2.2.2.2.1
  have hT := hX.2.1
  have hN := hT.2.2.2.1
  have hq := hT.2.2.1
  refine sg_162_300 ?_
  rw [if_pos h6]
  simp (disch := omega) only [hT.1, hT.2.1, nIeq]
  cases hs : s.1.1 with
  | nil =>
    rw [if_pos (by rw [List.length_nil]; omega), uF_eq h6]
    unfold chk at k
    dsimp only at k
    rw [if_pos (by rw [hs]; rfl)] at k
    exact k m nm hnm hX.w1 h17 f
  | cons t r =>
    rw [hs] at hT hq
    rw [List.length_cons] at hq
    rw [if_neg (by rw [List.length_cons]; omega)]
    unfold chk at k
    dsimp only at k
    rw [if_neg (by rw [hs]; exact tv_pos hT.hd0.2.2)] at k
    exact k _ rfl (Fq.uF f (by decide) _)
theorem l300b (h6 : m.F 42 6 = nI 1) (f : Fq (17 :: GS) SS m0 m) (k : EQ m0 N v K none) : WH d 162 300 [(0, .ref 42)] [] m K := by
  refine sg_162_300 ?_
  rw [if_neg (by rw [h6]; decide), uF_eq h6]
  exact k m h6 f
theorem fGS (f : Fq (17 :: GS) SS m0 m) (g : Fq GS SS m m1) : Fq (17 :: GS) SS m0 m1 := f.trans (g.mono (by decide) (by decide))
theorem verb_iff {t : Tk} {x : Int32} (hv : tv t) (h1 : eK t = 1) (hx : wr t x) {k : Nat} (hk : 4 ≤ k) (hk2 : k ≤ 18) : (x = nI (wc k)) = (t.1 = k) := by
  have hb := wc_big hk hk2
  have h19 : t.1 ≤ 19 ∧ 3 ≤ t.1 := by
    unfold eK at h1
    by_cases z1 : t.1 = 1
    · rw [if_pos z1] at h1; omega
    · rw [if_neg z1] at h1
      by_cases z2 : t.1 = 2
      · rw [if_pos z2] at h1; omega
      · rw [if_neg z2] at h1
        by_cases z3 : t.1 ≤ 19
        · exact ⟨z3, by have := tv_pos hv; omega⟩
        · rw [if_neg z3] at h1; omega
  unfold wr at hx
  by_cases e19 : t.1 = 19
  · rw [if_pos e19] at hx
    exact propext ⟨fun z => absurd z (hx.2 k hk hk2), fun z => by omega⟩
  · rw [if_neg e19] at hx
    have hlt := eW_lt hv e19
    rw [hx, nIeq hlt hb.2]
    by_cases h3 : t.1 = 3
    · have e5 : eW t = t.2 + 1 := by
        unfold eW
        rw [if_neg (by omega), if_pos h3]
      have ht := tv_col hv h3
      exact propext ⟨fun z => by omega, fun z => by omega⟩
    · have e5 : eW t = wc t.1 := by
        unfold eW
        rw [if_neg (by omega), if_neg h3, if_pos (by omega)]
      rw [e5]
      exact propext ⟨fun z => wc_inj (by omega) (by omega) hk hk2 z, fun z => by rw [z]⟩
theorem RS.set21 {c : Sc} (h : RS m c nm) {x : Nat} : RS (m.uF 42 21 (nI x)) (upS c 8 x) nm := by
  obtain ⟨z1, z2, z3, z4, z5, z6, z7, z8, z9, z10, z11, z12, z13, z14⟩ := h
  exact ⟨z1, z2, z3, z4, z5, rfl, z7, z8, z9, z10, z11, z12, z13, z14⟩
theorem RS.set20 {c : Sc} (h : RS m c nm) {x : Nat} : RS (m.uF 42 20 (nI x)) (upS c 7 x) nm := by
  obtain ⟨z1, z2, z3, z4, z5, z6, z7, z8, z9, z10, z11, z12, z13, z14⟩ := h
  exact ⟨z1, z2, z3, z4, rfl, z6, z7, z8, z9, z10, z11, z12, z13, z14⟩
theorem sSet_hit {k f : Nat} {g : Nat → Nat} {t : Tk} {r : List Tk} (e : s.1.1 = t :: r) (et : t.1 = k) : sSet k f g s = some ((r, s.1.2), upS s.2 f (g t.2)) := by
  unfold sSet
  rw [e]
  exact if_pos et
theorem sSet_no {k f : Nat} {g : Nat → Nat} (h : hd s.1.1 ≠ k) : sSet k f g s = none := by
  unfold sSet
  cases e : s.1.1 with
  | nil => rfl
  | cons t r =>
    rw [e] at h
    exact if_neg h
/-- the column's number -/
theorem c_144s (hX : Rs m N s nm w)
    (k1 : ∀ e, sSet 3 7 idN s = some e → ∀ m' x, Rs (m'.uF 42 20 x) N e nm w → e.1.1.length < s.1.1.length → m'.F 42 6 = nI 0 → Fq [5, 6] [] m m' → K (some (.int x)) m')
    (k2 : sSet 3 7 idN s = none → ∀ m' x, RBd m N m' → m'.F 42 6 = nI 1 → Fq [5, 6] [] m m' → K (some (.int x)) m') : WP (d + 1) 144 [.ref 42] m K := by
  obtain ⟨hL, hT, hC, hP, hS, h6, h15, hw, hb1, hb2⟩ := hX
  refine c_takeCol (b := 0) (Or.inl rfl) hL hT h6 (fun _ t r e et m' a1 a2 a3 => ?_) (fun z m' x q' a1 a2 a3 => ?_)
  · refine k1 _ (sSet_hit e et) m' _ ?_ (by rw [e, List.length_cons]; exact Nat.lt_succ_self _) a2 a3
    have f1 : Fq [20] [] m' (m'.uF 42 20 (nI t.2)) := Fq.uF (Fq.refl _ _ _) (by decide) _
    rw [e] at hb1 hb2
    simp only [List.length_cons] at hb1 hb2
    refine ⟨(hL.fq a3).fq f1, a1.fq f1 (by decide) (by decide) (by decide) (by decide), (hC.fq a3 (by decide) (by decide) (by decide)).fq f1 (by decide) (by decide) (by decide), (hP.fq a3 (by decide) (by decide) (by decide) (by decide)).fq f1 (by decide) (by decide) (by decide) (by decide), (hS.fq a3 (by decide) (by decide)).set20, a2, ?_, ?_, by dsimp only; omega, by show s.2.2.length + r.length ≤ N; omega⟩
    · rw [f1.f (by decide), a3.f (by decide)]; exact h15
    · intro h
      obtain ⟨z1, z2, z3, z4⟩ := hw h
      exact ⟨by rw [f1.f (by decide), a3.f (by decide)]; exact z1, by rw [f1.f (by decide), a3.f (by decide)]; exact z2, z3, z4⟩
  · exact k2 (sSet_no (z rfl)) m' x ⟨a3.mono (by decide) (by decide), a2, q', a1⟩ a2 a3
/-- behind a bad name -/
theorem c_144b (hL : Len m) (hB : RBd m0 N m) (k : ∀ m' x, RBd m0 N m' → K (some (.int x)) m') : WP (d + 1) 144 [.ref 42] m K := by
  obtain ⟨f0, h6, q, hT⟩ := hB
  refine c_takeCol (b := 1) (Or.inr rfl) hL hT h6 (fun z => by omega) (fun z m' x q' a1 a2 a3 => ?_)
  exact k m' x ⟨f0.trans (a3.mono (by decide) (by decide)), a2, q', a1⟩
theorem c_143b {y : Nat} (hy : 0 < y) (hy2 : y < 100) (hL : Len m) (hB : RBd m0 N m) (k : ∀ m' x, RBd m0 N m' → K (some (.int x)) m') : WP d 143 [.ref 42, .int (nI y)] m K := by
  obtain ⟨f0, h6, q, hT⟩ := hB
  exact c_take hy hy2 (Or.inr rfl) hL hT h6 (fun t r e e1 m' x a1 a2 a3 a4 => k m' x ⟨f0.trans (a4.mono (by decide) (by decide)), a3, r, a2⟩) (fun z m' a1 a2 a3 => k m' _ ⟨f0.trans (a3.mono (by decide) (by decide)), a2, q, a1⟩)
theorem Rs.len (h : Rs m N s nm w) : s.1.1.length ≤ 80 := by
  have h1 := h.2.1.2.2.1
  have h2 := h.2.1.2.2.2.1
  omega
theorem b17 (hX : Rs m N s 0 0) (h17 : m.F 42 17 = v) (f : Fq (17 :: GS) SS m0 m) (g : Fq GS SS m m1) : m1.F 42 17 = v := by rw [g.f (by decide)]; exact h17
theorem l_create (hX : Rs m N s 0 0) (h17 : m.F 42 17 = v) (f : Fq (17 :: GS) SS m0 m) (k : EQ m0 N v K (chk (bnd (sSet 1 5 idN s) (sSet 2 8 idN)))) : WP (d + 1) 159 [.ref 42] m (fun v m85 => v = none ∧ WP (d + 1) 143 [.ref 42, .int (nI 3)] m85 (fun v m86 => ∃ w87, v = some (.int w87) ∧ WH (d + 2) 162 300 [(0, .ref 42)] [] (m86.uF 42 21 w87) K)) := by
  refine c_159 hX (by decide) (fun t r eq et m1 x1 f1 => ⟨rfl, ?_⟩) (fun z m1 b1 _ _ => ⟨rfl, ?_⟩)
  · rw [sSet_hit eq et] at k
    have x1 : Rs m1 N ((r, s.1.2), upS s.2 5 (idN t.2)) 1 0 := x1
    have k : EQ m0 N v K (chk (sSet 2 8 idN ((r, s.1.2), upS s.2 5 (idN t.2)))) := k
    have g17 := b17 hX h17 f f1
    obtain ⟨hL, hT, hC, hP, hS, h6, h15, hw, hb1, hb2⟩ := x1
    refine c_take (by decide) (by decide) (Or.inl rfl) hL hT h6 (fun t2 r2 e2 e3 m' x b1 b2 b3 b4 => ⟨_, rfl, ?_⟩) (fun z m' b1 b2 b3 => ⟨_, rfl, ?_⟩)
    · have et2 := eK_num e3
      have ex : x = nI t2.2 := by
        unfold wr at b1
        rw [if_neg (by omega)] at b1
        rw [b1]
        unfold eW
        rw [if_pos (Or.inr et2)]
      rw [sSet_hit e2 et2] at k
      rw [ex]
      have f3 : Fq [21] [] m' (m'.uF 42 21 (nI t2.2)) := Fq.uF (Fq.refl _ _ _) (by decide) _
      have f4 : Fq [5, 6, 21] [] m1 (m'.uF 42 21 (nI t2.2)) := (b4.mono (by decide) (by decide)).trans (f3.mono (by decide) (by decide))
      rw [e2] at hb1 hb2
      simp only [List.length_cons] at hb1 hb2
      refine l300 (s := ((r2, s.1.2), upS (upS s.2 5 (idN t.2)) 8 (idN t2.2))) (nm := 1) (w := 1) ⟨hL.fq f4, b2.fq f3 (by decide) (by decide) (by decide) (by decide), hC.fq f4 (by decide) (by decide) (by decide), hP.fq f4 (by decide) (by decide) (by decide) (by decide), (hS.fq b4 (by decide) (by decide)).set21, b3, ?_, fun z => by omega, ?_, ?_⟩ (by decide) ?_ ?_ k
      · rw [f4.f (by decide)]; exact h15
      · show s.1.2.1.length + r2.length ≤ N
        omega
      · show s.2.2.length + r2.length ≤ N
        have hb2 : s.2.2.length + (r2.length + 1) ≤ N := hb2
        omega
      · rw [f4.f (by decide)]; exact g17
      · exact (fGS f f1).trans (f4.mono (by decide) (by decide))
    · rw [sSet_no (kh_ne z (fun t ht => by unfold eK; rw [if_neg (by omega), if_pos ht]) (by decide))] at k
      refine l300b b2 ?_ k
      exact Fq.uF ((fGS f f1).trans (b3.mono (by decide) (by decide))) (by decide) _
  · rw [sSet_no z] at k
    refine c_143b (by decide) (by decide) (hX.1.fq b1.1) b1 (fun m2 x b2 => ⟨_, rfl, ?_⟩)
    exact l300b b2.2.1 (Fq.uF (fGS f b2.1) (by decide) _) k
theorem l_index (hX : Rs m N s 0 0) (h17 : m.F 42 17 = v) (f : Fq (17 :: GS) SS m0 m) (k : EQ m0 N v K (chk (bnd (sSet 1 5 idN s) (sSet 3 7 idN)))) : WP (d + 1) 159 [.ref 42] m (fun v m82 => v = none ∧ WP (d + 1) 144 [.ref 42] m82 (fun v m83 => ∃ w84, v = some (.int w84) ∧ WH (d + 2) 162 300 [(0, .ref 42)] [] (m83.uF 42 20 w84) K)) := by
  refine c_159 hX (by decide) (fun t r eq et m1 x1 f1 => ⟨rfl, ?_⟩) (fun z m1 b1 _ _ => ⟨rfl, ?_⟩)
  · rw [sSet_hit eq et] at k
    have x1 : Rs m1 N ((r, s.1.2), upS s.2 5 (idN t.2)) 1 0 := x1
    have k : EQ m0 N v K (chk (sSet 3 7 idN ((r, s.1.2), upS s.2 5 (idN t.2)))) := k
    have g17 := b17 hX h17 f f1
    refine c_144s x1 (fun e e1 m2 x x2 _ a6 f2 => ⟨_, rfl, ?_⟩) (fun e1 m2 x b2 a6 f2 => ⟨_, rfl, ?_⟩)
    · rw [e1] at k
      refine l300 x2 (by decide) ?_ (Fq.uF ((fGS f f1).trans (f2.mono (by decide) (by decide))) (by decide) _) k
      show m2.F 42 17 = v
      rw [f2.f (by decide)]; exact g17
    · rw [e1] at k
      exact l300b a6 (Fq.uF ((fGS f f1).trans (f2.mono (by decide) (by decide))) (by decide) _) k
  · rw [sSet_no z] at k
    refine c_144b (hX.1.fq b1.1) b1 (fun m2 x b2 => ⟨_, rfl, ?_⟩)
    exact l300b b2.2.1 (Fq.uF (fGS f b2.1) (by decide) _) k
theorem l_insert (hX : Rs m N s 0 0) (hs1 : s.1.2.1 = []) (hs2 : s.2.2 = []) (h17 : m.F 42 17 = v) (f : Fq (17 :: GS) SS m0 m) (k : EQ m0 N v K (chk (bnd (sSet 1 5 idN s) (sList 80)))) : WP (d + 6) 159 [.ref 42] m (fun v m80 => v = none ∧ WP (d + 6) 158 [.ref 42] m80 (fun v m81 => v = none ∧ WH (d + 7) 162 133 [(0, .ref 42)] [] m81 K)) := by
  have h22 : m.F 42 22 = nI 0 := by rw [hX.2.2.2.2.1.2.2.2.2.2.2.1, hs2]; rfl
  have hlen := hX.len
  refine c_159 hX (by decide) (fun t r eq et m1 x1 f1 => ⟨rfl, ?_⟩) (fun z m1 b1 _ g22 => ⟨rfl, ?_⟩)
  · rw [sSet_hit eq et] at k
    have x1 : Rs m1 N ((r, s.1.2), upS s.2 5 (idN t.2)) 1 0 := x1
    have k : EQ m0 N v K (chk (sList 80 ((r, s.1.2), upS s.2 5 (idN t.2)))) := k
    have g17 := b17 hX h17 f f1
    have es : ∀ x, sItem ((r, s.1.2), upS s.2 5 (idN t.2)) = x → sList 80 ((r, s.1.2), upS s.2 5 (idN t.2)) = (match x with | some e => if hd e.1.1 = 44 then sList 79 ((e.1.1.tail, e.1.2), e.2) else some e | none => none) := by
      intro x hx
      subst hx
      rfl
    have hE : atE ((r, s.1.2), upS s.2 5 (idN t.2)) := by
      show s.1.2.1.length = tmF _ s.2.2.length
      rw [hs1, hs2]; rfl
    rw [eq, List.length_cons] at hlen
    refine c_158 x1 hE (fun e e1 m2 x2 hE2 hlt f2 => ⟨rfl, ?_⟩) (fun e1 m2 b2 _ => ⟨rfl, ?_⟩)
    · have es2 := es _ e1
      dsimp only at es2 hlt
      rw [es2] at k
      refine lp_list (d := d) (m0 := m) (Loop := fun m => WH (d + 7) 162 133 [(0, .ref 42)] [] m K) (Out := fun m => WH (d + 7) 162 300 [(0, .ref 42)] [] m K) (fun m h => sg_162_133 h) 79 e m2 (by omega) x2 hE2 (f1.trans f2) (fun e2 h2 m3 x3 f3 => ?_) (fun h2 m3 b3 => ?_)
      · rw [h2] at k
        exact l300 x3 (by decide) (b17 hX h17 f f3) (fGS f f3) k
      · rw [h2] at k
        exact l300b b3.2.1 (fGS f b3.1) k
    · rw [es _ e1] at k
      refine sg_162_133 ?_
      rw [if_neg b2.b6]
      exact l300b b2.2.1 (fGS (fGS f f1) b2.1) k
  · rw [sSet_no z] at k
    refine c_158b (t := 0) (hX.1.fq b1.1) b1.2.1 (by rw [g22]; exact h22) (by decide) (fun m2 f2 => ⟨rfl, ?_⟩)
    have g6 : m2.F 42 6 = nI 1 := by rw [f2.f (by decide)]; exact b1.2.1
    refine sg_162_133 ?_
    rw [if_neg (by rw [g6]; decide)]
    exact l300b g6 ((fGS f b1.1).trans (f2.mono (by decide) (by decide))) k
theorem l_delete (hX : Rs m N s 0 0) (h17 : m.F 42 17 = v) (f : Fq (17 :: GS) SS m0 m) (k : EQ m0 N v K (chk (bnd (sSet 1 5 idN s) sWhere))) : WP (d + 8) 159 [.ref 42] m (fun v m65 => v = none ∧ WP (d + 8) 161 [.ref 42] m65 (fun v m66 => v = none ∧ WH (d + 9) 162 300 [(0, .ref 42)] [] m66 K)) := by
  refine c_159 hX (by decide) (fun t r eq et m1 x1 f1 => ⟨rfl, ?_⟩) (fun z m1 b1 _ _ => ⟨rfl, ?_⟩)
  · rw [sSet_hit eq et] at k
    have x1 : Rs m1 N ((r, s.1.2), upS s.2 5 (idN t.2)) 1 0 := x1
    have k : EQ m0 N v K (chk (sWhere ((r, s.1.2), upS s.2 5 (idN t.2)))) := k
    refine c_161 x1 (fun e e1 m2 x2 f2 => ⟨rfl, ?_⟩) (fun e1 m2 b2 => ⟨rfl, ?_⟩)
    · rw [e1] at k
      exact l300 x2 (by decide) (b17 hX h17 f (f1.trans f2)) (fGS f (f1.trans f2)) k
    · rw [e1] at k
      exact l300b b2.2.1 (fGS f (f1.trans b2.1)) k
  · rw [sSet_no z] at k
    refine c_161b b1.2.1 ⟨rfl, ?_⟩
    exact l300b b1.2.1 (fGS f b1.1) k
theorem l_226b (hX : Rs m N s 0 0) (h17 : m.F 42 17 = v) (f : Fq (17 :: GS) SS m0 m) {m2 : Mm} (h6 : m2.F 42 6 = nI 1) (g : Fq GS SS m m2) (k : EQ m0 N v K none) : WH (d + 2) 162 226 [(0, .ref 42)] [] m2 K := by
  refine sg_162_226 ?_
  refine c_161b h6 ⟨rfl, ?_⟩
  exact l300b h6 (fGS f g) k
theorem l_update (hX : Rs m N s 0 0) (hs1 : s.1.2.1 = []) (hs2 : s.2.2 = []) (h17 : m.F 42 17 = v) (f : Fq (17 :: GS) SS m0 m) (k : EQ m0 N v K (chk (bnd (sSet 1 5 idN s) (fun s => bnd (sSet 3 7 idN s) (fun s => bnd (sTok 61 s) (fun s => bnd (sItem s) sWhere)))))) : WP (d + 8) 159 [.ref 42] m (fun v m67 => v = none ∧ WP (d + 8) 144 [.ref 42] m67 (fun v m68 => ∃ w69, v = some (.int w69) ∧ (if (m68.F 42 6) = (nI 0) then WP (d + 8) 141 [.ref 42, .int (nI 61)] (m68.uF 42 20 w69) (fun v m73 => ∃ w74, v = some (.int w74) ∧ (if w74 = (nI 0) then (if (nI 1) = (nI 0) then WP (d + 8) 158 [.ref 42] (m73.uF 42 6 (nI 1)) (fun v m79 => v = none ∧ WH (d + 8 + 1) 162 226 [(0, .ref 42)] [] m79 K) else WH (d + 8 + 1) 162 226 [(0, .ref 42)] [] (m73.uF 42 6 (nI 1)) K) else (if (nI 0) = (nI 0) then WP (d + 8) 158 [.ref 42] (m73.uF 42 6 (nI 0)) (fun v m77 => v = none ∧ WH (d + 8 + 1) 162 226 [(0, .ref 42)] [] m77 K) else WH (d + 8 + 1) 162 226 [(0, .ref 42)] [] (m73.uF 42 6 (nI 0)) K))) else (if (nI 1) = (nI 0) then WP (d + 8) 158 [.ref 42] ((m68.uF 42 20 w69).uF 42 6 (nI 1)) (fun v m72 => v = none ∧ WH (d + 8 + 1) 162 226 [(0, .ref 42)] [] m72 K) else WH (d + 8 + 1) 162 226 [(0, .ref 42)] [] ((m68.uF 42 20 w69).uF 42 6 (nI 1)) K)))) := by
  refine c_159 hX (by decide) (fun t r eq et m1 x1 f1 => ⟨rfl, ?_⟩) (fun z m1 b1 _ _ => ⟨rfl, ?_⟩)
  · rw [sSet_hit eq et] at k
    have x1 : Rs m1 N ((r, s.1.2), upS s.2 5 (idN t.2)) 1 0 := x1
    have k : EQ m0 N v K (chk (bnd (sSet 3 7 idN ((r, s.1.2), upS s.2 5 (idN t.2))) (fun s => bnd (sTok 61 s) (fun s => bnd (sItem s) sWhere)))) := k
    refine c_144s x1 (fun e e1 m2 x x2 _ a6 f2 => ⟨_, rfl, ?_⟩) (fun e1 m2 x b2 a6 f2 => ⟨_, rfl, ?_⟩)
    · have e1' := e1
      rw [e1] at k
      have k : EQ m0 N v K (chk (bnd (sTok 61 e) (fun s => bnd (sItem s) sWhere))) := k
      rw [if_pos a6]
      have f3 : Fq GS SS m (m2.uF 42 20 x) := Fq.uF (f1.trans (f2.mono (by decide) (by decide))) (by decide) _
      have ee : e.1.2 = s.1.2 ∧ e.2.2 = s.2.2 := by
        unfold sSet at e1'
        split at e1'
        · split at e1'
          · cases e1'; exact ⟨rfl, rfl⟩
          · cases e1'
        · cases e1'
      refine c_takeSign (c := 61) rfl x2.1 x2.2.1 (fun t3 r3 eq3 et3 m3 a3 f4 => ⟨_, rfl, ?_⟩) (fun z => ⟨_, rfl, ?_⟩)
      · rw [if_neg (by decide), if_pos rfl]
        have et61 : sTok 61 e = some ((r3, e.1.2), e.2) := by
          unfold sTok
          rw [if_pos (by rw [eq3]; exact et3), eq3]; rfl
        rw [et61] at k
        have k : EQ m0 N v K (chk (bnd (sItem ((r3, e.1.2), e.2)) sWhere)) := k
        have x3 := x2.at eq3 f4 a3
        have g6 : m3.F 42 6 = nI 0 := x3.2.2.2.2.2.1
        rw [uF_eq g6]
        have f5 : Fq GS SS m m3 := f3.trans (f4.mono (by decide) (by decide))
        have hE : atE ((r3, e.1.2), e.2) := by
          show e.1.2.1.length = tmF _ e.2.2.length
          rw [ee.1, ee.2, hs1, hs2]; rfl
        refine c_158 x3 hE (fun e4 e5 m4 x4 hE4 hlt f6 => ⟨rfl, ?_⟩) (fun e5 m4 b4 _ => ⟨rfl, ?_⟩)
        · rw [e5] at k
          have k : EQ m0 N v K (chk (sWhere e4)) := k
          refine sg_162_226 ?_
          refine c_161 x4 (fun e6 e7 m5 x5 f7 => ⟨rfl, ?_⟩) (fun e7 m5 b5 => ⟨rfl, ?_⟩)
          · rw [e7] at k
            exact l300 x5 (by decide) (b17 hX h17 f ((f5.trans f6).trans f7)) (fGS f ((f5.trans f6).trans f7)) k
          · rw [e7] at k
            exact l300b b5.2.1 (fGS f ((f5.trans f6).trans b5.1)) k
        · rw [e5] at k
          exact l_226b hX h17 f b4.2.1 (f5.trans b4.1) k
      · rw [if_pos rfl, if_neg (by decide)]
        have et61 : sTok 61 e = none := by
          unfold sTok
          rw [if_neg z]
        rw [et61] at k
        exact l_226b hX h17 f rfl (Fq.uF f3 (by decide) _) k
    · rw [e1] at k
      rw [if_neg (by rw [a6]; decide), if_neg (by decide)]
      exact l_226b hX h17 f rfl (Fq.uF (Fq.uF (f1.trans (f2.mono (by decide) (by decide))) (by decide) _) (by decide) _) k
  · rw [sSet_no z] at k
    refine c_144b (hX.1.fq b1.1) b1 (fun m2 x b2 => ⟨_, rfl, ?_⟩)
    rw [if_neg b2.b6, if_neg (by decide)]
    exact l_226b hX h17 f rfl (Fq.uF (Fq.uF b2.1 (by decide) _) (by decide) _) k
theorem l_select (hX : Rs m N s 0 0) (hs1 : s.1.2.1 = []) (hs2 : s.2.2 = []) (h17 : m.F 42 17 = v) (f : Fq (17 :: GS) SS m0 m) (k : EQ m0 N v K (chk (bnd (sList 80 s) sSel2))) : WP (d + 9) 163 [.ref 42] m (fun v m64 => v = none ∧ WH (d + 10) 162 300 [(0, .ref 42)] [] m64 K) := by
  have hE : atE s := by
    show s.1.2.1.length = tmF _ s.2.2.length
    rw [hs1, hs2]; rfl
  refine c_163 (m0 := m) hX hE hX.len (Fq.refl _ _ _) ?_
  cases hx : bnd (sList 80 s) sSel2 with
  | none =>
    rw [hx] at k
    exact fun m' b => ⟨rfl, l300b b.2.1 (fGS f b.1) k⟩
  | some e =>
    rw [hx] at k
    exact fun m' nm hnm x g => ⟨rfl, l300 x hnm (b17 hX h17 f g) (fGS f g) k⟩
end R56
