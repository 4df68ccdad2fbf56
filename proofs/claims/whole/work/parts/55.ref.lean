/-! THE REFERENCE: selection() -/
def FP (m0 : Mm) (N : Nat) (K : Option Value → Mm → Prop) (x : Option St) : Prop := match x with
  | some e => ∀ m' nm, 0 < nm → Rs m' N e nm 1 → Fq GS SS m0 m' → K none m'
  | none => ∀ m', RBd m0 N m' → K none m'
theorem dj_sub {G S T : List Nat} (h : dj G T = true) (hs : ∀ x ∈ S, x ∈ T) : dj G S = true := by
  unfold dj at h ⊢
  rw [List.all_eq_true] at h ⊢
  intro x hx
  have h1 := h x hx
  cases hc : S.contains x with
  | false => rfl
  | true =>
    have h2 : T.contains x = true := List.contains_iff_mem.mpr (hs x (List.contains_iff_mem.mp hc))
    rw [h2] at h1
    exact absurd h1 (by decide)
theorem uF_eq {m : Mm} {c f : Nat} {v : Int32} (h : m.F c f = v) : m.uF c f v = m := by
  subst h; exact uF_id _ _ _
section R55
variable {d N b : Nat} {m m0 m1 : Mm} {K : Option Value → Mm → Prop} {s : St} {nm w : Nat}
theorem FP.bad (h : FP m0 N K none) {m : Mm} (k : RBd m0 N m) : K none m := h m k
theorem RBd.uF (h : RBd m0 N m) {f : Nat} (hf : f ∈ GS) (h5 : f ≠ 5) (h2 : f ≠ 2) (h6 : f ≠ 6) (v : Int32) : RBd m0 N (m.uF 42 f v) := by
  obtain ⟨f0, g6, q, hT⟩ := h
  refine ⟨Fq.uF f0 hf _, ?_, q, hT.fq (Fq.uF (Fq.refl [f] [] m) (List.mem_singleton.mpr rfl) _) ?_ ?_ (by decide) (by decide)⟩
  · rw [mF_F, if_neg (fun z => h6 z.2.symm)]; exact g6
  · intro z; exact h5 (List.mem_singleton.mp z).symm
  · intro z; exact h2 (List.mem_singleton.mp z).symm
theorem RBd.b6 (h : RBd m0 N m) : ¬ m.F 42 6 = nI 0 := by rw [h.2.1]; decide
theorem RBd.of (f : Fq GS SS m0 m) (h : RBd m N m1) : RBd m0 N m1 := ⟨f.trans h.1, h.2⟩
theorem Rs.fq {G S : List Nat} (h : Rs m N s nm w) (k : Fq G S m m1) (h1 : dj G (2 :: 5 :: 6 :: 7 :: 13 :: 15 :: 33 :: 34 :: GR) = true) (h2 : dj (42 :: S) [44, 45, 46, 47, 50, 51, 52, 53, 54, 55] = true) : Rs m1 N s nm w := by
  obtain ⟨hL, hT, hC, hP, hS, h6, h15, hw, hb1, hb2⟩ := h
  have F : ∀ f, f ∈ (2 :: 5 :: 6 :: 7 :: 13 :: 15 :: 33 :: 34 :: GR) → f ∉ G := fun f hf => dj_no h1 hf
  have A : ∀ c, c ∈ [44, 45, 46, 47, 50, 51, 52, 53, 54, 55] → c ∉ (42 :: S) := fun f hf => dj_no h2 hf
  have d1 : dj G GR = true := dj_sub h1 (by decide)
  have d2 : dj (42 :: S) [50, 51, 52] = true := dj_sub h2 (by decide)
  refine ⟨hL.fq k, hT.fq k (F 5 (by decide)) (F 2 (by decide)) (A 44 (by decide)) (A 45 (by decide)), hC.fq k (F 7 (by decide)) (A 46 (by decide)) (A 47 (by decide)), hP.fq k (F 33 (by decide)) (A 53 (by decide)) (A 54 (by decide)) (A 55 (by decide)), hS.fq k d1 d2, ?_, ?_, ?_, hb1, hb2⟩
  · rw [k.f (F 6 (by decide))]; exact h6
  · rw [k.f (F 15 (by decide))]; exact h15
  · rw [k.f (F 13 (by decide)), k.f (F 34 (by decide))]; exact hw
/-- the tokens move on -/
theorem Rs.at {r : List Tk} {t : Tk} (h : Rs m N s nm w) (e : s.1.1 = t :: r) (k : Fq [5] [] m m1) (hT1 : RT m1 N r) : Rs m1 N ((r, s.1.2), s.2) nm w := by
  obtain ⟨hL, hT, hC, hP, hS, h6, h15, hw, hb1, hb2⟩ := h
  rw [e] at hb1 hb2
  simp only [List.length_cons] at hb1 hb2
  refine ⟨hL.fq k, hT1, hC.fq k (by decide) (by decide) (by decide), hP.fq k (by decide) (by decide) (by decide) (by decide), hS.fq k (by decide) (by decide), ?_, ?_, ?_, by dsimp only; omega, by dsimp only; omega⟩
  · rw [k.f (by decide)]; exact h6
  · rw [k.f (by decide)]; exact h15
  · rw [k.f (by decide), k.f (by decide)]; exact hw
/-- the list goes on while a comma stands -/
theorem lp_list {Loop Out : Mm → Prop} (H : ∀ m, (if (m.F 42 6) = (nI 0) then WP (d + 6) 141 [.ref 42, .int (nI 44)] m (fun v m2 => ∃ w3, v = some (.int w3) ∧ (if w3 = (nI 0) then Out m2 else WP (d + 6) 158 [.ref 42] m2 (fun v m5 => v = none ∧ Loop m5))) else Out m) → Loop m) : ∀ (n : Nat) (e : St) (m : Mm), e.1.1.length ≤ n → Rs m N e nm w → atE e → Fq GS SS m0 m → (∀ e', (if hd e.1.1 = 44 then sList n ((e.1.1.tail, e.1.2), e.2) else some e) = some e' → ∀ m', Rs m' N e' nm w → Fq GS SS m0 m' → Out m') → ((if hd e.1.1 = 44 then sList n ((e.1.1.tail, e.1.2), e.2) else some e) = none → ∀ m', RBd m0 N m' → Out m') → Loop m := by
  intro n
  induction n with
  | zero =>
    intro e m hn hX hE f k1 k2
    have en : e.1.1 = [] := List.length_eq_zero_iff.mp (by omega)
    have h6 : m.F 42 6 = nI 0 := hX.2.2.2.2.2.1
    have hne : hd e.1.1 ≠ 44 := by rw [en]; decide
    rw [if_neg hne] at k1
    refine H m ?_
    rw [if_pos h6]
    refine c_takeSign (c := 44) rfl hX.1 hX.2.1 (fun t r eq et => by rw [en] at eq; cases eq) (fun z => ⟨_, rfl, ?_⟩)
    rw [if_pos rfl]
    exact k1 e rfl m hX f
  | succ n ih =>
    intro e m hn hX hE f k1 k2
    have h6 : m.F 42 6 = nI 0 := hX.2.2.2.2.2.1
    refine H m ?_
    rw [if_pos h6]
    refine c_takeSign (c := 44) rfl hX.1 hX.2.1 (fun t r eq et m1 a1 f1 => ⟨_, rfl, ?_⟩) (fun z => ⟨_, rfl, ?_⟩)
    · rw [if_neg (by decide)]
      have h44 : hd e.1.1 = 44 := by rw [eq]; exact et
      rw [if_pos h44] at k1 k2
      have et1 : e.1.1.tail = r := by rw [eq]; rfl
      rw [et1] at k1 k2
      rw [eq, List.length_cons] at hn
      have f2 : Fq GS SS m0 m1 := f.trans (f1.mono (by decide) (by decide))
      have es : ∀ x, sItem ((r, e.1.2), e.2) = x → sList (n + 1) ((r, e.1.2), e.2) = (match x with | some e => if hd e.1.1 = 44 then sList n ((e.1.1.tail, e.1.2), e.2) else some e | none => none) := by
        intro x hx
        subst hx
        rfl
      refine c_158 (s := ((r, e.1.2), e.2)) (hX.at eq f1 a1) hE (fun e2 h2 m2 x2 hE2 hlt f3 => ⟨rfl, ?_⟩) (fun h2 m2 b2 _ => ⟨rfl, ?_⟩)
      · rw [es _ h2] at k1 k2
        dsimp only at k1 k2 hlt
        exact ih e2 m2 (by omega) x2 hE2 (f2.trans f3) k1 k2
      · rw [es _ h2] at k2
        have b3 := RBd.of f2 b2
        refine H m2 ?_
        rw [if_neg b3.b6]
        exact k2 rfl m2 b3
    · rw [if_pos rfl]
      rw [if_neg z] at k1
      exact k1 e rfl m hX f
theorem l189b (hB : RBd m0 N m) (k : FP m0 N K none) : WH (d + 1) 163 189 [(0, .ref 42)] [] m K := by
  refine sg_163_189 ?_
  rw [if_neg hB.b6]
  exact sg_163_226 (k.bad hB)
theorem RS.set32 {c : Sc} (h : RS m c nm) {x : Nat} : RS (m.uF 42 32 (nI x)) (upS c 15 (x + 1)) nm := by
  obtain ⟨z1, z2, z3, z4, z5, z6, z7, z8, z9, z10, z11, z12, z13, z14⟩ := h
  exact ⟨z1, z2, z3, z4, z5, z6, z7, z8, z9, z10, z11, z12, z13, rfl⟩
theorem l189 (hX : Rs m N s nm 1) (hnm : 0 < nm) (f : Fq GS SS m0 m) (k : FP m0 N K (sLim s)) : WH (d + 4) 163 189 [(0, .ref 42)] [] m K := by
  have h6 : m.F 42 6 = nI 0 := hX.2.2.2.2.2.1
  refine sg_163_189 ?_
  rw [if_pos h6]
  refine c_wrd_14 (by omega) ⟨_, rfl, ?_⟩
  refine c_takeWord (n := 14) (by decide) (by decide) hX.1 hX.2.1 (fun t r eq et m1 a1 f1 => ⟨_, rfl, ?_⟩) (fun z => ⟨_, rfl, ?_⟩)
  · rw [if_neg (by decide)]
    have h14 : hd s.1.1 = 14 := by rw [eq]; exact et
    have el : sLim s = sSet 2 15 (fun n => n + 1) ((r, s.1.2), s.2) := by
      unfold sLim sOpt
      rw [if_pos h14, eq]; rfl
    have x1 := hX.at eq f1 a1
    obtain ⟨hL, hT, hC, hP, hS, h6, h15, hw, hb1, hb2⟩ := x1
    refine c_take (by decide) (by decide) (Or.inl rfl) hL hT h6 (fun t2 r2 e2 e3 m' x b1 b2 b3 b4 => ⟨_, rfl, ?_⟩) (fun z m' b1 b2 b3 => ⟨_, rfl, ?_⟩)
    · have e2 : r = t2 :: r2 := e2
      have et2 := eK_num e3
      have ex : x = nI t2.2 := by
        unfold wr at b1
        rw [if_neg (by omega)] at b1
        rw [b1]
        unfold eW
        rw [if_pos (Or.inr et2)]
      have el2 : sLim s = some ((r2, s.1.2), upS s.2 15 (t2.2 + 1)) := by
        rw [el]
        unfold sSet
        rw [show (((r, s.1.2), s.2) : St).1.1 = t2 :: r2 from e2]
        exact if_pos et2
      rw [el2] at k
      rw [ex]
      have f3 : Fq [32] [] m' (m'.uF 42 32 (nI t2.2)) := Fq.uF (Fq.refl _ _ _) (by decide) _
      have hr : (((r, s.1.2), s.2) : St).1.1 = t2 :: r2 := e2
      rw [hr] at hb1 hb2
      simp only [List.length_cons] at hb1 hb2
      refine sg_163_226 (k _ nm hnm ⟨(hL.fq b4).fq f3, b2.fq f3 (by decide) (by decide) (by decide) (by decide), (hC.fq b4 (by decide) (by decide) (by decide)).fq f3 (by decide) (by decide) (by decide), (hP.fq b4 (by decide) (by decide) (by decide) (by decide)).fq f3 (by decide) (by decide) (by decide) (by decide), (hS.fq b4 (by decide) (by decide)).set32, ?_, ?_, fun z => by omega, ?_, ?_⟩ ?_)
      · rw [f3.f (by decide)]; exact b3
      · rw [f3.f (by decide), b4.f (by decide)]; exact h15
      · show s.1.2.1.length + r2.length ≤ N
        omega
      · show s.2.2.length + r2.length ≤ N
        omega
      · exact ((f.trans (f1.mono (by decide) (by decide))).trans (b4.mono (by decide) (by decide))).trans (f3.mono (by decide) (by decide))
    · have el2 : sLim s = none := by
        rw [el]
        unfold sSet
        have hne : hd r ≠ 2 := kh_ne z (fun t ht => by unfold eK; rw [if_neg (by omega), if_pos ht]) (by decide)
        cases r with
        | nil => rfl
        | cons t2 r2 =>
          dsimp only
          rw [if_neg (show ¬ t2.1 = 2 from hne)]
      rw [el2] at k
      have hB : RBd m0 N m' := ⟨(f.trans (f1.mono (by decide) (by decide))).trans (b3.mono (by decide) (by decide)), b2, r, b1⟩
      exact sg_163_226 (k.bad (hB.uF (by decide) (by decide) (by decide) (by decide) _))
  · rw [if_pos rfl]
    have el : sLim s = some s := by
      unfold sLim sOpt
      rw [if_neg z]
    rw [el] at k
    exact sg_163_226 (k m nm hnm hX f)
theorem l96b (hB : RBd m0 N m) (k : FP m0 N K none) : WH (d + 2) 163 96 [(0, .ref 42)] [] m K := by
  refine sg_163_96 ?_
  refine c_161b hB.2.1 ⟨rfl, ?_⟩
  rw [if_neg hB.b6]
  exact l189b hB k
theorem l96 (hX : Rs m N s nm 0) (hnm : 0 < nm) (f : Fq GS SS m0 m) (k : FP m0 N K (bnd (sWhere s) (fun s => bnd (sOrder s) sLim))) : WH (d + 9) 163 96 [(0, .ref 42)] [] m K := by
  refine sg_163_96 ?_
  refine c_161 hX (fun e e1 m1 x1 f1 => ⟨rfl, ?_⟩) (fun e1 m1 b1 => ⟨rfl, ?_⟩)
  · rw [e1] at k
    have k : FP m0 N K (bnd (sOrder e) sLim) := k
    have f2 := f.trans f1
    have h6 : m1.F 42 6 = nI 0 := x1.2.2.2.2.2.1
    rw [if_pos h6]
    refine c_wrd_12 (by omega) ⟨_, rfl, ?_⟩
    refine c_takeWord (n := 12) (by decide) (by decide) x1.1 x1.2.1 (fun t r eq et m2 a1 f3 => ⟨_, rfl, ?_⟩) (fun z => ⟨_, rfl, ?_⟩)
    · rw [if_neg (by decide)]
      have h12 : hd e.1.1 = 12 := by rw [eq]; exact et
      have x2 := x1.at eq f3 a1
      obtain ⟨hL, hT, hC, hP, hS, g6, h15, hw, hb1, hb2⟩ := x2
      have f4 : Fq [28, 30] [] m2 ((m2.uF 42 28 (nI 1)).uF 42 30 (m2.F 42 7)) := Fq.uF (Fq.uF (Fq.refl _ _ _) (by decide) _) (by decide) _
      have f5 : Fq GS SS m0 ((m2.uF 42 28 (nI 1)).uF 42 30 (m2.F 42 7)) := (f2.trans (f3.mono (by decide) (by decide))).trans (f4.mono (by decide) (by decide))
      have eo : ∀ x, sEx ((r, e.1.2), e.2) = x → sOrder e = (match x with | some a => (if hd a.1.1 = 13 then some ((a.1.1.tail, a.1.2), upS (upS (upS e.2 12 e.1.2.1.length) 13 a.1.2.1.length) 14 1) else some (a.1, upS (upS (upS e.2 12 e.1.2.1.length) 13 a.1.2.1.length) 14 0)) | none => none) := by
        intro x hx
        subst hx
        unfold sOrder sOpt
        rw [if_pos h12, eq]
        rfl
      refine c_151 (o := 0) (b := N) (hL.fq f4) (hT.fq f4 (by decide) (by decide) (by decide) (by decide)) (hC.fq f4 (by decide) (by decide) (by decide)) (by rw [f4.f (by decide)]; exact h15) (by decide) (by rw [f4.f (by decide)]; exact g6) hb1 (Nat.le_refl _) (fun cc r3 e3 m3 u1 u2 u3 u4 => ⟨rfl, ?_⟩) (fun e3 m3 c3 q3 u1 u2 u3 u4 u5 => ⟨rfl, ?_⟩)
      · rw [if_pos u3]
        have hl := okP_ex _ _ _ _ e3
        dsimp only at e3 hb1 hb2 hl
        have ee : sEx ((r, e.1.2), e.2) = some ((r3, e.1.2.1 ++ cc, e.1.2.2), e.2) := by
          unfold sEx
          rw [show pEx 8 (((r, e.1.2), e.2) : St).1.1 = some (cc, r3) from e3]
        have eo2 := eo _ ee
        dsimp only at eo2
        have f6 : Fq [31] [] m3 (m3.uF 42 31 (m3.F 42 7)) := Fq.uF (Fq.refl _ _ _) (by decide) _
        have f7 : Fq GS SS m0 (m3.uF 42 31 (m3.F 42 7)) := (f5.trans (u4.mono (by decide) (by decide))).trans (f6.mono (by decide) (by decide))
        have cpos : 0 < (e.1.2.1 ++ cc).length := by rw [List.length_append]; omega
        -- what is known behind the steps
        have mk : ∀ m4 q4 (v : Nat), q4.length ≤ r3.length → RT m4 N q4 → Fq [5] [] (m3.uF 42 31 (m3.F 42 7)) m4 → Rs (m4.uF 42 29 (nI v)) N ((q4, e.1.2.1 ++ cc, e.1.2.2), upS (upS (upS e.2 12 e.1.2.1.length) 13 (e.1.2.1 ++ cc).length) 14 v) nm 1 := by
          intro m4 q4 v hq4 hT4 f8
          have f9 : Fq [29] [] m4 (m4.uF 42 29 (nI v)) := Fq.uF (Fq.refl _ _ _) (by decide) _
          have fA : Fq [5, 29, 31] [] m3 (m4.uF 42 29 (nI v)) := ((f6.mono (by decide) (by decide)).trans (f8.mono (by decide) (by decide))).trans (f9.mono (by decide) (by decide))
          have fB : Fq [5, 6, 7, 10, 12, 16, 28, 29, 30, 31] [46, 47, 48] m2 (m4.uF 42 29 (nI v)) := ((f4.mono (by decide) (by decide)).trans (u4.mono (by decide) (by decide))).trans (fA.mono (by decide) (by decide))
          refine ⟨hL.fq fB, hT4.fq f9 (by decide) (by decide) (by decide) (by decide), u2.fq fA (by decide) (by decide) (by decide), hP.fq fB (by decide) (by decide) (by decide) (by decide), ?_, ?_, ?_, fun z => by omega, ?_, ?_⟩
          · obtain ⟨z1, z2, z3, z4, z5, z6, z7, z8, z9, z10, z11, z12, z13, z14⟩ := hS
            have A0 : (m4.uF 42 29 (nI v)).A 50 = m2.A 50 := fB.a (by decide)
            have A1 : (m4.uF 42 29 (nI v)).A 51 = m2.A 51 := fB.a (by decide)
            have A2 : (m4.uF 42 29 (nI v)).A 52 = m2.A 52 := fB.a (by decide)
            have sf : ∀ g, g ≠ 12 → g ≠ 13 → g ≠ 14 → (upS (upS (upS e.2 12 e.1.2.1.length) 13 (e.1.2.1 ++ cc).length) 14 v).1 g = e.2.1 g := fun g h1 h2 h3 => by
              show (if g = 14 then _ else if g = 13 then _ else if g = 12 then _ else _) = _
              rw [if_neg h3, if_neg h2, if_neg h1]
            have s13 : (upS (upS (upS e.2 12 e.1.2.1.length) 13 (e.1.2.1 ++ cc).length) 14 v).1 13 = (e.1.2.1 ++ cc).length := rfl
            have s12 : (upS (upS (upS e.2 12 e.1.2.1.length) 13 (e.1.2.1 ++ cc).length) 14 v).1 12 = e.1.2.1.length := rfl
            refine ⟨?_, z2, ?_, ?_, ?_, ?_, ?_, ?_, ?_, ?_, ?_, ?_, rfl, ?_⟩
            · rw [fB.f (by decide)]; exact z1
            · rw [A0, sf 5 (by decide) (by decide) (by decide)]; exact z3
            · rw [A0, sf 6 (by decide) (by decide) (by decide)]; exact z4
            · rw [fB.f (by decide), sf 7 (by decide) (by decide) (by decide)]; exact z5
            · rw [fB.f (by decide), sf 8 (by decide) (by decide) (by decide)]; exact z6
            · rw [fB.f (by decide)]; exact z7
            · rw [A1, A2]; exact z8
            · rw [fB.f (by decide), sf 11 (by decide) (by decide) (by decide)]; exact z9
            · rw [fB.f (by decide), fB.f (by decide), sf 10 (by decide) (by decide) (by decide), sf 11 (by decide) (by decide) (by decide)]; exact z10
            · rw [s13, if_neg (by omega), fA.f (by decide), u4.f (by decide)]; rfl
            · intro _
              rw [s13, s12]
              refine ⟨?_, ?_⟩
              · rw [fA.f (by decide), u4.f (by decide), ← hC.1]; rfl
              · rw [f9.f (by decide), f8.f (by decide), ← u2.1]; rfl
            · rw [fB.f (by decide), sf 15 (by decide) (by decide) (by decide)]; exact z14
          · rw [fA.f (by decide)]; exact u3
          · rw [fB.f (by decide)]; exact h15
          · dsimp only; rw [List.length_append]; omega
          · show e.2.2.length + q4.length ≤ N; omega
        have hT6 := u1.fq f6 (by decide) (by decide) (by decide) (by decide)
        refine c_wrd_13 (by omega) ⟨_, rfl, ?_⟩
        refine c_takeWord (n := 13) (by decide) (by decide) ((((hL.fq f4).fq u4)).fq f6) hT6 (fun t4 r4 eq4 et4 m4 v1 v2 => ⟨_, rfl, ?_⟩) (fun z => ⟨_, rfl, ?_⟩)
        · rw [if_neg (by decide)]
          have h13 : hd r3 = 13 := by rw [eq4]; exact et4
          rw [if_pos h13, eq4] at eo2
          rw [eo2] at k
          refine l189 (mk m4 r4 1 (by rw [eq4, List.length_cons]; omega) v1 v2) hnm ?_ k
          exact Fq.uF (f7.trans (v2.mono (by decide) (by decide))) (by decide) _
        · rw [if_pos rfl]
          rw [if_neg z] at eo2
          rw [eo2] at k
          refine l189 (mk _ r3 0 (Nat.le_refl _) hT6 (Fq.refl _ _ _)) hnm ?_ k
          exact Fq.uF f7 (by decide) _
      · rw [if_neg (by rw [u2]; decide)]
        have ee : sEx ((r, e.1.2), e.2) = none := by
          unfold sEx
          rw [show pEx 8 (((r, e.1.2), e.2) : St).1.1 = none from e3]
        rw [eo _ ee] at k
        have hB : RBd m0 N m3 := ⟨f5.trans (u5.mono (by decide) (by decide)), u2, q3, u1⟩
        exact l189b ((hB.uF (by decide) (by decide) (by decide) (by decide) _).uF (by decide) (by decide) (by decide) (by decide) _) k
    · rw [if_pos rfl]
      have eo : sOrder e = some e := by
        unfold sOrder sOpt
        rw [if_neg z]
      rw [eo] at k
      exact l189 x1 hnm f2 k
  · rw [e1] at k
    have b2 := RBd.of f b1
    rw [if_neg b2.b6]
    exact l189b b2 k
def sSel2 (s : St) : Option St := if 3 < s.2.2.length then none else bnd (sTok 10 s) (fun s => bnd (sSet 1 5 idN s) (fun s => bnd (sTwo s) (fun s => bnd (sWhere s) (fun s => bnd (sOrder s) sLim))))
theorem l27b (hB : RBd m0 N m) (k : FP m0 N K none) : WH (d + 1) 163 27 [(0, .ref 42)] [] m K := by
  refine sg_163_27 ?_
  rw [if_neg hB.b6, if_neg (by decide), uF_eq hB.2.1]
  exact k.bad hB
theorem l27 (hX : Rs m N s 0 0) (f : Fq GS SS m0 m) (k : FP m0 N K (sSel2 s)) : WH (d + 9) 163 27 [(0, .ref 42)] [] m K := by
  have h6 : m.F 42 6 = nI 0 := hX.2.2.2.2.2.1
  have hN := hX.2.1.2.2.2.1
  have h22 : m.F 42 22 = nI s.2.2.length := hX.2.2.2.2.1.2.2.2.2.2.2.1
  have hb2 := hX.2.2.2.2.2.2.2.2.2
  refine sg_163_27 ?_
  rw [if_pos h6]
  simp (disch := omega) only [h22, nIlt]
  have badB : ∀ q1, RT m N q1 → RBd m0 N (m.uF 42 6 (nI 1)) := fun q1 h => ⟨Fq.uF f (by decide) _, rfl, q1, h.bad⟩
  by_cases h3 : 3 < s.2.2.length
  · rw [if_pos h3, if_neg (by decide)]
    unfold sSel2 at k
    rw [if_pos h3] at k
    exact k.bad (badB _ hX.2.1)
  · rw [if_neg h3]
    unfold sSel2 at k
    rw [if_neg h3] at k
    refine c_wrd_10 (by omega) ⟨_, rfl, ?_⟩
    refine c_takeWord (n := 10) (by decide) (by decide) hX.1 hX.2.1 (fun t r eq et m1 a1 f1 => ⟨_, rfl, ?_⟩) (fun z => ⟨_, rfl, ?_⟩)
    · rw [if_neg (by decide), if_pos trivial]
      have h10 : hd s.1.1 = 10 := by rw [eq]; exact et
      have e10 : sTok 10 s = some ((r, s.1.2), s.2) := by
        unfold sTok
        rw [if_pos h10, eq]; rfl
      rw [e10] at k
      have x1 := hX.at eq f1 a1
      have g6 : m1.F 42 6 = nI 0 := x1.2.2.2.2.2.1
      rw [uF_eq g6]
      have f2 : Fq GS SS m0 m1 := f.trans (f1.mono (by decide) (by decide))
      have k : FP m0 N K (bnd (sSet 1 5 idN ((r, s.1.2), s.2)) (fun s => bnd (sTwo s) (fun s => bnd (sWhere s) (fun s => bnd (sOrder s) sLim)))) := k
      refine c_159 x1 (by decide) (fun t2 r2 eq2 et2 m2 x2 f3 => ⟨rfl, ?_⟩) (fun z m2 b2 h19 _ => ⟨rfl, ?_⟩)
      · have eq2 : r = t2 :: r2 := eq2
        have es : sSet 1 5 idN ((r, s.1.2), s.2) = some ((r2, s.1.2), upS s.2 5 t2.2) := by
          unfold sSet
          rw [show (((r, s.1.2), s.2) : St).1.1 = t2 :: r2 from eq2]
          dsimp only
          rw [if_pos et2]; rfl
        rw [es] at k
        have k : FP m0 N K (bnd (sTwo ((r2, s.1.2), upS s.2 5 t2.2)) (fun s => bnd (sWhere s) (fun s => bnd (sOrder s) sLim))) := k
        have x2 : Rs m2 N ((r2, s.1.2), upS s.2 5 t2.2) 1 0 := x2
        have f4 := f2.trans f3
        refine c_takeSign (c := 44) rfl x2.1 x2.2.1 (fun t3 r3 eq3 et3 m3 a3 f5 => ⟨_, rfl, ?_⟩) (fun z => ⟨_, rfl, ?_⟩)
        · rw [if_neg (by decide)]
          have eq3 : r2 = t3 :: r3 := eq3
          have h44 : hd (((r2, s.1.2), upS s.2 5 t2.2) : St).1.1 = 44 := by
            show hd r2 = 44
            rw [eq3]; exact et3
          have e44 : sTwo ((r2, s.1.2), upS s.2 5 t2.2) = sSet 1 6 (fun n => n + 1) ((r3, s.1.2), upS s.2 5 t2.2) := by
            unfold sTwo sOpt
            rw [if_pos h44]
            dsimp only
            rw [eq3]; rfl
          rw [e44] at k
          have x3 := x2.at eq3 f5 a3
          have f6 := f4.trans (f5.mono (by decide) (by decide))
          refine c_159 x3 (by decide) (fun t4 r4 eq4 et4 m4 x4 f7 => ⟨rfl, ?_⟩) (fun z m4 b4 h19 _ => ⟨rfl, ?_⟩)
          · have eq4 : r3 = t4 :: r4 := eq4
            have es2 : sSet 1 6 (fun n => n + 1) ((r3, s.1.2), upS s.2 5 t2.2) = some ((r4, s.1.2), upS (upS s.2 5 t2.2) 6 (t4.2 + 1)) := by
              unfold sSet
              rw [show (((r3, s.1.2), upS s.2 5 t2.2) : St).1.1 = t4 :: r4 from eq4]
              dsimp only
              rw [if_pos et4]
            rw [es2] at k
            exact l96 x4 (by decide) (f6.trans f7) k
          · have es2 : sSet 1 6 (fun n => n + 1) ((r3, s.1.2), upS s.2 5 t2.2) = none := by
              unfold sSet
              have z : hd r3 ≠ 1 := z
              dsimp only
              cases r3 with
              | nil => rfl
              | cons t4 r4 => dsimp only; rw [if_neg (show ¬ t4.1 = 1 from z)]
            rw [es2] at k
            exact l96b (RBd.of f6 b4) k
        · rw [if_pos rfl]
          have e44 : sTwo ((r2, s.1.2), upS s.2 5 t2.2) = some ((r2, s.1.2), upS s.2 5 t2.2) := by
            unfold sTwo sOpt
            rw [if_neg z]
          rw [e44] at k
          exact l96 x2 (by decide) f4 k
      · have es : sSet 1 5 idN ((r, s.1.2), s.2) = none := by
          unfold sSet
          have z : hd r ≠ 1 := z
          dsimp only
          cases r with
          | nil => rfl
          | cons t4 r4 => dsimp only; rw [if_neg (show ¬ t4.1 = 1 from z)]
        rw [es] at k
        have b3 := RBd.of f2 b2
        obtain ⟨q2, hT2⟩ := b3.2.2
        have hL2 : Len m2 := x1.1.fq b2.1
        refine c_takeSign (c := 44) rfl hL2 hT2 (fun t3 r3 eq3 et3 m3 a3 f5 => ⟨_, rfl, ?_⟩) (fun z => ⟨_, rfl, ?_⟩)
        · rw [if_neg (by decide)]
          have b4 : RBd m0 N m3 := ⟨b3.1.trans (f5.mono (by decide) (by decide)), by rw [f5.f (by decide)]; exact b3.2.1, r3, a3⟩
          refine c_159b (nm := 1) (hL2.fq f5) b4 (by rw [f5.f (by decide)]; exact h19) (by decide) (fun m4 b5 => ⟨rfl, l96b b5 k⟩)
        · rw [if_pos rfl]
          exact l96b b3 k
    · rw [if_pos rfl, if_neg (by decide)]
      have e10 : sTok 10 s = none := by
        unfold sTok
        rw [if_neg z]
      rw [e10] at k
      exact k.bad (badB _ hX.2.1)
theorem c_163 (hX : Rs m N s 0 0) (hE : atE s) (hq : s.1.1.length ≤ 80) (f : Fq GS SS m0 m) (k : FP m0 N K (bnd (sList 80 s) sSel2)) : WP (d + 9) 163 [.ref 42] m K := by
  refine sp_163 ?_
  have es : ∀ x, sItem s = x → sList 80 s = (match x with | some e => if hd e.1.1 = 44 then sList 79 ((e.1.1.tail, e.1.2), e.2) else some e | none => none) := by
    intro x hx
    subst hx
    rfl
  refine c_158 hX hE (fun e e1 m1 x1 hE1 hlt f1 => ⟨rfl, ?_⟩) (fun e1 m1 b1 _ => ⟨rfl, ?_⟩)
  · have es2 := es _ e1
    dsimp only at es2
    rw [es2] at k
    refine lp_list (d := d + 2) (Loop := fun m => WH (d + 9) 163 4 [(0, .ref 42)] [] m K) (Out := fun m => WH (d + 9) 163 27 [(0, .ref 42)] [] m K) (fun m h => sg_163_4 h) 79 e m1 (by omega) x1 hE1 (f.trans f1) (fun e2 h2 m2 x2 f2 => ?_) (fun h2 m2 b2 => ?_)
    · rw [h2] at k
      exact l27 x2 f2 k
    · rw [h2] at k
      exact l27b b2 k
  · have es2 := es _ e1
    dsimp only at es2
    rw [es2] at k
    have b2 := RBd.of f b1
    refine sg_163_4 ?_
    rw [if_neg b2.b6]
    exact l27b b2 k
end R55
