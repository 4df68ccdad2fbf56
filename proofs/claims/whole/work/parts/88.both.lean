/-! TWO TABLES by their rows: the reference's fetchBoth() -/
def envS (o : Nat) (r : List Int64) : Evr := fun s c => if s = o then r.getD c 0 else NUL
def oHR (rs : List Op) (ps : List Pt) (o : Nat) (r : List Int64) : Bool := ps.all (fun p => hasS (seg rs p.1 p.2.2) (1 - o) || decide (val (envS o r) (seg rs p.1 p.2.2) = 2))
def aS (D : Db) (t : Nat) (rs : List Op) (s bef : Nat) (ps : List Pt) : Acs := acsS (fun c => ixd D t c) rs s bef ps
def inQ (D : Db) (f : Nat → Nat) (rs : List Op) (ps : List Pt) (o : Nat) (r : List Int64) : List Int64 → Bool := ftR rs (envS o r) (aS D (f (1 - o)) rs (1 - o) (o + 1) ps)
def rd1 (D : Db) (f : Nat → Nat) (rs : List Op) (ps : List Pt) (o : Nat) (RB : List (List Int64)) (r : List Int64) : Nat := if ftR rs env0 (aS D (f o) rs o 0 ps) r = true then 1 + (if oHR rs ps o r = true then RB.countP (inQ D f rs ps o r) else 0) else 0
def rdS (D : Db) (f : Nat → Nat) (rs : List Op) (ps : List Pt) (o : Nat) (RA RB : List (List Int64)) : Nat := (RA.map (rd1 D f rs ps o RB)).sum
theorem rd1_perm {D : Db} {f : Nat → Nat} {rs : List Op} {ps : List Pt} {o : Nat} {R1 R2 : List (List Int64)} (h : R1.Perm R2) (r : List Int64) : rd1 D f rs ps o R1 r = rd1 D f rs ps o R2 r := by
  unfold rd1
  rw [h.countP_eq]
theorem sum_perm {a b : List Nat} (h : a.Perm b) : a.sum = b.sum := by
  induction h with
  | nil => rfl
  | cons x _ ih => rw [List.sum_cons, List.sum_cons, ih]
  | swap x y l => rw [List.sum_cons, List.sum_cons, List.sum_cons, List.sum_cons]; omega
  | trans _ _ h1 h2 => exact h1.trans h2
theorem rdS_perm {D : Db} {f : Nat → Nat} {rs : List Op} {ps : List Pt} {o : Nat} {A1 A2 R1 R2 : List (List Int64)} (ha : A1.Perm A2) (h : R1.Perm R2) : rdS D f rs ps o A1 R1 = rdS D f rs ps o A2 R2 := by
  unfold rdS
  rw [show rd1 D f rs ps o R1 = rd1 D f rs ps o R2 from funext (rd1_perm h)]
  exact sum_perm (ha.map _)
theorem rdS_snoc {D : Db} {f : Nat → Nat} {rs : List Op} {ps : List Pt} {o : Nat} {RA RB : List (List Int64)} {i : Nat} (h : i < RA.length) : rdS D f rs ps o (RA.take (i + 1)) RB = rdS D f rs ps o (RA.take i) RB + rd1 D f rs ps o RB (RA.getD i []) := by
  unfold rdS
  rw [take_succ_getD h, List.map_append, List.sum_append, List.map_cons, List.map_nil, List.sum_cons, List.sum_nil, Nat.add_zero]
theorem rd1_le {D : Db} {f : Nat → Nat} {rs : List Op} {ps : List Pt} {o : Nat} {RB : List (List Int64)} (r : List Int64) : rd1 D f rs ps o RB r ≤ 1 + RB.length := by
  unfold rd1
  have := List.countP_le_length (p := inQ D f rs ps o r) (l := RB)
  split
  · split <;> omega
  · omega
theorem rdS_le {D : Db} {f : Nat → Nat} {rs : List Op} {ps : List Pt} {o : Nat} {RB : List (List Int64)} : ∀ (RA : List (List Int64)), rdS D f rs ps o RA RB ≤ RA.length * (1 + RB.length)
  | [] => by show 0 ≤ _; omega
  | r :: RA => by
    have ih := rdS_le (D := D) (f := f) (rs := rs) (ps := ps) (o := o) (RB := RB) RA
    have h1 := rd1_le (D := D) (f := f) (rs := rs) (ps := ps) (o := o) (RB := RB) r
    have e1 : rdS D f rs ps o (r :: RA) RB = rd1 D f rs ps o RB r + rdS D f rs ps o RA RB := by unfold rdS; rw [List.map_cons, List.sum_cons]
    rw [e1, List.length_cons, Nat.add_mul]
    omega
theorem pw_sh {a : Nat} (h : a < 3) : (nI 1) <<< (nI a &&& 31) = nI (2 ^ a) := by
  rcases (by omega : a = 0 ∨ a = 1 ∨ a = 2) with rfl | rfl | rfl <;> decide
theorem tr1 {v : Int64} : tr true v = 1 ↔ v = 2 := by
  unfold tr
  rw [if_pos rfl]
  by_cases h : v = 2
  · rw [if_pos h]; exact ⟨fun _ => h, fun _ => rfl⟩
  · rw [if_neg h]
    refine ⟨fun z => ?_, fun z => absurd z h⟩
    split at z
    · exact absurd z (by decide)
    · exact absurd z (by decide)
theorem mkR_bit {a b o : Nat} {l : List Op} (ha : a < 3) (hb : b < 3) (hab : a ≠ b) (ho : o < 2) : ((nI (mkR a b l) >>> (nI (if 1 - o = 0 then a else b) &&& 31)) &&& nI 1 = nI 1) = (hasS l (1 - o) = true) := by
  unfold mkR
  apply propext
  rcases (by omega : o = 0 ∨ o = 1) with rfl | rfl <;> cases hasS l 0 <;> cases hasS l 1 <;> rcases (by omega : a = 0 ∨ a = 1 ∨ a = 2) with rfl | rfl | rfl <;> rcases (by omega : b = 0 ∨ b = 1 ∨ b = 2) with rfl | rfl | rfl <;> first | (exact absurd rfl hab) | decide
section B88
variable {d : Nat} {m m0 m1 : Mm} {K : Option Value → Mm → Prop} {rs : List Op} {D : Db} {o : Nat} {ps : List Pt} {f : Nat → Nat} {P : Nat → List (List Int64)}
theorem f_lt (ho : o < 2) (h : tbOK rs f) : f o < 3 := by
  rcases (by omega : o = 0 ∨ o = 1) with z | z <;> rw [z]
  · exact h.1
  · exact h.2.1
/-- the row that the reference stands at -/
theorem RVS (hQ : RQ m rs f D P ps) (hI : DI D) (ho : o < 2) (hcw : ∀ x, x ∈ rs → x.1 = 3 → x.2.1 < wd D (f x.2.2)) {r : Nat} (hr : r < (rw_ D (f o)).length) (h60 : (m.A 60).getD (f o) 0 = nI r) {l : List Op} (hl : ∀ x, x ∈ l → x ∈ rs) (hn : hasS l (1 - o) = false) : RV m (envS o ((P (f o)).getD r [])) f l ∧ EnvOk (envS o ((P (f o)).getD r [])) l := by
  obtain ⟨hL, hC, h2, hok, hf, hD, hP, hPs, hlen⟩ := hQ
  have hfo := f_lt ho hf
  obtain ⟨a1, a2, a3, a4, a5⟩ := hD _ hfo
  obtain ⟨b1, b2, b3, b4, b5, b6, b7⟩ := hI _ hfo
  have hso : ∀ x, x ∈ l → x.1 = 3 → x.2.2 = o := fun x hx h3 => by
    have hs := (h2 x (hl x hx) h3).1
    by_cases z : x.2.2 = 1 - o
    · rw [hasS_mem hx h3 z] at hn; cases hn
    · omega
  have hpm : (P (f o)).getD r [] ∈ rw_ D (f o) := a3.mem_iff.mp (getD_in (by rw [a3.length_eq]; exact hr))
  refine ⟨fun x hx h3 => ?_, fun x hx h3 => ?_⟩
  · have hs := hso x hx h3
    have hw := hcw x (hl x hx) h3
    rw [hs] at hw
    refine ⟨by rw [hs]; exact hfo, by omega, r, by rw [hs]; exact h60, by omega, ?_⟩
    rw [hs]
    unfold envS
    rw [if_pos rfl]
    exact a4 r hr _ hw
  · have hs := hso x hx h3
    have hw := hcw x (hl x hx) h3
    rw [hs] at hw
    unfold envS
    rw [if_pos hs]
    have hrow := b3 _ hpm
    exact hrow.2 _ (getD_in (by rw [hrow.1]; exact hw))
theorem bef_in (ho : o < 2) : befOK (1 - o) (o + 1) := by
  unfold befOK; omega
theorem bef_out (ho : o < 2) : befOK o 0 := by
  unfold befOK; omega
theorem stR_in (ho : o < 2) : stR (f 0) (f 1) (o + 1) = 2 ^ f o := by
  unfold stR
  rcases (by omega : o = 0 ∨ o = 1) with z | z <;> rw [z] <;> rfl
theorem lp_179c (hI : DI D) (hPt : ∀ p, p ∈ ps → okPt rs p) (ho : o < 2) (hab : f 0 ≠ f 1) (hcw : ∀ x, x ∈ rs → x.1 = 3 → x.2.1 < wd D (f x.2.2)) {r c0 : Nat} (hr : r < (rw_ D (f o)).length) {x3 x4 x7 : Int32} : ∀ (n q : Nat) (m : Mm), q + n = (rw_ D (f (1 - o))).length → RQ m rs f D P ps → (m.A 60).getD (f o) 0 = nI r → m.F 42 56 = nI (c0 + ((P (f (1 - o))).take q).countP (inQ D f rs ps o ((P (f o)).getD r []))) → (∀ m', m'.F 42 56 = nI (c0 + (P (f (1 - o))).countP (inQ D f rs ps o ((P (f o)).getD r []))) → Fq [56] [61] m m' → WH (d + 4) 179 37 [(0, .ref 42), (1, .int (nI (f o))), (2, .int (nI (f (1 - o)))), (3, .int x3), (4, .int x4), (5, .int (nI (kdR D (f (1 - o)) rs (1 - o) (o + 1) ps))), (6, .int (oIx (usR D (f (1 - o)) rs (1 - o) (o + 1) ps))), (7, .int (x7 + nI 1))] [] m' K) → WH (d + 4) 179 165 [(0, .ref 42), (1, .int (nI (f o))), (2, .int (nI (f (1 - o)))), (3, .int x3), (4, .int x4), (5, .int (nI (kdR D (f (1 - o)) rs (1 - o) (o + 1) ps))), (6, .int (oIx (usR D (f (1 - o)) rs (1 - o) (o + 1) ps))), (7, .int x7), (8, .int (nI 1)), (9, .int (nI q))] [] m K := by
  intro n
  induction n with
  | zero =>
    intro q m hq hQ h60 h56 k
    have hf := hQ.2.2.2.2.1
    have hfo := f_lt ho hf
    have hfi : f (1 - o) < 3 := f_lt (by omega) hf
    have l7 : (m.A 57).length = 3 := hQ.1.a (by decide) rfl
    have hD := hQ.2.2.2.2.2.1
    have hpl := (hD _ hfi).2.2.1.length_eq
    have h20 := (hI _ hfi).2.1
    refine sg_179_165 _ _ _ _ _ _ _ _ _ ?_
    rw [l7, ix_nI (by omega), (hD _ hfi).2.1, if_pos (by rw [nIle (by omega) (by omega)]; omega)]
    refine ⟨ok_nI (by omega) (by decide), k m ?_ (Fq.refl _ _ _)⟩
    rw [h56, show q = (P (f (1 - o))).length by omega, List.take_length]
  | succ n ih =>
    intro q m hq hQ h60 h56 k
    have hf := hQ.2.2.2.2.1
    have hfo := f_lt ho hf
    have hfi : f (1 - o) < 3 := f_lt (by omega) hf
    have l7 : (m.A 57).length = 3 := hQ.1.a (by decide) rfl
    have hD := hQ.2.2.2.2.2.1
    have hpl := (hD _ hfi).2.2.1.length_eq
    have h20 := (hI _ hfi).2.1
    have ec := cntP_snoc (R := P (f (1 - o))) (q := inQ D f rs ps o ((P (f o)).getD r [])) (i := q) (by omega)
    refine sg_179_165 _ _ _ _ _ _ _ _ _ ?_
    rw [l7, ix_nI (by omega), (hD _ hfi).2.1, if_neg (by rw [nIle (by omega) (by omega)]; omega), if_neg (by decide), nI_add, pw_sh hfo, ← stR_in (f := f) ho]
    refine ⟨ok_nI (by omega) (by decide), ?_⟩
    refine c_176 (env := envS o ((P (f o)).getD r [])) (s := 1 - o) (bef := o + 1) hQ hI hPt (bef_in ho) (fun _ => hab) hfi (fun x hx h3 hs => by have := hcw x hx h3; rw [hs] at this; exact this) (by omega) (fun l hl hm => RVS hQ hI ho hcw hr h60 hl (mOK_out ho hm)) (fun m1 f1 => ⟨_, rfl, ?_⟩)
    have g56 : m1.F 42 56 = nI (c0 + ((P (f (1 - o))).take q).countP (inQ D f rs ps o ((P (f o)).getD r []))) := by rw [f1.f (by decide)]; exact h56
    have g60 : (m1.A 60).getD (f o) 0 = nI r := by rw [f1.a (by decide)]; exact h60
    rw [ftB_R]
    cases hq : inQ D f rs ps o ((P (f o)).getD r []) ((P (f (1 - o))).getD q []) with
    | true =>
      have hq' : ftR rs (envS o ((P (f o)).getD r [])) (acsS (fun c => ixd D (f (1 - o)) c) rs (1 - o) (o + 1) ps) ((P (f (1 - o))).getD q []) = true := hq
      rw [hq, if_pos rfl] at ec
      rw [bI_t hq', if_neg (by decide), g56, nI_add, Nat.add_assoc c0, ← ec]
      have f2 : Fq [56] [61] m1 (m1.uF 42 56 (nI (c0 + ((P (f (1 - o))).take (q + 1)).countP (inQ D f rs ps o ((P (f o)).getD r []))))) := Fq.uF (Fq.refl _ _ _) (by decide) _
      have f3 : Fq [56] [61] m _ := (f1.mono (by decide) (by decide)).trans f2
      exact ih (q + 1) _ (by omega) (hQ.fq f3 (by decide) (by decide)) g60 rfl (fun m' a1 f4 => k m' a1 (f3.trans f4))
    | false =>
      have hq' : ¬ ftR rs (envS o ((P (f o)).getD r [])) (acsS (fun c => ixd D (f (1 - o)) c) rs (1 - o) (o + 1) ps) ((P (f (1 - o))).getD q []) = true := fun z => by
        have z : inQ D f rs ps o ((P (f o)).getD r []) ((P (f (1 - o))).getD q []) = true := z
        rw [hq] at z; cases z
      rw [hq, if_neg (by decide)] at ec
      rw [bI_f hq', if_pos rfl, uF_id]
      have f3 : Fq [56] [61] m m1 := f1.mono (by decide) (by decide)
      exact ih (q + 1) _ (by omega) (hQ.fq f3 (by decide) (by decide)) g60 (by rw [ec]; exact g56) (fun m' a1 f4 => k m' a1 (f3.trans f4))
theorem f_if (ho : o < 2) : f (1 - o) = if 1 - o = 0 then f 0 else f 1 := by
  rcases (by omega : o = 0 ∨ o = 1) with z | z <;> rw [z] <;> rfl
theorem lp_179b (hI : DI D) (hPt : ∀ p, p ∈ ps → okPt rs p) (ho : o < 2) (hab : f 0 ≠ f 1) (hcw : ∀ x, x ∈ rs → x.1 = 3 → x.2.1 < wd D (f x.2.2)) {r : Nat} (hr : r < (rw_ D (f o)).length) {x3 x4 x5 x6 x7 : Int32} : ∀ (n i : Nat) (m : Mm) (on : Bool), i + n = ps.length → RQ m rs f D P ps → (m.A 60).getD (f o) 0 = nI r → (∀ m', Fq [] [61] m m' → WH (d + 4) 179 165 [(0, .ref 42), (1, .int (nI (f o))), (2, .int (nI (f (1 - o)))), (3, .int x3), (4, .int x4), (5, .int x5), (6, .int x6), (7, .int x7), (8, .int (bI ((on && (ps.drop i).all (fun p => hasS (seg rs p.1 p.2.2) (1 - o) || decide (val (envS o ((P (f o)).getD r [])) (seg rs p.1 p.2.2) = 2))) = true))), (9, .int (nI 0))] [] m' K) → WH (d + 4) 179 86 [(0, .ref 42), (1, .int (nI (f o))), (2, .int (nI (f (1 - o)))), (3, .int x3), (4, .int x4), (5, .int x5), (6, .int x6), (7, .int x7), (8, .int (bI (on = true))), (9, .int (nI i))] [] m K := by
  intro n
  induction n with
  | zero =>
    intro i m on hi hQ h60 k
    have hPA := hQ.2.2.2.2.2.2.1
    have hpl := hQ.2.2.2.2.2.2.2.2
    refine sg_179_86 _ _ _ _ _ _ _ _ _ ?_
    rw [hPA.1, if_pos (by rw [nIle (by omega) (by omega)]; omega)]
    have := k m (Fq.refl _ _ _)
    rw [List.drop_eq_nil_of_le (by omega), List.all_nil, Bool.and_true] at this
    exact this
  | succ n ih =>
    intro i m on hi hQ h60 k
    have hQ0 := hQ
    obtain ⟨hL, hC, h2, hok, hf, hD, hP, hPs, hpl⟩ := hQ
    have hfo := f_lt ho hf
    have l3 : (m.A 53).length = 40 := hL.a (by decide) rfl
    have l4 : (m.A 54).length = 40 := hL.a (by decide) rfl
    have hxl : i < ps.length := by omega
    obtain ⟨q1, q2, q3⟩ := hP.2 i hxl
    have hpm : ps.getD i (0, 0, 0) ∈ ps := getD_in hxl
    have hpp := hPt _ hpm
    have edr : ps.drop i = ps.getD i (0, 0, 0) :: ps.drop (i + 1) := by
      rw [List.drop_eq_getElem_cons hxl, List.getD_eq_getElem?_getD, List.getElem?_eq_getElem hxl]; rfl
    rw [edr] at k
    have hoi : ok 40 (nI i) := ok_nI (by omega) (by decide)
    generalize ps.getD i (0, 0, 0) = p at *
    refine sg_179_86 _ _ _ _ _ _ _ _ _ ?_
    rw [hP.1, if_neg (by rw [nIle (by omega) (by omega)]; omega), nI_add]
    cases on with
    | false =>
      rw [bI_f (by decide), if_pos rfl]
      have := ih (i + 1) m false (by omega) hQ0 h60 (fun m' f => by
        have := k m' f
        rw [Bool.false_and] at this ⊢
        exact this)
      rw [bI_f (by decide)] at this
      exact this
    | true =>
      rw [bI_t rfl, if_neg (by decide), l3, l4, ix_nI (by omega), q1, q3]
      refine ⟨hoi, hoi, ?_⟩
      refine c_170 hL hC h2 hok hf (by have := hpp.1; omega) hpp.2.1 ⟨_, rfl, ?_⟩
      have ebit := mkR_bit (l := seg rs p.1 p.2.2) hf.1 hf.2.1 hab ho
      rw [← f_if (f := f) ho] at ebit
      cases hh : hasS (seg rs p.1 p.2.2) (1 - o) with
      | true =>
        rw [if_pos (by rw [ebit]; exact hh)]
        have := ih (i + 1) m true (by omega) hQ0 h60 (fun m' f => by
          have := k m' f
          rw [List.all_cons, hh, Bool.true_or, Bool.true_and] at this
          exact this)
        rw [bI_t rfl] at this
        exact this
      | false =>
        rw [if_neg (by rw [ebit, hh]; decide), l3, l4]
        refine ⟨hoi, hoi, ?_⟩
        rw [q1, q3]
        have hRV := RVS hQ0 hI ho hcw hr h60 (l := seg rs p.1 p.2.2) (fun x hx => seg_mem hx) hh
        refine c_167 (c := seg rs p.1 p.2.2) (b := true) hL hC rfl (by have := hpp.1; omega) hpp.2.1 hRV.1 hRV.2 hpp.2.2.1 (fun m1 f1 => ⟨_, rfl, ?_⟩)
        have g60 : (m1.A 60).getD (f o) 0 = nI r := by rw [f1.a (by decide)]; exact h60
        have hQ1 := hQ0.fq f1 (by decide) (by decide)
        by_cases hv : val (envS o ((P (f o)).getD r [])) (seg rs p.1 p.2.2) = 2
        · rw [if_pos ((lg_k _ _).mpr (tr1.mpr hv))]
          have := ih (i + 1) m1 true (by omega) hQ1 g60 (fun m' f => by
            have := k m' (f1.trans f)
            rw [List.all_cons, hh, decide_eq_true hv, Bool.or_true, Bool.true_and] at this
            exact this)
          rw [bI_t rfl] at this
          exact this
        · rw [if_neg (fun z => hv (tr1.mp ((lg_k _ _).mp z)))]
          have := ih (i + 1) m1 false (by omega) hQ1 g60 (fun m' f => by
            have := k m' (f1.trans f)
            rw [List.all_cons, hh, decide_eq_false hv, Bool.or_false, Bool.false_and, Bool.and_false] at this
            rw [Bool.false_and]
            exact this)
          rw [bI_f (by decide)] at this
          exact this
theorem lp_179a (hI : DI D) (hPt : ∀ p, p ∈ ps → okPt rs p) (ho : o < 2) (hab : f 0 ≠ f 1) (hcw : ∀ x, x ∈ rs → x.1 = 3 → x.2.1 < wd D (f x.2.2)) : ∀ (n i : Nat) (m : Mm), i + n = (rw_ D (f o)).length → RQ m rs f D P ps → m.F 42 56 = nI (rdS D f rs ps o ((P (f o)).take i) (P (f (1 - o)))) → (∀ m', m'.F 42 56 = nI (rdS D f rs ps o (P (f o)) (P (f (1 - o)))) → Fq [56] [60, 61] m m' → K none m') → WH (d + 4) 179 37 [(0, .ref 42), (1, .int (nI (f o))), (2, .int (nI (f (1 - o)))), (3, .int (nI (kdR D (f o) rs o 0 ps))), (4, .int (oIx (usR D (f o) rs o 0 ps))), (5, .int (nI (kdR D (f (1 - o)) rs (1 - o) (o + 1) ps))), (6, .int (oIx (usR D (f (1 - o)) rs (1 - o) (o + 1) ps))), (7, .int (nI i))] [] m K := by
  intro n
  induction n with
  | zero =>
    intro i m hi hQ h56 k
    have hf := hQ.2.2.2.2.1
    have hfo := f_lt ho hf
    have l7 : (m.A 57).length = 3 := hQ.1.a (by decide) rfl
    have hD := hQ.2.2.2.2.2.1
    have hpl := (hD _ hfo).2.2.1.length_eq
    have h20 := (hI _ hfo).2.1
    refine sg_179_37 _ _ _ _ _ _ _ ?_
    rw [l7, ix_nI (by omega), (hD _ hfo).2.1, if_pos (by rw [nIle (by omega) (by omega)]; omega)]
    refine ⟨ok_nI (by omega) (by decide), k m ?_ (Fq.refl _ _ _)⟩
    rw [h56, show i = (P (f o)).length by omega, List.take_length]
  | succ n ih =>
    intro i m hi hQ h56 k
    have hf := hQ.2.2.2.2.1
    have hfo := f_lt ho hf
    have l7 : (m.A 57).length = 3 := hQ.1.a (by decide) rfl
    have hD := hQ.2.2.2.2.2.1
    have hpl := (hD _ hfo).2.2.1.length_eq
    have h20 := (hI _ hfo).2.1
    have h2 := hQ.2.2.1
    have es := rdS_snoc (D := D) (f := f) (rs := rs) (ps := ps) (o := o) (RA := P (f o)) (RB := P (f (1 - o))) (i := i) (by omega)
    refine sg_179_37 _ _ _ _ _ _ _ ?_
    rw [l7, ix_nI (by omega), (hD _ hfo).2.1, if_neg (by rw [nIle (by omega) (by omega)]; omega)]
    refine ⟨ok_nI (by omega) (by decide), ?_⟩
    refine c_176 (env := env0) (s := o) (bef := 0) hQ hI hPt (bef_out ho) (fun _ => hab) hfo (fun x hx h3 hs => by have := hcw x hx h3; rw [hs] at this; exact this) (by omega) (fun l hl hm => ?_) (fun m1 f1 => ⟨_, rfl, ?_⟩)
    · have nc := mOK0 (fun x hx h3 => h2 x (hl x hx) h3) hm
      exact ⟨fun x hx h3 => absurd h3 (nc x hx), fun x hx h3 => absurd h3 (nc x hx)⟩
    · have g56 : m1.F 42 56 = nI (rdS D f rs ps o ((P (f o)).take i) (P (f (1 - o)))) := by rw [f1.f (by decide)]; exact h56
      have l60 : (m1.A 60).length = 3 := (hQ.1.fq f1).a (by decide) rfl
      rw [ftB_R]
      have ed : rd1 D f rs ps o (P (f (1 - o))) ((P (f o)).getD i []) = if ftR rs env0 (acsS (fun c => ixd D (f o) c) rs o 0 ps) ((P (f o)).getD i []) = true then 1 + (if oHR rs ps o ((P (f o)).getD i []) = true then (P (f (1 - o))).countP (inQ D f rs ps o ((P (f o)).getD i [])) else 0) else 0 := rfl
      rw [ed] at es
      clear ed
      cases hq : ftR rs env0 (acsS (fun c => ixd D (f o) c) rs o 0 ps) ((P (f o)).getD i []) with
      | true =>
        rw [hq, if_pos rfl] at es
        rw [bI_t rfl, if_neg (by decide), l60, g56, nI_add]
        refine ⟨ok_nI (by omega) (by decide), ?_⟩
        have f2 : Fq [56] [60, 61] m1 ((m1.uF 42 56 (nI (rdS D f rs ps o ((P (f o)).take i) (P (f (1 - o))) + 1))).uA 60 ((m1.A 60).set (f o) (nI i))) := Fq.uA (Fq.uF (Fq.refl _ _ _) (by decide) _) (by decide) (by rw [List.length_set]; rfl)
        have e56 : ((m1.uF 42 56 (nI (rdS D f rs ps o ((P (f o)).take i) (P (f (1 - o))) + 1))).uA 60 ((m1.A 60).set (f o) (nI i))).F 42 56 = nI (rdS D f rs ps o ((P (f o)).take i) (P (f (1 - o))) + 1) := rfl
        have e60 : (((m1.uF 42 56 (nI (rdS D f rs ps o ((P (f o)).take i) (P (f (1 - o))) + 1))).uA 60 ((m1.A 60).set (f o) (nI i))).A 60).getD (f o) 0 = nI i := by
          show ((m1.A 60).set (f o) (nI i)).getD (f o) 0 = nI i
          rw [getD_set _ _ _ _ _ (by omega), if_pos rfl]
        generalize (m1.uF 42 56 (nI (rdS D f rs ps o ((P (f o)).take i) (P (f (1 - o))) + 1))).uA 60 ((m1.A 60).set (f o) (nI i)) = m2 at *
        have f3 : Fq [56] [60, 61] m m2 := (f1.mono (by decide) (by decide)).trans f2
        have hQ2 := hQ.fq f3 (by decide) (by decide)
        have hb := lp_179b (d := d) (K := K) (x3 := nI (kdR D (f o) rs o 0 ps)) (x4 := oIx (usR D (f o) rs o 0 ps)) (x5 := nI (kdR D (f (1 - o)) rs (1 - o) (o + 1) ps)) (x6 := oIx (usR D (f (1 - o)) rs (1 - o) (o + 1) ps)) (x7 := nI i) hI hPt ho hab hcw (r := i) (by omega) ps.length 0 m2 true (by omega) hQ2 e60
        rw [bI_t rfl, List.drop_zero, Bool.true_and] at hb
        refine hb (fun m3 f4 => ?_)
        clear hb
        have f5 : Fq [56] [60, 61] m m3 := f3.trans (f4.mono (by decide) (by decide))
        have hQ3 := hQ.fq f5 (by decide) (by decide)
        have g3 : m3.F 42 56 = nI (rdS D f rs ps o ((P (f o)).take i) (P (f (1 - o))) + 1) := by rw [f4.f (by decide)]; exact e56
        have g60 : (m3.A 60).getD (f o) 0 = nI i := by rw [f4.a (by decide)]; exact e60
        have eo : ps.all (fun p => hasS (seg rs p.1 p.2.2) (1 - o) || decide (val (envS o ((P (f o)).getD i [])) (seg rs p.1 p.2.2) = 2)) = oHR rs ps o ((P (f o)).getD i []) := rfl
        rw [eo]
        by_cases hh : oHR rs ps o ((P (f o)).getD i []) = true
        · rw [bI_t hh]
          rw [if_pos hh] at es
          refine lp_179c (c0 := rdS D f rs ps o ((P (f o)).take i) (P (f (1 - o))) + 1) hI hPt ho hab hcw (r := i) (by omega) (rw_ D (f (1 - o))).length 0 m3 (by omega) hQ3 g60 g3 (fun m4 h4 f6 => ?_)
          rw [Nat.add_assoc, ← es] at h4
          rw [nI_add]
          have f7 : Fq [56] [60, 61] m m4 := f5.trans (f6.mono (by decide) (by decide))
          exact ih (i + 1) m4 (by omega) (hQ.fq f7 (by decide) (by decide)) h4 (fun m' a1 a2 => k m' a1 (f7.trans a2))
        · rw [bI_f hh]
          rw [if_neg hh] at es
          have hfi : f (1 - o) < 3 := f_lt (by omega) hf
          have l7' : (m3.A 57).length = 3 := hQ3.1.a (by decide) rfl
          refine sg_179_165 _ _ _ _ _ _ _ _ _ ?_
          have goal := ih (i + 1) m3 (by omega) hQ3 (by rw [es]; exact g3) (fun m' a1 a2 => k m' a1 (f5.trans a2))
          rw [l7', if_pos rfl, nI_add]
          refine ⟨ok_nI (by omega) (by decide), ?_⟩
          by_cases z : (m3.A 57).getD (ix (nI (f (1 - o)))) 0 ≤ nI 0
          · rw [if_pos z]; exact goal
          · rw [if_neg z]; exact goal
      | false =>
        rw [hq, if_neg (by decide)] at es
        rw [bI_f (by decide), if_pos rfl, nI_add]
        have f3 : Fq [56] [60, 61] m m1 := f1.mono (by decide) (by decide)
        exact ih (i + 1) _ (by omega) (hQ.fq f3 (by decide) (by decide)) (by rw [es]; exact g56) (fun m' a1 f4 => k m' a1 (f3.trans f4))
/-- fetchBoth -/
theorem c_179 (hQ : RQ m rs f D P ps) (hI : DI D) (hPt : ∀ p, p ∈ ps → okPt rs p) (ho : o < 2) (hab : f 0 ≠ f 1) (hcw : ∀ x, x ∈ rs → x.1 = 3 → x.2.1 < wd D (f x.2.2)) (k : ∀ m', m'.F 42 56 = nI (rdS D f rs ps o (rw_ D (f o)) (rw_ D (f (1 - o)))) → Fq [56, 58] [60, 61] m m' → K none m') : WP (d + 4) 179 [.ref 42, .int (nI (f o)), .int (nI (f (1 - o)))] m K := by
  have hf := hQ.2.2.2.2.1
  have hfo := f_lt ho hf
  have hfi : f (1 - o) < 3 := f_lt (by omega) hf
  have hD := hQ.2.2.2.2.2.1
  rw [rdS_perm (hD _ hfo).2.2.1.symm (hD _ hfi).2.2.1.symm] at k
  refine sp_179 _ _ ?_
  refine c_174 (s := o) (bef := 0) hQ (bef_out ho) (fun _ => hab) (fun m1 f1 h58 => ⟨_, rfl, ?_⟩)
  rw [pw_sh hfo, ← stR_in (f := f) ho, h58]
  have hQ1 := hQ.fq f1 (by decide) (by decide)
  refine c_174 (s := 1 - o) (bef := o + 1) hQ1 (bef_in ho) (fun _ => hab) (fun m2 f2 h58' => ⟨_, rfl, ?_⟩)
  rw [h58']
  have f3 : Fq [56, 58] [60, 61] m (m2.uF 42 56 (nI 0)) := Fq.uF ((f1.mono (by decide) (by decide)).trans (f2.mono (by decide) (by decide))) (by decide) _
  exact lp_179a hI hPt ho hab hcw (rw_ D (f o)).length 0 _ (by omega) (hQ.fq f3 (by decide) (by decide)) rfl (fun m' a1 f4 => k m' a1 (f3.trans (f4.mono (by decide) (by decide))))
end B88
