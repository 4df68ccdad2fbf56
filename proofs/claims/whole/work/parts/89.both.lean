/-! fetchTwo() of the reference -/
def crS (D : Db) (f : Nat → Nat) (rs : List Op) (ps : List Pt) : Bool := decide (cst (expN (aS D (f 1) rs 1 0 ps) (rw_ D (f 1)).length) (expN (aS D (f 0) rs 0 2 ps) (rw_ D (f 0)).length) < cst (expN (aS D (f 0) rs 0 0 ps) (rw_ D (f 0)).length) (expN (aS D (f 1) rs 1 1 ps) (rw_ D (f 1)).length))
def oS (D : Db) (f : Nat → Nat) (rs : List Op) (ps : List Pt) : Nat := if crS D f rs ps = true then 1 else 0
def plS (D : Db) (f : Nat → Nat) (rs : List Op) (ps : List Pt) : Nat := if crS D f rs ps = true then (aS D (f 1) rs 1 0 ps).1 + 4 * (aS D (f 0) rs 0 2 ps).1 + 16 else (aS D (f 0) rs 0 0 ps).1 + 4 * (aS D (f 1) rs 1 1 ps).1
theorem aS_kd {D : Db} {t : Nat} {rs : List Op} {s bef : Nat} {ps : List Pt} : (aS D t rs s bef ps).1 = 1 ∨ (aS D t rs s bef ps).1 = 2 ∨ (aS D t rs s bef ps).1 = 3 := by
  show (acsS (fun c => ixd D t c) rs s bef ps).1 = 1 ∨ (acsS (fun c => ixd D t c) rs s bef ps).1 = 2 ∨ (acsS (fun c => ixd D t c) rs s bef ps).1 = 3
  rw [(acs_us (D := D) (t := t) (rs := rs) (s := s) (bef := bef) (ps := ps)).1]
  unfold kdR
  split
  · exact Or.inr (Or.inr rfl)
  · split
    · exact Or.inr (Or.inl rfl)
    · exact Or.inl rfl
theorem kd_aS {D : Db} {t : Nat} {rs : List Op} {s bef : Nat} {ps : List Pt} : kdR D t rs s bef ps = (aS D t rs s bef ps).1 := (acs_us (D := D) (t := t) (rs := rs) (s := s) (bef := bef) (ps := ps)).1.symm
theorem mul4_nI {x : Nat} (h : x ≤ 3) : nI 4 * nI x = nI (4 * x) := by
  rcases (by omega : x = 0 ∨ x = 1 ∨ x = 2 ∨ x = 3) with rfl | rfl | rfl | rfl <;> decide
section B89
variable {d : Nat} {m m0 m1 : Mm} {K : Option Value → Mm → Prop} {rs : List Op} {D : Db} {ps : List Pt} {f : Nat → Nat} {P : Nat → List (List Int64)}
theorem c_175 {t : Nat} {st : Acs} (hL : Len m) (ht : t < 3) (hD : DR m D P) (hI : DI D) (hst : st.1 = 1 ∨ st.1 = 2 ∨ st.1 = 3) (k : K (some (.int (nI (expN st (rw_ D t).length)))) m) : WP d 175 [.ref 42, .int (nI t), .int (nI st.1)] m K := by
  have h20 := (hI t ht).2.1
  have l7 : (m.A 57).length = 3 := hL.a (by decide) rfl
  refine sp_175 _ _ ?_
  rw [l7, ix_nI (by omega), (hD t ht).2.1]
  unfold expN at k
  rcases hst with z | z | z
  · rw [z, if_neg (by decide), if_neg (by decide)]
    rw [z, if_neg (by decide), if_neg (by decide)] at k
    exact ⟨ok_nI (by omega) (by decide), k⟩
  · rw [z, if_neg (by decide), if_pos rfl, nI_add, half_nI h20]
    rw [z, if_pos rfl] at k
    exact ⟨ok_nI (by omega) (by decide), k⟩
  · rw [z, if_pos rfl]
    rw [z, if_neg (by decide), if_pos rfl] at k
    exact k
theorem c_178 (hQ : RQ m rs f D P ps) (hI : DI D) (hPt : ∀ p, p ∈ ps → okPt rs p) (hab : f 0 ≠ f 1) (hcw : ∀ x, x ∈ rs → x.1 = 3 → x.2.1 < wd D (f x.2.2)) (h0 : (m.A 50).getD 0 0 = nI (f 0)) (h1 : (m.A 50).getD 1 0 = nI (f 1)) (k : ∀ m', m'.F 42 56 = nI (rdS D f rs ps (oS D f rs ps) (rw_ D (f (oS D f rs ps))) (rw_ D (f (1 - oS D f rs ps)))) → m'.F 42 57 = nI (plS D f rs ps) → Fq [56, 57, 58] [60, 61] m m' → K none m') : WP (d + 5) 178 [.ref 42] m K := by
  have hf := hQ.2.2.2.2.1
  have l5 : (m.A 50).length = 2 := hQ.1.a (by decide) rfl
  have b0 : ok 2 (nI 0) := ok_nI (by decide) (by decide)
  have b1 : ok 2 (nI 1) := ok_nI (by decide) (by decide)
  refine sp_178 ?_
  rw [l5, show ix (nI 0) = 0 from rfl, show ix (nI 1) = 1 from rfl, h0, h1]
  refine ⟨b0, b1, ?_⟩
  rw [pw_sh hf.1, pw_sh hf.2.1]
  refine c_174 (d := d + 1) (s := 0) (bef := 0) hQ (bef_out (by decide)) (fun _ => hab) (fun m1 f1 _ => ⟨_, rfl, ?_⟩)
  have hQ1 := hQ.fq f1 (by decide) (by decide)
  refine c_174 (d := d + 1) (s := 1) (bef := 1) hQ1 (bef_in (o := 0) (by decide)) (fun _ => hab) (fun m2 f2 _ => ⟨_, rfl, ?_⟩)
  have hQ2 := hQ1.fq f2 (by decide) (by decide)
  refine c_174 (d := d + 1) (s := 1) (bef := 0) hQ2 (bef_out (by decide)) (fun _ => hab) (fun m3 f3 _ => ⟨_, rfl, ?_⟩)
  have hQ3 := hQ2.fq f3 (by decide) (by decide)
  refine c_174 (d := d + 1) (s := 0) (bef := 2) hQ3 (bef_in (o := 1) (by decide)) (fun _ => hab) (fun m4 f4 _ => ⟨_, rfl, ?_⟩)
  have hQ4 := hQ3.fq f4 (by decide) (by decide)
  have fA : Fq [56, 57, 58] [60, 61] m m4 := (((f1.trans f2).trans f3).trans f4).mono (by decide) (by decide)
  have hD4 := hQ4.2.2.2.2.2.1
  rw [kd_aS, kd_aS, kd_aS, kd_aS]
  refine c_175 hQ4.1 hf.1 hD4 hI aS_kd ⟨_, rfl, ?_⟩
  refine c_175 hQ4.1 hf.1 hD4 hI aS_kd ⟨_, rfl, ?_⟩
  refine c_175 hQ4.1 hf.2.1 hD4 hI aS_kd ⟨_, rfl, ?_⟩
  refine c_175 hQ4.1 hf.2.1 hD4 hI aS_kd ⟨_, rfl, ?_⟩
  refine c_175 hQ4.1 hf.2.1 hD4 hI aS_kd ⟨_, rfl, ?_⟩
  refine c_175 hQ4.1 hf.1 hD4 hI aS_kd ⟨_, rfl, ?_⟩
  have n0 := (hI _ hf.1).2.1
  have n1 := (hI _ hf.2.1).2.1
  have x1 := expN_le (a := aS D (f 0) rs 0 0 ps) n0
  have x2 := expN_le (a := aS D (f 1) rs 1 1 ps) n1
  have x3 := expN_le (a := aS D (f 1) rs 1 0 ps) n1
  have x4 := expN_le (a := aS D (f 0) rs 0 2 ps) n0
  have k0 := aS_kd (D := D) (t := f 0) (rs := rs) (s := 0) (bef := 0) (ps := ps)
  have k1 := aS_kd (D := D) (t := f 1) (rs := rs) (s := 1) (bef := 1) (ps := ps)
  have k2 := aS_kd (D := D) (t := f 1) (rs := rs) (s := 1) (bef := 0) (ps := ps)
  have k3 := aS_kd (D := D) (t := f 0) (rs := rs) (s := 0) (bef := 2) (ps := ps)
  rw [pk_mul, pk_mul, nI_add, nI_add]
  have p1 : expN (aS D (f 0) rs 0 0 ps) (rw_ D (f 0)).length * expN (aS D (f 1) rs 1 1 ps) (rw_ D (f 1)).length ≤ 21 * 21 := Nat.mul_le_mul x1 x2
  have p2 : expN (aS D (f 1) rs 1 0 ps) (rw_ D (f 1)).length * expN (aS D (f 0) rs 0 2 ps) (rw_ D (f 0)).length ≤ 21 * 21 := Nat.mul_le_mul x3 x4
  rw [mul4_nI (by omega), mul4_nI (by omega), nI_add, nI_add, nI_add]
  by_cases hc : cst (expN (aS D (f 1) rs 1 0 ps) (rw_ D (f 1)).length) (expN (aS D (f 0) rs 0 2 ps) (rw_ D (f 0)).length) < cst (expN (aS D (f 0) rs 0 0 ps) (rw_ D (f 0)).length) (expN (aS D (f 1) rs 1 1 ps) (rw_ D (f 1)).length)
  · have hcr : crS D f rs ps = true := decide_eq_true hc
    have eo : oS D f rs ps = 1 := if_pos hcr
    have ep : plS D f rs ps = (aS D (f 1) rs 1 0 ps).1 + 4 * (aS D (f 0) rs 0 2 ps).1 + 16 := if_pos hcr
    rw [eo, ep] at k
    unfold cst at hc
    rw [if_neg (by rw [nIle (by omega) (by omega)]; omega)]
    have fB : Fq [56, 57, 58] [60, 61] m (m4.uF 42 57 (nI ((aS D (f 1) rs 1 0 ps).1 + 4 * (aS D (f 0) rs 0 2 ps).1 + 16))) := Fq.uF fA (by decide) _
    refine c_179 (o := 1) (hQ.fq fB (by decide) (by decide)) hI hPt (by decide) hab hcw (fun m5 a1 f5 => ⟨rfl, k m5 a1 ?_ (fB.trans (f5.mono (by decide) (by decide)))⟩)
    rw [f5.f (by decide)]; rfl
  · have hcr : crS D f rs ps = false := decide_eq_false hc
    have eo : oS D f rs ps = 0 := if_neg (by rw [hcr]; decide)
    have ep : plS D f rs ps = (aS D (f 0) rs 0 0 ps).1 + 4 * (aS D (f 1) rs 1 1 ps).1 := if_neg (by rw [hcr]; decide)
    rw [eo, ep] at k
    unfold cst at hc
    rw [if_pos (by rw [nIle (by omega) (by omega)]; omega)]
    have fB : Fq [56, 57, 58] [60, 61] m (m4.uF 42 57 (nI ((aS D (f 0) rs 0 0 ps).1 + 4 * (aS D (f 1) rs 1 1 ps).1))) := Fq.uF fA (by decide) _
    refine c_179 (o := 0) (hQ.fq fB (by decide) (by decide)) hI hPt (by decide) hab hcw (fun m5 a1 f5 => ⟨rfl, k m5 a1 ?_ (fB.trans (f5.mono (by decide) (by decide)))⟩)
    rw [f5.f (by decide)]; rfl
end B89
