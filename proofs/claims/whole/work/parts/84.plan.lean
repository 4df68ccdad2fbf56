/-! PLANS: the class chooses -/
theorem acs_ok {D : Db} {t : Nat} {rs : List Op} {s bef : Nat} {ps : List Pt} (hPt : ∀ p, p ∈ ps → okPt rs p) (hcw : ∀ x, x ∈ rs → x.1 = 3 → x.2.2 = s → x.2.1 < wd D t) (a : Acs) (ha : a = acsS (fun c => ixd D t c) rs s bef ps) : a.1 = 1 ∨ ((a.1 = 2 ∨ a.1 = 3) ∧ a.2.1 < wd D t ∧ a.2.2.1 ≤ a.2.2.2 ∧ a.2.2.2 ≤ rs.length ∧ tyC false (seg rs a.2.2.1 a.2.2.2) ∧ mOK (seg rs a.2.2.1 a.2.2.2) bef = true) := by
  have hus := acs_us (D := D) (t := t) (rs := rs) (s := s) (bef := bef) (ps := ps)
  rw [← ha] at hus
  by_cases h1 : a.1 = 1
  · exact Or.inl h1
  · right
    obtain ⟨i, okk, u1, u2, u3, u4, u5⟩ := hus.2 (by rw [← hus.1]; exact h1)
    have hpm : ps.getD i (0, 0, 0) ∈ ps := getD_in u2
    have hsp := pt_split (hPt _ hpm) u3
    have hcol : ∀ x y c, lone rs x y s = some c → x < rs.length → c < wd D t := by
      intro x y c hl hx
      unfold lone at hl
      split at hl
      · next hh => cases hl; exact hcw _ (getD_in hx) hh.2.1 hh.2.2
      · cases hl
    refine ⟨by rw [hus.1]; rcases u4 with z | z; exact Or.inr z.1; exact Or.inl z.1, ?_⟩
    rcases u5 with ⟨v1, v2, v3, v4⟩ | ⟨v1, v2, v3, v4⟩
    · rw [v3]
      exact ⟨hcol _ _ _ v2 (by omega), by dsimp only; omega, by dsimp only; omega, hsp.2.2.2.2.1, v4⟩
    · rw [v3]
      exact ⟨hcol _ _ _ v2 (by omega), by dsimp only; omega, by dsimp only; omega, hsp.2.2.2.1, v4⟩
/-- how many rows a plan expects -/
def expN (a : Acs) (n : Nat) : Nat := if a.1 = 2 then (n + 1) / 2 else if a.1 = 3 then 1 else n
def cst (x y : Nat) : Nat := x + x * y
theorem half_nI {n : Nat} (h : n ≤ 20) : nI (n + 1) / nI 2 = nI ((n + 1) / 2) := by
  have F : ∀ n : Fin 21, nI (n.val + 1) / nI 2 = nI ((n.val + 1) / 2) := by decide
  exact F ⟨n, by omega⟩
/-- the fixed fields of the four ways -/
def AcI (m : Mm) : Prop := (m.F 36 2 = nI 0 ∧ m.F 36 3 = nI 0) ∧ (m.F 37 2 = nI 1 ∧ m.F 37 3 = nI 0) ∧ (m.F 38 2 = nI 0 ∧ m.F 38 3 = nI 2) ∧ (m.F 39 2 = nI 1 ∧ m.F 39 3 = nI 1)
def aF (D : Db) (e : St) (s bef : Nat) : Acs := acsS (fun c => ixd D (tq e s) c) (rs_ D e) s bef e.1.2.2
def crs (D : Db) (e : St) : Bool := decide (cst (expN (aF D e 1 0) (rw_ D (tq e 1)).length) (expN (aF D e 0 2) (rw_ D (tq e 0)).length) < cst (expN (aF D e 0 0) (rw_ D (tq e 0)).length) (expN (aF D e 1 1) (rw_ D (tq e 1)).length))
section P84
variable {d : Nat} {m m0 m1 : Mm} {K : Option Value → Mm → Prop} {D : Db} {e : St} {ps : List Pt} {i j : Nat}
theorem AcI.fr {S : List Nat} (h : AcI m) (k : Fr S m m1) (h6 : 36 ∉ S) (h7 : 37 ∉ S) (h8 : 38 ∉ S) (h9 : 39 ∉ S) : AcI m1 := by
  unfold AcI at *
  rw [k.f h6, k.f h6, k.f h7, k.f h7, k.f h8, k.f h8, k.f h9, k.f h9]
  exact h
theorem AcI.fa {a : Nat} (h : AcI m) (ha : acc a) (k : FA a m m1) : AcI m1 := by
  have F : ∀ b f, (f = 2 ∨ f = 3) → m1.F b f = m.F b f := by
    intro b f hf
    by_cases e : b = a
    · subst e
      rcases hf with z | z <;> rw [z]
      · exact k.2.1
      · exact k.2.2
    · exact k.1.f (fun z => e (List.mem_singleton.mp z)) f
  unfold AcI at *
  rw [F 36 2 (Or.inl rfl), F 36 3 (Or.inr rfl), F 37 2 (Or.inl rfl), F 37 3 (Or.inr rfl), F 38 2 (Or.inl rfl), F 38 3 (Or.inr rfl), F 39 2 (Or.inl rfl), F 39 3 (Or.inr rfl)]
  exact h
theorem Ac.fr {S : List Nat} {a : Nat} {st : Acs} (h : Ac m a st) (k : Fr S m m1) (hs : a ∉ S) : Ac m1 a st := by
  unfold Ac at *
  rw [k.f hs, k.f hs, k.f hs, k.f hs]
  exact h
theorem c_117 {a t : Nat} {st : Acs} (ha : acc a) (ht : t < 3) (hD : DC m D) (hI : DI D) (hA : Ac m a st) (hst : st.1 = 1 ∨ st.1 = 2 ∨ st.1 = 3) (k : K (some (.int (nI (expN st (rw_ D t).length)))) m) : WP d 117 [.ref a, .ref (3 + 3 * t)] m K := by
  have h20 := (hI t ht).2.1
  refine sp_117 _ _ ha (tbl_t ht) ?_
  rw [hA.1, (hD t ht).2.1]
  unfold expN at k
  rcases hst with z | z | z
  · rw [if_neg (by rw [z]; decide), if_neg (by rw [z]; decide)]
    rw [if_neg (by omega), if_neg (by omega)] at k
    exact k
  · rw [if_pos (by rw [z]), nI_add, half_nI h20]
    rw [if_pos z] at k
    exact k
  · rw [if_neg (by rw [z]; decide), if_pos (by rw [z])]
    rw [if_neg (by omega), if_pos z] at k
    exact k
theorem aF_kd (s bef : Nat) : (aF D e s bef).1 = 1 ∨ (aF D e s bef).1 = 2 ∨ (aF D e s bef).1 = 3 := by
  unfold aF acsS
  split
  · exact Or.inr (Or.inr rfl)
  · split
    · exact Or.inr (Or.inl rfl)
    · exact Or.inl rfl
theorem expN_le {a : Acs} {n : Nat} (h : n ≤ 20) : expN a n ≤ 21 := by
  unfold expN
  split
  · omega
  · split <;> omega
theorem CQ.fa {a : Nat} {rs : List Op} {f : Nat → Nat} (h : CQ m rs f D ps) (ha : acc a) (k : FA a m m1) : CQ m1 rs f D ps := h.fr k.1 (by rcases ha with z | z | z | z <;> rw [z] <;> decide)
def S19 : List Nat := [30, 36, 37, 38, 39]
/-- the plan -/
theorem c_119 (hQ : CQ m (rs_ D e) (tq e) D e.1.2.2) (hI : DI D) (hS : SR m e.2) (h6 : e.2.1 6 ≤ 3) (hAc : AcI m)
    (k1 : e.2.1 6 = 0 → ∀ m', Ac m' 36 (aF D e 0 0) → m'.R 30 12 = 36 → AcI m' → (∀ g, m'.F 30 g = m.F 30 g) → Fr S19 m m' → K none m')
    (k2 : e.2.1 6 ≠ 0 → ∀ m', Ac m' 36 (aF D e 0 0) → Ac m' 39 (aF D e 1 1) → Ac m' 37 (aF D e 1 0) → Ac m' 38 (aF D e 0 2) → m'.R 30 12 = (if crs D e = true then 37 else 36) → m'.R 30 13 = (if crs D e = true then 38 else 39) → AcI m' → (∀ g, m'.F 30 g = m.F 30 g) → Fr S19 m m' → K none m') : WP (d + 5) 119 [.ref 30] m K := by
  have hf0 := hQ.2.2.2.2.2.2.2.1
  have hf1 := hQ.2.2.2.2.2.2.2.2.1
  have h2 := hQ.2.2.1
  have hPs := hQ.2.2.2.2.2.1
  have hpl := hQ.2.2.2.2.2.2.1
  refine sp_119 ?_
  refine c_41 hQ (by decide) ⟨_, rfl, tbl_t hf0, ?_⟩
  refine c_41 hQ (by decide) ⟨_, rfl, tbl_t hf1, ?_⟩
  have f1 : Fr [30] m ((m.uR 30 12 36).uR 30 13 39) := Fr.uR (Fr.uR (Fr.refl _ m) (by decide) _ _) (by decide) _ _
  have r12 : ((m.uR 30 12 36).uR 30 13 39).R 30 12 = 36 := rfl
  have r13 : ((m.uR 30 12 36).uR 30 13 39).R 30 13 = 39 := rfl
  have g30 : ∀ g, ((m.uR 30 12 36).uR 30 13 39).F 30 g = m.F 30 g := fun g => rfl
  have hA1 : AcI ((m.uR 30 12 36).uR 30 13 39) := hAc
  generalize (m.uR 30 12 36).uR 30 13 39 = m1 at *
  have hQ1 := hQ.fr f1 (by decide)
  have hS1 : SR m1 e.2 := hS.fr f1 (by decide) (F12.fr f1 (by decide))
  have a6 : acc 36 := Or.inl rfl
  have a7 : acc 37 := Or.inr (Or.inl rfl)
  have a8 : acc 38 := Or.inr (Or.inr (Or.inl rfl))
  have a9 : acc 39 := Or.inr (Or.inr (Or.inr rfl))
  refine c_114 (s := 0) (bef := 0) a6 hf0 h2 hI (Or.inl ⟨rfl, Or.inl rfl⟩) hPs hpl hQ1.1 hQ1.2.1 hQ1.2.2.2.1 hQ1.2.2.2.2.1 hA1.1.1 hA1.1.2 (fun m2 A2 f2 => ⟨rfl, ?_⟩)
  have e6 : m2.F 12 6 = ow (e.2.1 6) := by rw [f2.1.f (by decide)]; exact hS1.1 6 rfl
  have hQ2 := hQ1.fa a6 f2
  have hA2 := hA1.fa a6 f2
  have fr2 : Fr S19 m m2 := (f1.mono (by decide)).trans (f2.1.mono (by decide))
  refine sp_121 ?_
  rw [e6]
  by_cases h60 : e.2.1 6 = 0
  · rw [if_pos (by rw [h60]; rfl)]
    refine ⟨_, rfl, ?_⟩
    rw [if_pos rfl]
    exact k1 h60 m2 A2 (by rw [f2.1.r (by decide)]; exact r12) hA2 (fun g => by rw [f2.1.f (by decide)]; exact g30 g) fr2
  · obtain ⟨n, hn⟩ : ∃ n, e.2.1 6 = n + 1 := ⟨e.2.1 6 - 1, by omega⟩
    have e1 : ow (e.2.1 6) = nI n := by rw [hn]; rfl
    rw [e1, if_neg (by rw [m1_eq (by omega)]; exact id)]
    refine ⟨_, rfl, ?_⟩
    rw [if_neg (by decide)]
    refine c_114 (s := 1) (bef := 1) a9 hf1 h2 hI (Or.inr ⟨rfl, Or.inr rfl⟩) hPs hpl hQ2.1 hQ2.2.1 hQ2.2.2.2.1 hQ2.2.2.2.2.1 hA2.2.2.2.1 hA2.2.2.2.2 (fun m3 A3 f3 => ⟨rfl, ?_⟩)
    have hQ3 := hQ2.fa a9 f3
    have hA3 := hA2.fa a9 f3
    refine c_114 (s := 1) (bef := 0) a7 hf1 h2 hI (Or.inr ⟨rfl, Or.inl rfl⟩) hPs hpl hQ3.1 hQ3.2.1 hQ3.2.2.2.1 hQ3.2.2.2.2.1 hA3.2.1.1 hA3.2.1.2 (fun m4 A4 f4 => ⟨rfl, ?_⟩)
    have hQ4 := hQ3.fa a7 f4
    have hA4 := hA3.fa a7 f4
    refine c_114 (s := 0) (bef := 2) a8 hf0 h2 hI (Or.inl ⟨rfl, Or.inr rfl⟩) hPs hpl hQ4.1 hQ4.2.1 hQ4.2.2.2.1 hQ4.2.2.2.2.1 hA4.2.2.1.1 hA4.2.2.1.2 (fun m5 A5 f5 => ⟨rfl, ?_⟩)
    have hQ5 := hQ4.fa a8 f5
    have hA5 := hA4.fa a8 f5
    have hD5 := hQ5.2.2.2.1
    have B6 : Ac m5 36 (aF D e 0 0) := ((A2.fr f3.1 (by decide)).fr f4.1 (by decide)).fr f5.1 (by decide)
    have B9 : Ac m5 39 (aF D e 1 1) := (A3.fr f4.1 (by decide)).fr f5.1 (by decide)
    have B7 : Ac m5 37 (aF D e 1 0) := A4.fr f5.1 (by decide)
    have B8 : Ac m5 38 (aF D e 0 2) := A5
    have fr5 : Fr S19 m m5 := ((fr2.trans (f3.1.mono (by decide))).trans (f4.1.mono (by decide))).trans (f5.1.mono (by decide))
    have G30 : ∀ g, m5.F 30 g = m.F 30 g := fun g => by rw [f5.1.f (by decide), f4.1.f (by decide), f3.1.f (by decide), f2.1.f (by decide)]; exact g30 g
    have R12 : m5.R 30 12 = 36 := by rw [f5.1.r (by decide), f4.1.r (by decide), f3.1.r (by decide), f2.1.r (by decide)]; exact r12
    have R13 : m5.R 30 13 = 39 := by rw [f5.1.r (by decide), f4.1.r (by decide), f3.1.r (by decide), f2.1.r (by decide)]; exact r13
    have n0 := (hI _ hf0).2.1
    have n1 := (hI _ hf1).2.1
    have x1 := expN_le (a := aF D e 0 0) n0
    have x2 := expN_le (a := aF D e 1 1) n1
    have x3 := expN_le (a := aF D e 1 0) n1
    have x4 := expN_le (a := aF D e 0 2) n0
    refine c_117 a6 hf0 hD5 hI B6 (aF_kd 0 0) ⟨_, rfl, ?_⟩
    refine c_117 a9 hf1 hD5 hI B9 (aF_kd 1 1) ⟨_, rfl, ?_⟩
    refine sp_120 _ _ ⟨_, rfl, ?_⟩
    refine c_117 a7 hf1 hD5 hI B7 (aF_kd 1 0) ⟨_, rfl, ?_⟩
    refine c_117 a8 hf0 hD5 hI B8 (aF_kd 0 2) ⟨_, rfl, ?_⟩
    refine sp_120 _ _ ⟨_, rfl, ?_⟩
    rw [pk_mul, pk_mul, nI_add, nI_add]
    have p1 : expN (aF D e 0 0) (rw_ D (tq e 0)).length * expN (aF D e 1 1) (rw_ D (tq e 1)).length ≤ 21 * 21 := Nat.mul_le_mul x1 x2
    have p2 : expN (aF D e 1 0) (rw_ D (tq e 1)).length * expN (aF D e 0 2) (rw_ D (tq e 0)).length ≤ 21 * 21 := Nat.mul_le_mul x3 x4
    have k2 := k2 h60
    by_cases hc : cst (expN (aF D e 1 0) (rw_ D (tq e 1)).length) (expN (aF D e 0 2) (rw_ D (tq e 0)).length) < cst (expN (aF D e 0 0) (rw_ D (tq e 0)).length) (expN (aF D e 1 1) (rw_ D (tq e 1)).length)
    · have hcr : crs D e = true := decide_eq_true hc
      rw [hcr, if_pos rfl, if_pos rfl] at k2
      unfold cst at hc
      rw [if_neg (by rw [nIle (by omega) (by omega)]; omega)]
      refine k2 _ B6 B9 B7 B8 rfl rfl hA5 G30 ?_
      exact Fr.uR (Fr.uR fr5 (by decide) _ _) (by decide) _ _
    · have hcr : crs D e = false := decide_eq_false hc
      rw [hcr, if_neg (by decide), if_neg (by decide)] at k2
      unfold cst at hc
      rw [if_pos (by rw [nIle (by omega) (by omega)]; omega)]
      exact k2 m5 B6 B9 B7 B8 R12 R13 hA5 G30 fr5
end P84
