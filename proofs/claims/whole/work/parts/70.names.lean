/-! NAMES: the reference's known() -/
def tb (e : St) (s : Nat) : Nat := if s = 0 then e.2.1 5 else e.2.1 6 - 1
def hitT (D : Db) (own col t : Nat) : Bool := decide ((own = 0 ∨ own = t + 1) ∧ col < wd D t)
theorem q4' {a c : Nat} (ha : a < 4) (hc : c < 4) : nI (4 * a + c) / nI 4 - nI 1 = ow a ∧ nI (4 * a + c) - nI (4 * a + c) / nI 4 * nI 4 = nI c := by
  rcases (by omega : a = 0 ∨ a = 1 ∨ a = 2 ∨ a = 3) with rfl | rfl | rfl | rfl <;> rcases (by omega : c = 0 ∨ c = 1 ∨ c = 2 ∨ c = 3) with rfl | rfl | rfl | rfl <;> decide
section N70
variable {d N : Nat} {m m0 m1 : Mm} {K : Option Value → Mm → Prop} {D : Db} {e : St} {P : Nat → List (List Int64)}
/-- one of the named tables -/
theorem s165 {n nm t own col i : Nat} {x4 : Nat} (hL : Len m) (hD : DR m D P) (hI : DI D) (h19 : m.F 42 19 = nI nm) (hnm : nm ≤ 2) (hn : n < nm) (ht : t < 3) (h50 : (m.A 50).getD n 0 = nI t) (ho : own ≤ 3) (hc : col < 4) (hi : i < 80) (hx4 : x4 < 10) (k : ∀ m', Fq [] [47] m m' → m'.A 47 = (if hitT D own col t = true then (m.A 47).set i (nI (4 * t + col)) else m.A 47) → WH d 165 26 [(0, .ref 42), (1, .int (nI i)), (2, .int (nI col)), (3, .int (ow own)), (4, .int (nI (if hitT D own col t = true then x4 + 1 else x4))), (5, .int (nI (n + 1)))] [] m' K) : WH d 165 26 [(0, .ref 42), (1, .int (nI i)), (2, .int (nI col)), (3, .int (ow own)), (4, .int (nI x4)), (5, .int (nI n))] [] m K := by
  have l1 : (m.A 50).length = 2 := hL.a (by decide) rfl
  have l2 : (m.A 56).length = 3 := hL.a (by decide) rfl
  have l3 : (m.A 47).length = 110 := hL.a (by decide) rfl
  have hw := (hD t ht).1
  have hw4 := (hI t ht).1
  have o1 : ok 2 (nI n) := ok_nI (by omega) (by decide)
  have o2 : ok 3 (nI t) := ok_nI (by omega) (by decide)
  have o3 : ok 110 (nI i) := ok_nI (by omega) (by decide)
  have yes : (own = 0 ∨ own = t + 1) → (if nI (wd D t) ≤ nI col then WH d 165 26 [(0, .ref 42), (1, .int (nI i)), (2, .int (nI col)), (3, .int (ow own)), (4, .int (nI x4)), (5, .int (nI (n + 1)))] [] m K else ok 2 (nI n) ∧ ok 110 (nI i) ∧ WH d 165 26 [(0, .ref 42), (1, .int (nI i)), (2, .int (nI col)), (3, .int (ow own)), (4, .int (nI (x4 + 1))), (5, .int (nI (n + 1)))] [] (m.uA 47 ((m.A 47).set i (nI (4 * t + col)))) K) := by
    intro hh
    by_cases hcw : col < wd D t
    · have ht : hitT D own col t = true := decide_eq_true ⟨hh, hcw⟩
      rw [if_neg (by rw [nIle (by omega) (by omega)]; omega)]
      rw [ht] at k
      refine ⟨o1, o3, k _ ?_ rfl⟩
      refine Fq.uA (Fq.refl _ _ _) (by decide) ?_
      rw [List.length_set]
    · have ht : hitT D own col t = false := decide_eq_false (fun z => hcw z.2)
      rw [if_pos (by rw [nIle (by omega) (by omega)]; omega)]
      rw [ht] at k
      exact k m (Fq.refl _ _ _) rfl
  have no : ¬ (own = 0 ∨ own = t + 1) → WH d 165 26 [(0, .ref 42), (1, .int (nI i)), (2, .int (nI col)), (3, .int (ow own)), (4, .int (nI x4)), (5, .int (nI (n + 1)))] [] m K := by
    intro hh
    have ht : hitT D own col t = false := decide_eq_false (fun z => hh z.1)
    rw [ht] at k
    exact k m (Fq.refl _ _ _) rfl
  refine sg_165_26 _ _ _ _ _ ?_
  rw [if_neg (by rw [h19, nIle (by omega) (by omega)]; omega), l1, l2, l3, ix_nI (by omega), h50, ix_nI (by omega), hw, ix_nI (by omega), nI_add, nI_add, pk_mul, nI_add]
  by_cases h0 : own = 0
  · subst h0
    rw [if_pos (by decide)]
    exact ⟨o1, o2, yes (Or.inl rfl)⟩
  · obtain ⟨j, rfl⟩ : ∃ j, own = j + 1 := ⟨own - 1, by omega⟩
    have e1 : ow (j + 1) = nI j := rfl
    rw [if_neg (by rw [e1, nIlt (by omega) (by omega)]; omega)]
    refine ⟨o1, ?_⟩
    by_cases hjt : j = t
    · rw [if_pos (by rw [e1, hjt])]
      exact ⟨o1, o2, yes (Or.inr (by omega))⟩
    · rw [if_neg (by rw [e1, nIeq (by omega) (by omega)]; exact hjt)]
      exact no (fun z => by omega)
theorem c_165 {nm own col i : Nat} (hL : Len m) (hD : DR m D P) (hI : DI D) (hS : RS m e.2 nm) (hnm : 0 < nm) (h5 : e.2.1 5 < 3) (h6 : e.2.1 6 ≤ 3) (ho : own ≤ 3) (hc : col < 4) (hi : i < 80) (ha : (m.A 47).getD i 0 = nI (4 * own + col))
    (k1 : ∀ s, sdO D e own col = some s → ∀ m', Fq [] [47] m m' → m'.A 47 = (m.A 47).set i (nI (4 * tb e s + col)) → K (some (.int (nI 1))) m')
    (k2 : sdO D e own col = none → ∀ m', Fq [] [47] m m' → K (some (.int (nI 0))) m') : WP d 165 [.ref 42, .int (nI i)] m K := by
  have l3 : (m.A 47).length = 110 := hL.a (by decide) rfl
  have o3 : ok 110 (nI i) := ok_nI (by omega) (by decide)
  have hq := q4' (show own < 4 by omega) hc
  obtain ⟨z1, z2, z3, z4, _⟩ := hS
  have eF : hitT D own col (e.2.1 5) = inF D e own col := rfl
  refine sp_165 _ ?_
  rw [l3, ix_nI (by omega), ha, hq.1, hq.2]
  refine ⟨o3, o3, ?_⟩
  refine s165 (t := e.2.1 5) (x4 := 0) hL hD hI z1 z2 hnm h5 (z3 hnm) ho hc hi (by decide) (fun m1 f1 a1 => ?_)
  rw [eF] at a1 ⊢
  have fin : ∀ m2 (x : Nat) (b : Bool), Fq [] [47] m m2 → m2.F 42 19 = nI nm → x = (if inF D e own col = true then 1 else 0) + (if b = true then 1 else 0) → inS D e own col = b → (inF D e own col = true → b = false → m2.A 47 = (m.A 47).set i (nI (4 * e.2.1 5 + col))) → (inF D e own col = false → b = true → m2.A 47 = (m.A 47).set i (nI (4 * (e.2.1 6 - 1) + col))) → WH d 165 26 [(0, .ref 42), (1, .int (nI i)), (2, .int (nI col)), (3, .int (ow own)), (4, .int (nI x)), (5, .int (nI nm))] [] m2 K := by
    intro m2 x b f2 g19 hx hb hA hB
    refine sg_165_26 _ _ _ _ _ ?_
    rw [if_pos (by rw [g19, nIle (by omega) (by omega)]; exact Nat.le_refl _)]
    unfold sdO at k1 k2
    rw [hb] at k1 k2
    cases hf : inF D e own col with
    | true =>
      rw [hf] at hx hA k1 k2
      cases b with
      | true =>
        rw [hx, if_neg (by decide)]
        exact k2 (by rw [if_pos rfl]) m2 f2
      | false =>
        rw [hx, if_pos rfl]
        exact k1 0 (by rw [if_neg (by decide), if_pos rfl]) m2 f2 (hA rfl rfl)
    | false =>
      rw [hf] at hx hB k1 k2
      cases b with
      | true =>
        rw [hx, if_pos rfl]
        exact k1 1 (by rw [if_neg (by decide), if_neg (by decide)]) m2 f2 (hB rfl rfl)
      | false =>
        rw [hx, if_neg (by decide)]
        exact k2 (by rw [if_pos rfl]) m2 f2
  have g19 : m1.F 42 19 = nI nm := by rw [f1.f (by decide)]; exact z1
  by_cases h2 : nm = 2
  · subst h2
    rw [if_pos rfl] at z4
    have eS : hitT D own col (e.2.1 6 - 1) = inS D e own col := by
      unfold hitT inS
      rw [show e.2.1 6 - 1 + 1 = e.2.1 6 by omega]
      congr 1
      exact propext ⟨fun z => ⟨by omega, z⟩, fun z => z.2⟩
    refine s165 (t := e.2.1 6 - 1) (hL.fq f1) (hD.fq f1 (by decide)) hI g19 (by decide) (by decide) (by omega) (by rw [f1.a (by decide)]; exact z4.1) ho hc hi (by split <;> decide) (fun m2 f2 a2 => ?_)
    rw [eS] at a2 ⊢
    refine fin m2 _ (inS D e own col) (f1.trans f2) (by rw [f2.f (by decide)]; exact g19) ?_ rfl ?_ ?_
    · cases inF D e own col <;> cases inS D e own col <;> rfl
    · intro h1 h2
      rw [h2] at a2
      rw [h1] at a1
      rw [a2]; exact a1
    · intro h1 h2
      rw [h2] at a2
      rw [h1] at a1
      have a1 : m1.A 47 = m.A 47 := a1
      rw [a2, a1]; rfl
  · have h1 : nm = 1 := by omega
    subst h1
    rw [if_neg (by decide)] at z4
    have eS : inS D e own col = false := decide_eq_false (fun z => z.1 z4)
    refine fin m1 _ false f1 g19 ?_ eS (fun h1 _ => ?_) (fun _ h => by cases h)
    · cases inF D e own col <;> rfl
    · rw [h1] at a1; exact a1
/-- the steps, the first i of them resolved -/
def RCi (m : Mm) (D : Db) (e : St) (i : Nat) : Prop := ∀ j, j < e.1.2.1.length → (m.A 46).getD j 0 = nI (rop (e.1.2.1.getD j (0, 0, 0)).1) ∧ (m.A 47).getD j 0 = (if j < i ∧ (e.1.2.1.getD j (0, 0, 0)).1 = 3 then nI (4 * tb e ((sdO D e (e.1.2.1.getD j (0, 0, 0)).2.2 (e.1.2.1.getD j (0, 0, 0)).2.1).getD 0) + (e.1.2.1.getD j (0, 0, 0)).2.1) else nI (rar (e.1.2.1.getD j (0, 0, 0))))
theorem rop3 {k : Nat} (hk : k < 1000) : (nI (rop k) = nI 3) = (k = 3) := by
  have h : rop k < 100 ∧ (rop k = 3 ↔ k = 3) := by
    unfold rop
    by_cases h2 : k = 2
    · rw [if_pos h2]; omega
    rw [if_neg h2]
    by_cases h15 : k = 15
    · rw [if_pos h15]; omega
    rw [if_neg h15]
    by_cases h3 : k = 3
    · rw [if_pos h3]; omega
    rw [if_neg h3]
    by_cases h4 : k = 43
    · rw [if_pos h4]; omega
    rw [if_neg h4]
    by_cases h5 : k = 45
    · rw [if_pos h5]; omega
    rw [if_neg h5]
    by_cases h6 : k = 42
    · rw [if_pos h6]; omega
    rw [if_neg h6]
    by_cases h7 : k = 47
    · rw [if_pos h7]; omega
    rw [if_neg h7]
    by_cases h8 : k = 30
    · rw [if_pos h8]; omega
    rw [if_neg h8]
    by_cases h9 : k = 61
    · rw [if_pos h9]; omega
    rw [if_neg h9]
    by_cases h10 : k = 60
    · rw [if_pos h10]; omega
    rw [if_neg h10]
    by_cases h11 : k = 62
    · rw [if_pos h11]; omega
    rw [if_neg h11]
    by_cases h12 : k = 31
    · rw [if_pos h12]; omega
    rw [if_neg h12]
    by_cases h13 : k = 18
    · rw [if_pos h13]; omega
    rw [if_neg h13]
    by_cases h14 : k = 17
    · rw [if_pos h14]; omega
    rw [if_neg h14]
    by_cases h16 : k = 16
    · rw [if_pos h16]; omega
    rw [if_neg h16]
    omega
  rw [nIeq (by omega) (by omega)]
  exact propext h.2
theorem lp_239 {nm : Nat} (hW : okc e.1.2.1) (hlen : e.1.2.1.length ≤ 80) (h5 : e.2.1 5 < 3) (h6 : e.2.1 6 ≤ 3) (hI : DI D) (hnm : 0 < nm) {x4 : Int32} (hx4 : (x4 = nI 1 ∧ e.2.1 4 = 6) ∨ (x4 = nI 0 ∧ e.2.1 4 ≠ 6)) : ∀ (n i : Nat) (m : Mm), i + n = e.1.2.1.length → Len m → RS m e.2 nm → m.F 42 7 = nI e.1.2.1.length → RCi m D e i → DR m D P → (∀ j, j < i → okSb D e (e.1.2.1.getD j (0, 0, 0)) = true) → (e.1.2.1.all (okSb D e) = true → ∀ m', Fq [] [47] m m' → RCi m' D e e.1.2.1.length → K (some (.int (nI 1))) m') → (e.1.2.1.all (okSb D e) = false → ∀ m', Fq [] [47] m m' → K (some (.int (nI 0))) m') → WH (d + 1) 164 239 [(0, .ref 42), (4, .int x4), (5, .int (nI i))] [] m K := by
  intro n
  induction n with
  | zero =>
    intro i m hi hL hS h7 hC hD hj k1 k2
    refine sg_164_239 _ _ ?_
    rw [if_pos (by rw [h7, nIle (by omega) (by omega)]; omega)]
    refine k1 ?_ m (Fq.refl _ _ _) (by rw [show e.1.2.1.length = i by omega]; exact hC)
    rw [List.all_eq_true]
    intro x hx
    obtain ⟨j, hjl, ej⟩ := List.mem_iff_getElem.mp hx
    have := hj j (by omega)
    rw [List.getD_eq_getElem?_getD, List.getElem?_eq_getElem hjl] at this
    rw [← ej]; exact this
  | succ n ih =>
    intro i m hi hL hS h7 hC hD hj k1 k2
    have l1 : (m.A 46).length = 110 := hL.a (by decide) rfl
    have l3 : (m.A 47).length = 110 := hL.a (by decide) rfl
    have hxm : e.1.2.1.getD i (0, 0, 0) ∈ e.1.2.1 := getD_in (by omega)
    have hx := hW _ hxm
    obtain ⟨c1, c2⟩ := hC i (by omega)
    have bad : okSb D e (e.1.2.1.getD i (0, 0, 0)) = false → e.1.2.1.all (okSb D e) = false := by
      intro h
      cases hz : e.1.2.1.all (okSb D e) with
      | false => rfl
      | true =>
        have := List.all_eq_true.mp hz _ hxm
        rw [h] at this; cases this
    have stepj : ∀ m' : Mm, m'.A 46 = m.A 46 → (∀ j, j ≠ i → (m'.A 47).getD j 0 = (m.A 47).getD j 0) → ((e.1.2.1.getD i (0, 0, 0)).1 = 3 → (m'.A 47).getD i 0 = nI (4 * tb e ((sdO D e (e.1.2.1.getD i (0, 0, 0)).2.2 (e.1.2.1.getD i (0, 0, 0)).2.1).getD 0) + (e.1.2.1.getD i (0, 0, 0)).2.1)) → ((e.1.2.1.getD i (0, 0, 0)).1 ≠ 3 → (m'.A 47).getD i 0 = (m.A 47).getD i 0) → RCi m' D e (i + 1) := by
      intro m' h46 h47 h' h'' j hjl
      obtain ⟨y1, y2⟩ := hC j hjl
      refine ⟨by rw [h46]; exact y1, ?_⟩
      by_cases hji : j = i
      · subst hji
        by_cases h3 : (e.1.2.1.getD j (0, 0, 0)).1 = 3
        · rw [if_pos ⟨by omega, h3⟩]; exact h' h3
        · rw [if_neg (fun z => h3 z.2)]; rw [if_neg (fun z => h3 z.2)] at y2; rw [h'' h3]; exact y2
      · rw [h47 j hji, y2]
        by_cases h3 : j < i ∧ (e.1.2.1.getD j (0, 0, 0)).1 = 3
        · rw [if_pos h3, if_pos ⟨by omega, h3.2⟩]
        · rw [if_neg h3, if_neg (fun z => h3 ⟨by omega, z.2⟩)]
    refine sg_164_239 _ _ ?_
    rw [if_neg (by rw [h7, nIle (by omega) (by omega)]; omega), l1, ix_nI (by omega), c1]
    refine ⟨ok_nI (by omega) (by decide), ?_⟩
    by_cases h3 : (e.1.2.1.getD i (0, 0, 0)).1 = 3
    · rw [if_pos (by rw [rop3 hx.1]; exact h3)]
      rcases hx4 with ⟨z1, z2⟩ | ⟨z1, z2⟩
      · rw [if_neg (by rw [z1]; decide)]
        refine sg_164_273 (k2 (bad ?_) m (Fq.refl _ _ _))
        unfold okSb
        rw [h3, z2]; rfl
      · rw [if_pos z1]
        have hr : rar (e.1.2.1.getD i (0, 0, 0)) = 4 * (e.1.2.1.getD i (0, 0, 0)).2.2 + (e.1.2.1.getD i (0, 0, 0)).2.1 := by unfold rar; rw [if_pos h3]
        rw [if_neg (fun z => by omega), hr] at c2
        refine c_165 hL hD hI hS hnm h5 h6 (hx.2.1 h3).2 (hx.2.1 h3).1 (by omega) c2 (fun s hs m1 f1 a1 => ⟨_, rfl, ?_⟩) (fun hs m1 f1 => ⟨_, rfl, ?_⟩)
        · rw [if_neg (by decide)]
          refine sg_164_275 _ _ ?_
          rw [nI_add]
          refine ih (i + 1) m1 (by omega) (hL.fq f1) (hS.fq f1 (by decide) (by decide)) (by rw [f1.f (by decide)]; exact h7) (stepj m1 (f1.a (by decide)) (fun j hji => ?_) (fun _ => ?_) (fun z => absurd h3 z)) (hD.fq f1 (by decide)) (fun j hj2 => ?_) (fun ha m2 f2 => k1 ha m2 (f1.trans f2)) (fun ha m2 f2 => k2 ha m2 (f1.trans f2))
          · rw [a1, getD_set _ _ _ _ _ (by omega), if_neg hji]
          · rw [a1, getD_set _ _ _ _ _ (by omega), if_pos rfl, hs]; rfl
          · by_cases hji : j = i
            · subst hji
              unfold okSb
              rw [hs]
              simp [z2]
            · exact hj j (by omega)
        · rw [if_pos rfl]
          refine sg_164_273 (k2 (bad ?_) m1 f1)
          unfold okSb
          rw [hs, h3]
          simp
    · rw [if_neg (by rw [rop3 hx.1]; exact h3)]
      refine sg_164_275 _ _ ?_
      rw [nI_add]
      refine ih (i + 1) m (by omega) hL hS h7 (stepj m rfl (fun _ _ => rfl) (fun z => absurd z h3) (fun _ => rfl)) hD (fun j hj2 => ?_) k1 k2
      by_cases hji : j = i
      · subst hji
        unfold okSb
        rw [decide_eq_true h3]; rfl
      · exact hj j (by omega)
end N70
