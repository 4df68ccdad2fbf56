/-! TOOLS: naturals as ints -/
theorem nIlt {a b : Nat} (ha : a < 2 ^ 31) (hb : b < 2 ^ 31) : (nI a < nI b) = (a < b) := by
  apply propext
  rw [Int32.lt_iff_toInt_lt, nI_toInt ha, nI_toInt hb]; omega
theorem nIle {a b : Nat} (ha : a < 2 ^ 31) (hb : b < 2 ^ 31) : (nI a ≤ nI b) = (a ≤ b) := by
  apply propext
  rw [Int32.le_iff_toInt_le, nI_toInt ha, nI_toInt hb]; omega
theorem nIeq {a b : Nat} (ha : a < 2 ^ 31) (hb : b < 2 ^ 31) : (nI a = nI b) = (a = b) := propext (nI_eq ha hb)
theorem nIsub {a b : Nat} (h : b ≤ a) : nI a - nI b = nI (a - b) := pk_sub h
theorem m1_eq {a : Nat} (ha : a < 2 ^ 31) : (nI a = (-1)) = False := by
  apply propext
  constructor
  · intro q
    have e : (nI a).toInt = (-1 : Int32).toInt := by rw [q]
    rw [nI_toInt ha, show (-1 : Int32).toInt = -1 from by decide] at e
    omega
  · exact False.elim
theorem eq_m1 {a : Nat} (ha : a < 2 ^ 31) : ((-1 : Int32) = nI a) = False := propext ⟨fun q => (m1_eq ha).mp q.symm, False.elim⟩
theorem lt_m1 {a : Nat} (ha : a < 2 ^ 31) : (nI a < (-1)) = False := by
  apply propext
  constructor
  · intro q
    rw [Int32.lt_iff_toInt_lt, nI_toInt ha, show (-1 : Int32).toInt = -1 from by decide] at q
    omega
  · exact False.elim
theorem nI_m1 {a : Nat} (h : 0 < a) : nI a + (-1) = nI (a - 1) := by
  have e : nI a - nI 1 = nI (a - 1) := pk_sub h
  rw [← e, Int32.sub_eq_add_neg]
  rfl
theorem i32_cases (x : Int32) : (x < nI 0) ∨ ∃ n : Nat, n < 2 ^ 31 ∧ x = nI n := by
  by_cases h : x.toInt < 0
  · left
    rw [Int32.lt_iff_toInt_lt]
    exact h
  · right
    have h2 : x.toInt < 2 ^ 31 := Int32.toInt_lt x
    refine ⟨x.toInt.toNat, by omega, ?_⟩
    apply Int32.toInt_inj.mp
    rw [nI_toInt (by omega)]
    omega
theorem lgc_eq (x y : Int64) : (lg_cmp x y = nI 0) = (x = y) := propext (lg_cmp_eq x y)
def bI (p : Prop) [Decidable p] : Int32 := if p then nI 1 else nI 0
theorem bI_0 {p : Prop} [Decidable p] : (bI p = nI 0) = ¬ p := by
  unfold bI
  by_cases h : p
  · rw [if_pos h]; exact propext ⟨fun q => absurd q (by decide), fun q => absurd h q⟩
  · rw [if_neg h]; exact propext ⟨fun _ => h, fun _ => rfl⟩
theorem bI_B {p : Prop} [Decidable p] : isB (bI p) := by
  unfold bI
  by_cases h : p
  · rw [if_pos h]; exact rfl
  · rw [if_neg h]; exact rfl
theorem bI_t {p : Prop} [Decidable p] (h : p) : bI p = nI 1 := if_pos h
theorem bI_f {p : Prop} [Decidable p] (h : ¬ p) : bI p = nI 0 := if_neg h
theorem bI_n {p : Prop} [Decidable p] : (nI 0 = bI p) = ¬ p := propext ⟨fun q => bI_0.mp q.symm, fun q => (bI_0.mpr q).symm⟩
theorem isB_0 : isB (nI 0) := rfl
theorem isB_1 : isB (nI 1) := rfl
theorem tbl_ix {t : Nat} (h : t < 3) : tb_of (nI t) (3 + 3 * t) ∧ tbl (3 + 3 * t) := by
  rcases (by omega : t = 0 ∨ t = 1 ∨ t = 2) with rfl | rfl | rfl
  · exact ⟨⟨ok_nI (by decide) (by decide), rfl⟩, Or.inl rfl⟩
  · exact ⟨⟨ok_nI (by decide) (by decide), rfl⟩, Or.inr (Or.inl rfl)⟩
  · exact ⟨⟨ok_nI (by decide) (by decide), rfl⟩, Or.inr (Or.inr rfl)⟩
