/-! THE STATE AS A MEMORY OF FUNCTIONS (by program, wip/whole/gen23.py): F cell field, A cell (arrays of ints), B cell (arrays of longs), R cell field (references that change); hp m is the heap -/
abbrev Mm : Type := (Nat → Nat → Int32) × (Nat → List Int32) × (Nat → List Int64) × (Nat → Nat → Nat)
def Mm.F (m : Mm) : Nat → Nat → Int32 := m.1
def Mm.A (m : Mm) : Nat → List Int32 := m.2.1
def Mm.B (m : Mm) : Nat → List Int64 := m.2.2.1
def Mm.R (m : Mm) : Nat → Nat → Nat := m.2.2.2
def Mm.uF (m : Mm) (c f : Nat) (v : Int32) : Mm := (fun c' f' => bif Nat.beq c' c && Nat.beq f' f then v else m.1 c' f', m.2)
def Mm.uA (m : Mm) (c : Nat) (v : List Int32) : Mm := (m.1, fun c' => bif Nat.beq c' c then v else m.2.1 c', m.2.2)
def Mm.uB (m : Mm) (c : Nat) (v : List Int64) : Mm := (m.1, m.2.1, fun c' => bif Nat.beq c' c then v else m.2.2.1 c', m.2.2.2)
def Mm.uR (m : Mm) (c f : Nat) (v : Nat) : Mm := (m.1, m.2.1, m.2.2.1, fun c' f' => bif Nat.beq c' c && Nat.beq f' f then v else m.2.2.2 c' f')
theorem mF_A (m : Mm) (c : Nat) (v : List Int32) : (m.uA c v).F = m.F := rfl
theorem mF_B (m : Mm) (c : Nat) (v : List Int64) : (m.uB c v).F = m.F := rfl
theorem mF_R (m : Mm) (c f v : Nat) : (m.uR c f v).F = m.F := rfl
theorem mA_F (m : Mm) (c f : Nat) (v : Int32) : (m.uF c f v).A = m.A := rfl
theorem mA_B (m : Mm) (c : Nat) (v : List Int64) : (m.uB c v).A = m.A := rfl
theorem mA_R (m : Mm) (c f v : Nat) : (m.uR c f v).A = m.A := rfl
theorem mB_F (m : Mm) (c f : Nat) (v : Int32) : (m.uF c f v).B = m.B := rfl
theorem mB_A (m : Mm) (c : Nat) (v : List Int32) : (m.uA c v).B = m.B := rfl
theorem mB_R (m : Mm) (c f v : Nat) : (m.uR c f v).B = m.B := rfl
theorem mR_F (m : Mm) (c f : Nat) (v : Int32) : (m.uF c f v).R = m.R := rfl
theorem mR_A (m : Mm) (c : Nat) (v : List Int32) : (m.uA c v).R = m.R := rfl
theorem mR_B (m : Mm) (c : Nat) (v : List Int64) : (m.uB c v).R = m.R := rfl
theorem beq_iff (a b : Nat) : (Nat.beq a b = true) = (a = b) := by
  apply propext
  constructor
  · exact Nat.eq_of_beq_eq_true
  · intro h; subst h; exact Nat.beq_refl a
theorem mF_F (m : Mm) (c f : Nat) (v : Int32) (c' f' : Nat) : (m.uF c f v).F c' f' = if c' = c ∧ f' = f then v else m.F c' f' := by
  show (bif Nat.beq c' c && Nat.beq f' f then v else m.1 c' f') = _
  by_cases h1 : c' = c
  · by_cases h2 : f' = f
    · subst h1; subst h2; rw [if_pos ⟨rfl, rfl⟩, Nat.beq_refl, Nat.beq_refl]; rfl
    · rw [if_neg (fun q => h2 q.2), show Nat.beq f' f = false from by rw [← Bool.not_eq_true, beq_iff]; exact h2, Bool.and_false]; rfl
  · rw [if_neg (fun q => h1 q.1), show Nat.beq c' c = false from by rw [← Bool.not_eq_true, beq_iff]; exact h1]; rfl
theorem mR_R (m : Mm) (c f v : Nat) (c' f' : Nat) : (m.uR c f v).R c' f' = if c' = c ∧ f' = f then v else m.R c' f' := by
  show (bif Nat.beq c' c && Nat.beq f' f then v else m.2.2.2 c' f') = _
  by_cases h1 : c' = c
  · by_cases h2 : f' = f
    · subst h1; subst h2; rw [if_pos ⟨rfl, rfl⟩, Nat.beq_refl, Nat.beq_refl]; rfl
    · rw [if_neg (fun q => h2 q.2), show Nat.beq f' f = false from by rw [← Bool.not_eq_true, beq_iff]; exact h2, Bool.and_false]; rfl
  · rw [if_neg (fun q => h1 q.1), show Nat.beq c' c = false from by rw [← Bool.not_eq_true, beq_iff]; exact h1]; rfl
theorem mA_A (m : Mm) (c : Nat) (v : List Int32) (c' : Nat) : (m.uA c v).A c' = if c' = c then v else m.A c' := by
  show (bif Nat.beq c' c then v else m.2.1 c') = _
  by_cases h1 : c' = c
  · subst h1; rw [if_pos rfl, Nat.beq_refl]; rfl
  · rw [if_neg h1, show Nat.beq c' c = false from by rw [← Bool.not_eq_true, beq_iff]; exact h1]; rfl
theorem mB_B (m : Mm) (c : Nat) (v : List Int64) (c' : Nat) : (m.uB c v).B c' = if c' = c then v else m.B c' := by
  show (bif Nat.beq c' c then v else m.2.2.1 c') = _
  by_cases h1 : c' = c
  · subst h1; rw [if_pos rfl, Nat.beq_refl]; rfl
  · rw [if_neg h1, show Nat.beq c' c = false from by rw [← Bool.not_eq_true, beq_iff]; exact h1]; rfl
theorem Mm.ext {m n : Mm} (h1 : ∀ c f, m.F c f = n.F c f) (h2 : ∀ c, m.A c = n.A c) (h3 : ∀ c, m.B c = n.B c) (h4 : ∀ c f, m.R c f = n.R c f) : m = n := by
  obtain ⟨a, b, c, d⟩ := m
  obtain ⟨a', b', c', d'⟩ := n
  have e1 : a = a' := funext (fun x => funext (fun y => h1 x y))
  have e2 : b = b' := funext (fun x => h2 x)
  have e3 : c = c' := funext (fun x => h3 x)
  have e4 : d = d' := funext (fun x => funext (fun y => h4 x y))
  subst e1; subst e2; subst e3; subst e4; rfl
theorem uF_same (m : Mm) (c f : Nat) (v w : Int32) : (m.uF c f v).uF c f w = m.uF c f w := by
  refine Mm.ext (fun x y => ?_) (fun _ => rfl) (fun _ => rfl) (fun _ _ => rfl)
  rw [mF_F, mF_F, mF_F]
  by_cases h : x = c ∧ y = f
  · rw [if_pos h, if_pos h]
  · rw [if_neg h, if_neg h, if_neg h]
theorem uA_same (m : Mm) (c : Nat) (v w : List Int32) : (m.uA c v).uA c w = m.uA c w := by
  refine Mm.ext (fun _ _ => rfl) (fun x => ?_) (fun _ => rfl) (fun _ _ => rfl)
  rw [mA_A, mA_A, mA_A]
  by_cases h : x = c
  · rw [if_pos h, if_pos h]
  · rw [if_neg h, if_neg h, if_neg h]
theorem uB_same (m : Mm) (c : Nat) (v w : List Int64) : (m.uB c v).uB c w = m.uB c w := by
  refine Mm.ext (fun _ _ => rfl) (fun _ => rfl) (fun x => ?_) (fun _ _ => rfl)
  rw [mB_B, mB_B, mB_B]
  by_cases h : x = c
  · rw [if_pos h, if_pos h]
  · rw [if_neg h, if_neg h, if_neg h]
theorem uR_same (m : Mm) (c f v w : Nat) : (m.uR c f v).uR c f w = m.uR c f w := by
  refine Mm.ext (fun _ _ => rfl) (fun _ => rfl) (fun _ => rfl) (fun x y => ?_)
  rw [mR_R, mR_R, mR_R]
  by_cases h : x = c ∧ y = f
  · rw [if_pos h, if_pos h]
  · rw [if_neg h, if_neg h, if_neg h]
theorem uF_id (m : Mm) (c f : Nat) : m.uF c f (m.F c f) = m := by
  refine Mm.ext (fun x y => ?_) (fun _ => rfl) (fun _ => rfl) (fun _ _ => rfl)
  rw [mF_F]
  by_cases h : x = c ∧ y = f
  · rw [if_pos h, h.1, h.2]
  · rw [if_neg h]
theorem uA_id (m : Mm) (c : Nat) : m.uA c (m.A c) = m := by
  refine Mm.ext (fun _ _ => rfl) (fun x => ?_) (fun _ => rfl) (fun _ _ => rfl)
  rw [mA_A]
  by_cases h : x = c
  · rw [if_pos h, h]
  · rw [if_neg h]
theorem uB_id (m : Mm) (c : Nat) : m.uB c (m.B c) = m := by
  refine Mm.ext (fun _ _ => rfl) (fun _ => rfl) (fun x => ?_) (fun _ _ => rfl)
  rw [mB_B]
  by_cases h : x = c
  · rw [if_pos h, h]
  · rw [if_neg h]
/-- one order of writings: F (by cell and field), R, A, B -/
theorem uF_comm (m : Mm) (c f : Nat) (v : Int32) (c' f' : Nat) (w : Int32) (h : c' < c ∨ (c' = c ∧ f' < f)) : (m.uF c f v).uF c' f' w = (m.uF c' f' w).uF c f v := by
  refine Mm.ext (fun x y => ?_) (fun _ => rfl) (fun _ => rfl) (fun _ _ => rfl)
  rw [mF_F, mF_F, mF_F, mF_F]
  by_cases h1 : x = c ∧ y = f
  · rw [if_pos h1, if_neg (by omega), if_pos h1]
  · rw [if_neg h1, if_neg h1]
theorem uA_comm (m : Mm) (c : Nat) (v : List Int32) (c' : Nat) (w : List Int32) (h : c' < c) : (m.uA c v).uA c' w = (m.uA c' w).uA c v := by
  refine Mm.ext (fun _ _ => rfl) (fun x => ?_) (fun _ => rfl) (fun _ _ => rfl)
  rw [mA_A, mA_A, mA_A, mA_A]
  by_cases h1 : x = c
  · rw [if_pos h1, if_neg (by omega), if_pos h1]
  · rw [if_neg h1, if_neg h1]
theorem uB_comm (m : Mm) (c : Nat) (v : List Int64) (c' : Nat) (w : List Int64) (h : c' < c) : (m.uB c v).uB c' w = (m.uB c' w).uB c v := by
  refine Mm.ext (fun _ _ => rfl) (fun _ => rfl) (fun x => ?_) (fun _ _ => rfl)
  rw [mB_B, mB_B, mB_B, mB_B]
  by_cases h1 : x = c
  · rw [if_pos h1, if_neg (by omega), if_pos h1]
  · rw [if_neg h1, if_neg h1]
theorem uA_uF (m : Mm) (c : Nat) (v : List Int32) (c' f' : Nat) (w : Int32) : (m.uA c v).uF c' f' w = (m.uF c' f' w).uA c v := rfl
theorem uB_uF (m : Mm) (c : Nat) (v : List Int64) (c' f' : Nat) (w : Int32) : (m.uB c v).uF c' f' w = (m.uF c' f' w).uB c v := rfl
theorem uR_uF (m : Mm) (c f v : Nat) (c' f' : Nat) (w : Int32) : (m.uR c f v).uF c' f' w = (m.uF c' f' w).uR c f v := rfl
theorem uA_uR (m : Mm) (c : Nat) (v : List Int32) (c' f' w : Nat) : (m.uA c v).uR c' f' w = (m.uR c' f' w).uA c v := rfl
theorem uB_uR (m : Mm) (c : Nat) (v : List Int64) (c' f' w : Nat) : (m.uB c v).uR c' f' w = (m.uR c' f' w).uB c v := rfl
theorem uB_uA (m : Mm) (c : Nat) (v : List Int64) (c' : Nat) (w : List Int32) : (m.uB c v).uA c' w = (m.uA c' w).uB c v := rfl
def hp (m : Mm) : sm_H := [.inr (0, [.ref 1, .ref 2, .ref 12, .ref 17, .ref 23, .ref 25, .ref 29, .ref 30, .ref 40, .ref 41, .int (m.F 0 10), .int (m.F 0 11), .int (m.F 0 12), .int (m.F 0 13), .int (m.F 0 14)]),
  .inl (2, .inl (m.A 1)),
  .inl (4, .inr (.inr [some 3, some 6, some 9])),
  .inr (1, [.ref 4, .ref 5, .int (m.F 3 2), .int (m.F 3 3)]),
  .inl (1, .inr (.inl (m.B 4))),
  .inl (3, .inl (m.A 5)),
  .inr (1, [.ref 7, .ref 8, .int (m.F 6 2), .int (m.F 6 3)]),
  .inl (1, .inr (.inl (m.B 7))),
  .inl (3, .inl (m.A 8)),
  .inr (1, [.ref 10, .ref 11, .int (m.F 9 2), .int (m.F 9 3)]),
  .inl (1, .inr (.inl (m.B 10))),
  .inl (3, .inl (m.A 11)),
  .inr (4, [.ref 13, .ref 14, .ref 15, .ref 16, .int (m.F 12 4), .int (m.F 12 5), .int (m.F 12 6), .int (m.F 12 7), .int (m.F 12 8), .int (m.F 12 9), .int (m.F 12 10), .int (m.F 12 11), .int (m.F 12 12), .int (m.F 12 13), .int (m.F 12 14), .int (m.F 12 15), .int (m.F 12 16)]),
  .inl (0, .inl (m.A 13)),
  .inl (0, .inl (m.A 14)),
  .inl (0, .inl (m.A 15)),
  .inl (0, .inl (m.A 16)),
  .inr (3, [.ref 18, .ref 19, .ref 20, .ref 21, .ref 22, .int (m.F 17 5)]),
  .inl (0, .inl (m.A 18)),
  .inl (0, .inl (m.A 19)),
  .inl (0, .inl (m.A 20)),
  .inl (0, .inl (m.A 21)),
  .inl (1, .inr (.inl (m.B 22))),
  .inr (2, [.ref 24, .ref (m.R 23 1), .ref (m.R 23 2)]),
  .inl (0, .inl (m.A 24)),
  .inr (6, [.ref 26, .ref 12, .ref 17, .int (m.F 25 3)]),
  .inr (5, [.ref 27, .ref 28, .int (m.F 26 2), .int (m.F 26 3)]),
  .inl (0, .inl (m.A 27)),
  .inl (0, .inl (m.A 28)),
  .inr (7, [.ref 2, .ref 12, .ref 17]),
  .inr (9, [.ref 12, .ref 17, .ref 23, .ref 36, .ref 37, .ref 38, .ref 39, .ref 31, .ref 32, .ref 33, .ref 34, .ref 35, .ref (m.R 30 12), .ref (m.R 30 13), .int (m.F 30 14), .int (m.F 30 15)]),
  .inl (0, .inl (m.A 31)),
  .inl (0, .inl (m.A 32)),
  .inl (1, .inr (.inl (m.B 33))),
  .inl (0, .inl (m.A 34)),
  .inl (0, .inl (m.A 35)),
  .inr (8, [.ref 12, .ref 17, .int (m.F 36 2), .int (m.F 36 3), .int (m.F 36 4), .int (m.F 36 5), .int (m.F 36 6), .int (m.F 36 7)]),
  .inr (8, [.ref 12, .ref 17, .int (m.F 37 2), .int (m.F 37 3), .int (m.F 37 4), .int (m.F 37 5), .int (m.F 37 6), .int (m.F 37 7)]),
  .inr (8, [.ref 12, .ref 17, .int (m.F 38 2), .int (m.F 38 3), .int (m.F 38 4), .int (m.F 38 5), .int (m.F 38 6), .int (m.F 38 7)]),
  .inr (8, [.ref 12, .ref 17, .int (m.F 39 2), .int (m.F 39 3), .int (m.F 39 4), .int (m.F 39 5), .int (m.F 39 6), .int (m.F 39 7)]),
  .inl (1, .inr (.inl (m.B 40))),
  .inl (1, .inr (.inl (m.B 41))),
  .inr (10, [.ref 43, .int (m.F 42 1), .int (m.F 42 2), .ref 44, .ref 45, .int (m.F 42 5), .int (m.F 42 6), .int (m.F 42 7), .ref 46, .ref 47, .int (m.F 42 10), .ref 48, .int (m.F 42 12), .int (m.F 42 13), .ref 49, .int (m.F 42 15), .int (m.F 42 16), .int (m.F 42 17), .ref 50, .int (m.F 42 19), .int (m.F 42 20), .int (m.F 42 21), .int (m.F 42 22), .ref 51, .ref 52, .int (m.F 42 25), .int (m.F 42 26), .int (m.F 42 27), .int (m.F 42 28), .int (m.F 42 29), .int (m.F 42 30), .int (m.F 42 31), .int (m.F 42 32), .int (m.F 42 33), .int (m.F 42 34), .ref 53, .ref 54, .ref 55, .int (m.F 42 38), .int (m.F 42 39), .ref 56, .ref 57, .ref 58, .ref 59, .ref 60, .ref 61, .ref 62, .ref 63, .int (m.F 42 48), .ref 64, .ref 65, .ref 66, .ref 67, .int (m.F 42 53), .int (m.F 42 54), .ref 68, .int (m.F 42 56), .int (m.F 42 57), .int (m.F 42 58)]),
  .inl (2, .inl (m.A 43)),
  .inl (0, .inl (m.A 44)),
  .inl (0, .inl (m.A 45)),
  .inl (0, .inl (m.A 46)),
  .inl (0, .inl (m.A 47)),
  .inl (0, .inl (m.A 48)),
  .inl (0, .inl (m.A 49)),
  .inl (0, .inl (m.A 50)),
  .inl (0, .inl (m.A 51)),
  .inl (0, .inl (m.A 52)),
  .inl (0, .inl (m.A 53)),
  .inl (0, .inl (m.A 54)),
  .inl (0, .inl (m.A 55)),
  .inl (0, .inl (m.A 56)),
  .inl (0, .inl (m.A 57)),
  .inl (1, .inr (.inl (m.B 58))),
  .inl (3, .inl (m.A 59)),
  .inl (0, .inl (m.A 60)),
  .inl (1, .inr (.inl (m.B 61))),
  .inl (1, .inr (.inl (m.B 62))),
  .inl (3, .inl (m.A 63)),
  .inl (0, .inl (m.A 64)),
  .inl (0, .inl (m.A 65)),
  .inl (1, .inr (.inl (m.B 66))),
  .inl (3, .inl (m.A 67)),
  .inl (1, .inr (.inl (m.B 68)))]
theorem hq_0 (m : Mm) : (hp m)[0]? = some (.inr (0, [.ref 1, .ref 2, .ref 12, .ref 17, .ref 23, .ref 25, .ref 29, .ref 30, .ref 40, .ref 41, .int (m.F 0 10), .int (m.F 0 11), .int (m.F 0 12), .int (m.F 0 13), .int (m.F 0 14)])) := rfl
theorem hq_1 (m : Mm) : (hp m)[1]? = some (.inl (2, .inl (m.A 1))) := rfl
theorem hq_2 (m : Mm) : (hp m)[2]? = some (.inl (4, .inr (.inr [some 3, some 6, some 9]))) := rfl
theorem hq_3 (m : Mm) : (hp m)[3]? = some (.inr (1, [.ref 4, .ref 5, .int (m.F 3 2), .int (m.F 3 3)])) := rfl
theorem hq_4 (m : Mm) : (hp m)[4]? = some (.inl (1, .inr (.inl (m.B 4)))) := rfl
theorem hq_5 (m : Mm) : (hp m)[5]? = some (.inl (3, .inl (m.A 5))) := rfl
theorem hq_6 (m : Mm) : (hp m)[6]? = some (.inr (1, [.ref 7, .ref 8, .int (m.F 6 2), .int (m.F 6 3)])) := rfl
theorem hq_7 (m : Mm) : (hp m)[7]? = some (.inl (1, .inr (.inl (m.B 7)))) := rfl
theorem hq_8 (m : Mm) : (hp m)[8]? = some (.inl (3, .inl (m.A 8))) := rfl
theorem hq_9 (m : Mm) : (hp m)[9]? = some (.inr (1, [.ref 10, .ref 11, .int (m.F 9 2), .int (m.F 9 3)])) := rfl
theorem hq_10 (m : Mm) : (hp m)[10]? = some (.inl (1, .inr (.inl (m.B 10)))) := rfl
theorem hq_11 (m : Mm) : (hp m)[11]? = some (.inl (3, .inl (m.A 11))) := rfl
theorem hq_12 (m : Mm) : (hp m)[12]? = some (.inr (4, [.ref 13, .ref 14, .ref 15, .ref 16, .int (m.F 12 4), .int (m.F 12 5), .int (m.F 12 6), .int (m.F 12 7), .int (m.F 12 8), .int (m.F 12 9), .int (m.F 12 10), .int (m.F 12 11), .int (m.F 12 12), .int (m.F 12 13), .int (m.F 12 14), .int (m.F 12 15), .int (m.F 12 16)])) := rfl
theorem hq_13 (m : Mm) : (hp m)[13]? = some (.inl (0, .inl (m.A 13))) := rfl
theorem hq_14 (m : Mm) : (hp m)[14]? = some (.inl (0, .inl (m.A 14))) := rfl
theorem hq_15 (m : Mm) : (hp m)[15]? = some (.inl (0, .inl (m.A 15))) := rfl
theorem hq_16 (m : Mm) : (hp m)[16]? = some (.inl (0, .inl (m.A 16))) := rfl
theorem hq_17 (m : Mm) : (hp m)[17]? = some (.inr (3, [.ref 18, .ref 19, .ref 20, .ref 21, .ref 22, .int (m.F 17 5)])) := rfl
theorem hq_18 (m : Mm) : (hp m)[18]? = some (.inl (0, .inl (m.A 18))) := rfl
theorem hq_19 (m : Mm) : (hp m)[19]? = some (.inl (0, .inl (m.A 19))) := rfl
theorem hq_20 (m : Mm) : (hp m)[20]? = some (.inl (0, .inl (m.A 20))) := rfl
theorem hq_21 (m : Mm) : (hp m)[21]? = some (.inl (0, .inl (m.A 21))) := rfl
theorem hq_22 (m : Mm) : (hp m)[22]? = some (.inl (1, .inr (.inl (m.B 22)))) := rfl
theorem hq_23 (m : Mm) : (hp m)[23]? = some (.inr (2, [.ref 24, .ref (m.R 23 1), .ref (m.R 23 2)])) := rfl
theorem hq_24 (m : Mm) : (hp m)[24]? = some (.inl (0, .inl (m.A 24))) := rfl
theorem hq_25 (m : Mm) : (hp m)[25]? = some (.inr (6, [.ref 26, .ref 12, .ref 17, .int (m.F 25 3)])) := rfl
theorem hq_26 (m : Mm) : (hp m)[26]? = some (.inr (5, [.ref 27, .ref 28, .int (m.F 26 2), .int (m.F 26 3)])) := rfl
theorem hq_27 (m : Mm) : (hp m)[27]? = some (.inl (0, .inl (m.A 27))) := rfl
theorem hq_28 (m : Mm) : (hp m)[28]? = some (.inl (0, .inl (m.A 28))) := rfl
theorem hq_29 (m : Mm) : (hp m)[29]? = some (.inr (7, [.ref 2, .ref 12, .ref 17])) := rfl
theorem hq_30 (m : Mm) : (hp m)[30]? = some (.inr (9, [.ref 12, .ref 17, .ref 23, .ref 36, .ref 37, .ref 38, .ref 39, .ref 31, .ref 32, .ref 33, .ref 34, .ref 35, .ref (m.R 30 12), .ref (m.R 30 13), .int (m.F 30 14), .int (m.F 30 15)])) := rfl
theorem hq_31 (m : Mm) : (hp m)[31]? = some (.inl (0, .inl (m.A 31))) := rfl
theorem hq_32 (m : Mm) : (hp m)[32]? = some (.inl (0, .inl (m.A 32))) := rfl
theorem hq_33 (m : Mm) : (hp m)[33]? = some (.inl (1, .inr (.inl (m.B 33)))) := rfl
theorem hq_34 (m : Mm) : (hp m)[34]? = some (.inl (0, .inl (m.A 34))) := rfl
theorem hq_35 (m : Mm) : (hp m)[35]? = some (.inl (0, .inl (m.A 35))) := rfl
theorem hq_36 (m : Mm) : (hp m)[36]? = some (.inr (8, [.ref 12, .ref 17, .int (m.F 36 2), .int (m.F 36 3), .int (m.F 36 4), .int (m.F 36 5), .int (m.F 36 6), .int (m.F 36 7)])) := rfl
theorem hq_37 (m : Mm) : (hp m)[37]? = some (.inr (8, [.ref 12, .ref 17, .int (m.F 37 2), .int (m.F 37 3), .int (m.F 37 4), .int (m.F 37 5), .int (m.F 37 6), .int (m.F 37 7)])) := rfl
theorem hq_38 (m : Mm) : (hp m)[38]? = some (.inr (8, [.ref 12, .ref 17, .int (m.F 38 2), .int (m.F 38 3), .int (m.F 38 4), .int (m.F 38 5), .int (m.F 38 6), .int (m.F 38 7)])) := rfl
theorem hq_39 (m : Mm) : (hp m)[39]? = some (.inr (8, [.ref 12, .ref 17, .int (m.F 39 2), .int (m.F 39 3), .int (m.F 39 4), .int (m.F 39 5), .int (m.F 39 6), .int (m.F 39 7)])) := rfl
theorem hq_40 (m : Mm) : (hp m)[40]? = some (.inl (1, .inr (.inl (m.B 40)))) := rfl
theorem hq_41 (m : Mm) : (hp m)[41]? = some (.inl (1, .inr (.inl (m.B 41)))) := rfl
theorem hq_42 (m : Mm) : (hp m)[42]? = some (.inr (10, [.ref 43, .int (m.F 42 1), .int (m.F 42 2), .ref 44, .ref 45, .int (m.F 42 5), .int (m.F 42 6), .int (m.F 42 7), .ref 46, .ref 47, .int (m.F 42 10), .ref 48, .int (m.F 42 12), .int (m.F 42 13), .ref 49, .int (m.F 42 15), .int (m.F 42 16), .int (m.F 42 17), .ref 50, .int (m.F 42 19), .int (m.F 42 20), .int (m.F 42 21), .int (m.F 42 22), .ref 51, .ref 52, .int (m.F 42 25), .int (m.F 42 26), .int (m.F 42 27), .int (m.F 42 28), .int (m.F 42 29), .int (m.F 42 30), .int (m.F 42 31), .int (m.F 42 32), .int (m.F 42 33), .int (m.F 42 34), .ref 53, .ref 54, .ref 55, .int (m.F 42 38), .int (m.F 42 39), .ref 56, .ref 57, .ref 58, .ref 59, .ref 60, .ref 61, .ref 62, .ref 63, .int (m.F 42 48), .ref 64, .ref 65, .ref 66, .ref 67, .int (m.F 42 53), .int (m.F 42 54), .ref 68, .int (m.F 42 56), .int (m.F 42 57), .int (m.F 42 58)])) := rfl
theorem hq_43 (m : Mm) : (hp m)[43]? = some (.inl (2, .inl (m.A 43))) := rfl
theorem hq_44 (m : Mm) : (hp m)[44]? = some (.inl (0, .inl (m.A 44))) := rfl
theorem hq_45 (m : Mm) : (hp m)[45]? = some (.inl (0, .inl (m.A 45))) := rfl
theorem hq_46 (m : Mm) : (hp m)[46]? = some (.inl (0, .inl (m.A 46))) := rfl
theorem hq_47 (m : Mm) : (hp m)[47]? = some (.inl (0, .inl (m.A 47))) := rfl
theorem hq_48 (m : Mm) : (hp m)[48]? = some (.inl (0, .inl (m.A 48))) := rfl
theorem hq_49 (m : Mm) : (hp m)[49]? = some (.inl (0, .inl (m.A 49))) := rfl
theorem hq_50 (m : Mm) : (hp m)[50]? = some (.inl (0, .inl (m.A 50))) := rfl
theorem hq_51 (m : Mm) : (hp m)[51]? = some (.inl (0, .inl (m.A 51))) := rfl
theorem hq_52 (m : Mm) : (hp m)[52]? = some (.inl (0, .inl (m.A 52))) := rfl
theorem hq_53 (m : Mm) : (hp m)[53]? = some (.inl (0, .inl (m.A 53))) := rfl
theorem hq_54 (m : Mm) : (hp m)[54]? = some (.inl (0, .inl (m.A 54))) := rfl
theorem hq_55 (m : Mm) : (hp m)[55]? = some (.inl (0, .inl (m.A 55))) := rfl
theorem hq_56 (m : Mm) : (hp m)[56]? = some (.inl (0, .inl (m.A 56))) := rfl
theorem hq_57 (m : Mm) : (hp m)[57]? = some (.inl (0, .inl (m.A 57))) := rfl
theorem hq_58 (m : Mm) : (hp m)[58]? = some (.inl (1, .inr (.inl (m.B 58)))) := rfl
theorem hq_59 (m : Mm) : (hp m)[59]? = some (.inl (3, .inl (m.A 59))) := rfl
theorem hq_60 (m : Mm) : (hp m)[60]? = some (.inl (0, .inl (m.A 60))) := rfl
theorem hq_61 (m : Mm) : (hp m)[61]? = some (.inl (1, .inr (.inl (m.B 61)))) := rfl
theorem hq_62 (m : Mm) : (hp m)[62]? = some (.inl (1, .inr (.inl (m.B 62)))) := rfl
theorem hq_63 (m : Mm) : (hp m)[63]? = some (.inl (3, .inl (m.A 63))) := rfl
theorem hq_64 (m : Mm) : (hp m)[64]? = some (.inl (0, .inl (m.A 64))) := rfl
theorem hq_65 (m : Mm) : (hp m)[65]? = some (.inl (0, .inl (m.A 65))) := rfl
theorem hq_66 (m : Mm) : (hp m)[66]? = some (.inl (1, .inr (.inl (m.B 66)))) := rfl
theorem hq_67 (m : Mm) : (hp m)[67]? = some (.inl (3, .inl (m.A 67))) := rfl
theorem hq_68 (m : Mm) : (hp m)[68]? = some (.inl (1, .inr (.inl (m.B 68)))) := rfl
set_option maxRecDepth 20000 in
theorem pf_0_10 (m : Mm) (v : Int32) : (hp m).set 0 (.inr (0, [.ref 1, .ref 2, .ref 12, .ref 17, .ref 23, .ref 25, .ref 29, .ref 30, .ref 40, .ref 41, .int v, .int (m.F 0 11), .int (m.F 0 12), .int (m.F 0 13), .int (m.F 0 14)])) = hp (m.uF 0 10 v) := rfl
set_option maxRecDepth 20000 in
theorem pf_0_11 (m : Mm) (v : Int32) : (hp m).set 0 (.inr (0, [.ref 1, .ref 2, .ref 12, .ref 17, .ref 23, .ref 25, .ref 29, .ref 30, .ref 40, .ref 41, .int (m.F 0 10), .int v, .int (m.F 0 12), .int (m.F 0 13), .int (m.F 0 14)])) = hp (m.uF 0 11 v) := rfl
set_option maxRecDepth 20000 in
theorem pf_0_12 (m : Mm) (v : Int32) : (hp m).set 0 (.inr (0, [.ref 1, .ref 2, .ref 12, .ref 17, .ref 23, .ref 25, .ref 29, .ref 30, .ref 40, .ref 41, .int (m.F 0 10), .int (m.F 0 11), .int v, .int (m.F 0 13), .int (m.F 0 14)])) = hp (m.uF 0 12 v) := rfl
set_option maxRecDepth 20000 in
theorem pf_0_13 (m : Mm) (v : Int32) : (hp m).set 0 (.inr (0, [.ref 1, .ref 2, .ref 12, .ref 17, .ref 23, .ref 25, .ref 29, .ref 30, .ref 40, .ref 41, .int (m.F 0 10), .int (m.F 0 11), .int (m.F 0 12), .int v, .int (m.F 0 14)])) = hp (m.uF 0 13 v) := rfl
set_option maxRecDepth 20000 in
theorem pf_0_14 (m : Mm) (v : Int32) : (hp m).set 0 (.inr (0, [.ref 1, .ref 2, .ref 12, .ref 17, .ref 23, .ref 25, .ref 29, .ref 30, .ref 40, .ref 41, .int (m.F 0 10), .int (m.F 0 11), .int (m.F 0 12), .int (m.F 0 13), .int v])) = hp (m.uF 0 14 v) := rfl
set_option maxRecDepth 20000 in
theorem pa_1 (m : Mm) (v : List Int32) : (hp m).set 1 (.inl (2, .inl v)) = hp (m.uA 1 v) := rfl
set_option maxRecDepth 20000 in
theorem pf_3_2 (m : Mm) (v : Int32) : (hp m).set 3 (.inr (1, [.ref 4, .ref 5, .int v, .int (m.F 3 3)])) = hp (m.uF 3 2 v) := rfl
set_option maxRecDepth 20000 in
theorem pf_3_3 (m : Mm) (v : Int32) : (hp m).set 3 (.inr (1, [.ref 4, .ref 5, .int (m.F 3 2), .int v])) = hp (m.uF 3 3 v) := rfl
set_option maxRecDepth 20000 in
theorem pa_4 (m : Mm) (v : List Int64) : (hp m).set 4 (.inl (1, .inr (.inl v))) = hp (m.uB 4 v) := rfl
set_option maxRecDepth 20000 in
theorem pa_5 (m : Mm) (v : List Int32) : (hp m).set 5 (.inl (3, .inl v)) = hp (m.uA 5 v) := rfl
set_option maxRecDepth 20000 in
theorem pf_6_2 (m : Mm) (v : Int32) : (hp m).set 6 (.inr (1, [.ref 7, .ref 8, .int v, .int (m.F 6 3)])) = hp (m.uF 6 2 v) := rfl
set_option maxRecDepth 20000 in
theorem pf_6_3 (m : Mm) (v : Int32) : (hp m).set 6 (.inr (1, [.ref 7, .ref 8, .int (m.F 6 2), .int v])) = hp (m.uF 6 3 v) := rfl
set_option maxRecDepth 20000 in
theorem pa_7 (m : Mm) (v : List Int64) : (hp m).set 7 (.inl (1, .inr (.inl v))) = hp (m.uB 7 v) := rfl
set_option maxRecDepth 20000 in
theorem pa_8 (m : Mm) (v : List Int32) : (hp m).set 8 (.inl (3, .inl v)) = hp (m.uA 8 v) := rfl
set_option maxRecDepth 20000 in
theorem pf_9_2 (m : Mm) (v : Int32) : (hp m).set 9 (.inr (1, [.ref 10, .ref 11, .int v, .int (m.F 9 3)])) = hp (m.uF 9 2 v) := rfl
set_option maxRecDepth 20000 in
theorem pf_9_3 (m : Mm) (v : Int32) : (hp m).set 9 (.inr (1, [.ref 10, .ref 11, .int (m.F 9 2), .int v])) = hp (m.uF 9 3 v) := rfl
set_option maxRecDepth 20000 in
theorem pa_10 (m : Mm) (v : List Int64) : (hp m).set 10 (.inl (1, .inr (.inl v))) = hp (m.uB 10 v) := rfl
set_option maxRecDepth 20000 in
theorem pa_11 (m : Mm) (v : List Int32) : (hp m).set 11 (.inl (3, .inl v)) = hp (m.uA 11 v) := rfl
set_option maxRecDepth 20000 in
theorem pf_12_4 (m : Mm) (v : Int32) : (hp m).set 12 (.inr (4, [.ref 13, .ref 14, .ref 15, .ref 16, .int v, .int (m.F 12 5), .int (m.F 12 6), .int (m.F 12 7), .int (m.F 12 8), .int (m.F 12 9), .int (m.F 12 10), .int (m.F 12 11), .int (m.F 12 12), .int (m.F 12 13), .int (m.F 12 14), .int (m.F 12 15), .int (m.F 12 16)])) = hp (m.uF 12 4 v) := rfl
set_option maxRecDepth 20000 in
theorem pf_12_5 (m : Mm) (v : Int32) : (hp m).set 12 (.inr (4, [.ref 13, .ref 14, .ref 15, .ref 16, .int (m.F 12 4), .int v, .int (m.F 12 6), .int (m.F 12 7), .int (m.F 12 8), .int (m.F 12 9), .int (m.F 12 10), .int (m.F 12 11), .int (m.F 12 12), .int (m.F 12 13), .int (m.F 12 14), .int (m.F 12 15), .int (m.F 12 16)])) = hp (m.uF 12 5 v) := rfl
set_option maxRecDepth 20000 in
theorem pf_12_6 (m : Mm) (v : Int32) : (hp m).set 12 (.inr (4, [.ref 13, .ref 14, .ref 15, .ref 16, .int (m.F 12 4), .int (m.F 12 5), .int v, .int (m.F 12 7), .int (m.F 12 8), .int (m.F 12 9), .int (m.F 12 10), .int (m.F 12 11), .int (m.F 12 12), .int (m.F 12 13), .int (m.F 12 14), .int (m.F 12 15), .int (m.F 12 16)])) = hp (m.uF 12 6 v) := rfl
set_option maxRecDepth 20000 in
theorem pf_12_7 (m : Mm) (v : Int32) : (hp m).set 12 (.inr (4, [.ref 13, .ref 14, .ref 15, .ref 16, .int (m.F 12 4), .int (m.F 12 5), .int (m.F 12 6), .int v, .int (m.F 12 8), .int (m.F 12 9), .int (m.F 12 10), .int (m.F 12 11), .int (m.F 12 12), .int (m.F 12 13), .int (m.F 12 14), .int (m.F 12 15), .int (m.F 12 16)])) = hp (m.uF 12 7 v) := rfl
set_option maxRecDepth 20000 in
theorem pf_12_8 (m : Mm) (v : Int32) : (hp m).set 12 (.inr (4, [.ref 13, .ref 14, .ref 15, .ref 16, .int (m.F 12 4), .int (m.F 12 5), .int (m.F 12 6), .int (m.F 12 7), .int v, .int (m.F 12 9), .int (m.F 12 10), .int (m.F 12 11), .int (m.F 12 12), .int (m.F 12 13), .int (m.F 12 14), .int (m.F 12 15), .int (m.F 12 16)])) = hp (m.uF 12 8 v) := rfl
set_option maxRecDepth 20000 in
theorem pf_12_9 (m : Mm) (v : Int32) : (hp m).set 12 (.inr (4, [.ref 13, .ref 14, .ref 15, .ref 16, .int (m.F 12 4), .int (m.F 12 5), .int (m.F 12 6), .int (m.F 12 7), .int (m.F 12 8), .int v, .int (m.F 12 10), .int (m.F 12 11), .int (m.F 12 12), .int (m.F 12 13), .int (m.F 12 14), .int (m.F 12 15), .int (m.F 12 16)])) = hp (m.uF 12 9 v) := rfl
set_option maxRecDepth 20000 in
theorem pf_12_10 (m : Mm) (v : Int32) : (hp m).set 12 (.inr (4, [.ref 13, .ref 14, .ref 15, .ref 16, .int (m.F 12 4), .int (m.F 12 5), .int (m.F 12 6), .int (m.F 12 7), .int (m.F 12 8), .int (m.F 12 9), .int v, .int (m.F 12 11), .int (m.F 12 12), .int (m.F 12 13), .int (m.F 12 14), .int (m.F 12 15), .int (m.F 12 16)])) = hp (m.uF 12 10 v) := rfl
set_option maxRecDepth 20000 in
theorem pf_12_11 (m : Mm) (v : Int32) : (hp m).set 12 (.inr (4, [.ref 13, .ref 14, .ref 15, .ref 16, .int (m.F 12 4), .int (m.F 12 5), .int (m.F 12 6), .int (m.F 12 7), .int (m.F 12 8), .int (m.F 12 9), .int (m.F 12 10), .int v, .int (m.F 12 12), .int (m.F 12 13), .int (m.F 12 14), .int (m.F 12 15), .int (m.F 12 16)])) = hp (m.uF 12 11 v) := rfl
set_option maxRecDepth 20000 in
theorem pf_12_12 (m : Mm) (v : Int32) : (hp m).set 12 (.inr (4, [.ref 13, .ref 14, .ref 15, .ref 16, .int (m.F 12 4), .int (m.F 12 5), .int (m.F 12 6), .int (m.F 12 7), .int (m.F 12 8), .int (m.F 12 9), .int (m.F 12 10), .int (m.F 12 11), .int v, .int (m.F 12 13), .int (m.F 12 14), .int (m.F 12 15), .int (m.F 12 16)])) = hp (m.uF 12 12 v) := rfl
set_option maxRecDepth 20000 in
theorem pf_12_13 (m : Mm) (v : Int32) : (hp m).set 12 (.inr (4, [.ref 13, .ref 14, .ref 15, .ref 16, .int (m.F 12 4), .int (m.F 12 5), .int (m.F 12 6), .int (m.F 12 7), .int (m.F 12 8), .int (m.F 12 9), .int (m.F 12 10), .int (m.F 12 11), .int (m.F 12 12), .int v, .int (m.F 12 14), .int (m.F 12 15), .int (m.F 12 16)])) = hp (m.uF 12 13 v) := rfl
set_option maxRecDepth 20000 in
theorem pf_12_14 (m : Mm) (v : Int32) : (hp m).set 12 (.inr (4, [.ref 13, .ref 14, .ref 15, .ref 16, .int (m.F 12 4), .int (m.F 12 5), .int (m.F 12 6), .int (m.F 12 7), .int (m.F 12 8), .int (m.F 12 9), .int (m.F 12 10), .int (m.F 12 11), .int (m.F 12 12), .int (m.F 12 13), .int v, .int (m.F 12 15), .int (m.F 12 16)])) = hp (m.uF 12 14 v) := rfl
set_option maxRecDepth 20000 in
theorem pf_12_15 (m : Mm) (v : Int32) : (hp m).set 12 (.inr (4, [.ref 13, .ref 14, .ref 15, .ref 16, .int (m.F 12 4), .int (m.F 12 5), .int (m.F 12 6), .int (m.F 12 7), .int (m.F 12 8), .int (m.F 12 9), .int (m.F 12 10), .int (m.F 12 11), .int (m.F 12 12), .int (m.F 12 13), .int (m.F 12 14), .int v, .int (m.F 12 16)])) = hp (m.uF 12 15 v) := rfl
set_option maxRecDepth 20000 in
theorem pf_12_16 (m : Mm) (v : Int32) : (hp m).set 12 (.inr (4, [.ref 13, .ref 14, .ref 15, .ref 16, .int (m.F 12 4), .int (m.F 12 5), .int (m.F 12 6), .int (m.F 12 7), .int (m.F 12 8), .int (m.F 12 9), .int (m.F 12 10), .int (m.F 12 11), .int (m.F 12 12), .int (m.F 12 13), .int (m.F 12 14), .int (m.F 12 15), .int v])) = hp (m.uF 12 16 v) := rfl
set_option maxRecDepth 20000 in
theorem pa_13 (m : Mm) (v : List Int32) : (hp m).set 13 (.inl (0, .inl v)) = hp (m.uA 13 v) := rfl
set_option maxRecDepth 20000 in
theorem pa_14 (m : Mm) (v : List Int32) : (hp m).set 14 (.inl (0, .inl v)) = hp (m.uA 14 v) := rfl
set_option maxRecDepth 20000 in
theorem pa_15 (m : Mm) (v : List Int32) : (hp m).set 15 (.inl (0, .inl v)) = hp (m.uA 15 v) := rfl
set_option maxRecDepth 20000 in
theorem pa_16 (m : Mm) (v : List Int32) : (hp m).set 16 (.inl (0, .inl v)) = hp (m.uA 16 v) := rfl
set_option maxRecDepth 20000 in
theorem pf_17_5 (m : Mm) (v : Int32) : (hp m).set 17 (.inr (3, [.ref 18, .ref 19, .ref 20, .ref 21, .ref 22, .int v])) = hp (m.uF 17 5 v) := rfl
set_option maxRecDepth 20000 in
theorem pa_18 (m : Mm) (v : List Int32) : (hp m).set 18 (.inl (0, .inl v)) = hp (m.uA 18 v) := rfl
set_option maxRecDepth 20000 in
theorem pa_19 (m : Mm) (v : List Int32) : (hp m).set 19 (.inl (0, .inl v)) = hp (m.uA 19 v) := rfl
set_option maxRecDepth 20000 in
theorem pa_20 (m : Mm) (v : List Int32) : (hp m).set 20 (.inl (0, .inl v)) = hp (m.uA 20 v) := rfl
set_option maxRecDepth 20000 in
theorem pa_21 (m : Mm) (v : List Int32) : (hp m).set 21 (.inl (0, .inl v)) = hp (m.uA 21 v) := rfl
set_option maxRecDepth 20000 in
theorem pa_22 (m : Mm) (v : List Int64) : (hp m).set 22 (.inl (1, .inr (.inl v))) = hp (m.uB 22 v) := rfl
set_option maxRecDepth 20000 in
theorem pr_23_1 (m : Mm) (v : Nat) : (hp m).set 23 (.inr (2, [.ref 24, .ref v, .ref (m.R 23 2)])) = hp (m.uR 23 1 v) := rfl
set_option maxRecDepth 20000 in
theorem pr_23_2 (m : Mm) (v : Nat) : (hp m).set 23 (.inr (2, [.ref 24, .ref (m.R 23 1), .ref v])) = hp (m.uR 23 2 v) := rfl
set_option maxRecDepth 20000 in
theorem pa_24 (m : Mm) (v : List Int32) : (hp m).set 24 (.inl (0, .inl v)) = hp (m.uA 24 v) := rfl
set_option maxRecDepth 20000 in
theorem pf_25_3 (m : Mm) (v : Int32) : (hp m).set 25 (.inr (6, [.ref 26, .ref 12, .ref 17, .int v])) = hp (m.uF 25 3 v) := rfl
set_option maxRecDepth 20000 in
theorem pf_26_2 (m : Mm) (v : Int32) : (hp m).set 26 (.inr (5, [.ref 27, .ref 28, .int v, .int (m.F 26 3)])) = hp (m.uF 26 2 v) := rfl
set_option maxRecDepth 20000 in
theorem pf_26_3 (m : Mm) (v : Int32) : (hp m).set 26 (.inr (5, [.ref 27, .ref 28, .int (m.F 26 2), .int v])) = hp (m.uF 26 3 v) := rfl
set_option maxRecDepth 20000 in
theorem pa_27 (m : Mm) (v : List Int32) : (hp m).set 27 (.inl (0, .inl v)) = hp (m.uA 27 v) := rfl
set_option maxRecDepth 20000 in
theorem pa_28 (m : Mm) (v : List Int32) : (hp m).set 28 (.inl (0, .inl v)) = hp (m.uA 28 v) := rfl
set_option maxRecDepth 20000 in
theorem pr_30_12 (m : Mm) (v : Nat) : (hp m).set 30 (.inr (9, [.ref 12, .ref 17, .ref 23, .ref 36, .ref 37, .ref 38, .ref 39, .ref 31, .ref 32, .ref 33, .ref 34, .ref 35, .ref v, .ref (m.R 30 13), .int (m.F 30 14), .int (m.F 30 15)])) = hp (m.uR 30 12 v) := rfl
set_option maxRecDepth 20000 in
theorem pr_30_13 (m : Mm) (v : Nat) : (hp m).set 30 (.inr (9, [.ref 12, .ref 17, .ref 23, .ref 36, .ref 37, .ref 38, .ref 39, .ref 31, .ref 32, .ref 33, .ref 34, .ref 35, .ref (m.R 30 12), .ref v, .int (m.F 30 14), .int (m.F 30 15)])) = hp (m.uR 30 13 v) := rfl
set_option maxRecDepth 20000 in
theorem pf_30_14 (m : Mm) (v : Int32) : (hp m).set 30 (.inr (9, [.ref 12, .ref 17, .ref 23, .ref 36, .ref 37, .ref 38, .ref 39, .ref 31, .ref 32, .ref 33, .ref 34, .ref 35, .ref (m.R 30 12), .ref (m.R 30 13), .int v, .int (m.F 30 15)])) = hp (m.uF 30 14 v) := rfl
set_option maxRecDepth 20000 in
theorem pf_30_15 (m : Mm) (v : Int32) : (hp m).set 30 (.inr (9, [.ref 12, .ref 17, .ref 23, .ref 36, .ref 37, .ref 38, .ref 39, .ref 31, .ref 32, .ref 33, .ref 34, .ref 35, .ref (m.R 30 12), .ref (m.R 30 13), .int (m.F 30 14), .int v])) = hp (m.uF 30 15 v) := rfl
set_option maxRecDepth 20000 in
theorem pa_31 (m : Mm) (v : List Int32) : (hp m).set 31 (.inl (0, .inl v)) = hp (m.uA 31 v) := rfl
set_option maxRecDepth 20000 in
theorem pa_32 (m : Mm) (v : List Int32) : (hp m).set 32 (.inl (0, .inl v)) = hp (m.uA 32 v) := rfl
set_option maxRecDepth 20000 in
theorem pa_33 (m : Mm) (v : List Int64) : (hp m).set 33 (.inl (1, .inr (.inl v))) = hp (m.uB 33 v) := rfl
set_option maxRecDepth 20000 in
theorem pa_34 (m : Mm) (v : List Int32) : (hp m).set 34 (.inl (0, .inl v)) = hp (m.uA 34 v) := rfl
set_option maxRecDepth 20000 in
theorem pa_35 (m : Mm) (v : List Int32) : (hp m).set 35 (.inl (0, .inl v)) = hp (m.uA 35 v) := rfl
set_option maxRecDepth 20000 in
theorem pf_36_2 (m : Mm) (v : Int32) : (hp m).set 36 (.inr (8, [.ref 12, .ref 17, .int v, .int (m.F 36 3), .int (m.F 36 4), .int (m.F 36 5), .int (m.F 36 6), .int (m.F 36 7)])) = hp (m.uF 36 2 v) := rfl
set_option maxRecDepth 20000 in
theorem pf_36_3 (m : Mm) (v : Int32) : (hp m).set 36 (.inr (8, [.ref 12, .ref 17, .int (m.F 36 2), .int v, .int (m.F 36 4), .int (m.F 36 5), .int (m.F 36 6), .int (m.F 36 7)])) = hp (m.uF 36 3 v) := rfl
set_option maxRecDepth 20000 in
theorem pf_36_4 (m : Mm) (v : Int32) : (hp m).set 36 (.inr (8, [.ref 12, .ref 17, .int (m.F 36 2), .int (m.F 36 3), .int v, .int (m.F 36 5), .int (m.F 36 6), .int (m.F 36 7)])) = hp (m.uF 36 4 v) := rfl
set_option maxRecDepth 20000 in
theorem pf_36_5 (m : Mm) (v : Int32) : (hp m).set 36 (.inr (8, [.ref 12, .ref 17, .int (m.F 36 2), .int (m.F 36 3), .int (m.F 36 4), .int v, .int (m.F 36 6), .int (m.F 36 7)])) = hp (m.uF 36 5 v) := rfl
set_option maxRecDepth 20000 in
theorem pf_36_6 (m : Mm) (v : Int32) : (hp m).set 36 (.inr (8, [.ref 12, .ref 17, .int (m.F 36 2), .int (m.F 36 3), .int (m.F 36 4), .int (m.F 36 5), .int v, .int (m.F 36 7)])) = hp (m.uF 36 6 v) := rfl
set_option maxRecDepth 20000 in
theorem pf_36_7 (m : Mm) (v : Int32) : (hp m).set 36 (.inr (8, [.ref 12, .ref 17, .int (m.F 36 2), .int (m.F 36 3), .int (m.F 36 4), .int (m.F 36 5), .int (m.F 36 6), .int v])) = hp (m.uF 36 7 v) := rfl
set_option maxRecDepth 20000 in
theorem pf_37_2 (m : Mm) (v : Int32) : (hp m).set 37 (.inr (8, [.ref 12, .ref 17, .int v, .int (m.F 37 3), .int (m.F 37 4), .int (m.F 37 5), .int (m.F 37 6), .int (m.F 37 7)])) = hp (m.uF 37 2 v) := rfl
set_option maxRecDepth 20000 in
theorem pf_37_3 (m : Mm) (v : Int32) : (hp m).set 37 (.inr (8, [.ref 12, .ref 17, .int (m.F 37 2), .int v, .int (m.F 37 4), .int (m.F 37 5), .int (m.F 37 6), .int (m.F 37 7)])) = hp (m.uF 37 3 v) := rfl
set_option maxRecDepth 20000 in
theorem pf_37_4 (m : Mm) (v : Int32) : (hp m).set 37 (.inr (8, [.ref 12, .ref 17, .int (m.F 37 2), .int (m.F 37 3), .int v, .int (m.F 37 5), .int (m.F 37 6), .int (m.F 37 7)])) = hp (m.uF 37 4 v) := rfl
set_option maxRecDepth 20000 in
theorem pf_37_5 (m : Mm) (v : Int32) : (hp m).set 37 (.inr (8, [.ref 12, .ref 17, .int (m.F 37 2), .int (m.F 37 3), .int (m.F 37 4), .int v, .int (m.F 37 6), .int (m.F 37 7)])) = hp (m.uF 37 5 v) := rfl
set_option maxRecDepth 20000 in
theorem pf_37_6 (m : Mm) (v : Int32) : (hp m).set 37 (.inr (8, [.ref 12, .ref 17, .int (m.F 37 2), .int (m.F 37 3), .int (m.F 37 4), .int (m.F 37 5), .int v, .int (m.F 37 7)])) = hp (m.uF 37 6 v) := rfl
set_option maxRecDepth 20000 in
theorem pf_37_7 (m : Mm) (v : Int32) : (hp m).set 37 (.inr (8, [.ref 12, .ref 17, .int (m.F 37 2), .int (m.F 37 3), .int (m.F 37 4), .int (m.F 37 5), .int (m.F 37 6), .int v])) = hp (m.uF 37 7 v) := rfl
set_option maxRecDepth 20000 in
theorem pf_38_2 (m : Mm) (v : Int32) : (hp m).set 38 (.inr (8, [.ref 12, .ref 17, .int v, .int (m.F 38 3), .int (m.F 38 4), .int (m.F 38 5), .int (m.F 38 6), .int (m.F 38 7)])) = hp (m.uF 38 2 v) := rfl
set_option maxRecDepth 20000 in
theorem pf_38_3 (m : Mm) (v : Int32) : (hp m).set 38 (.inr (8, [.ref 12, .ref 17, .int (m.F 38 2), .int v, .int (m.F 38 4), .int (m.F 38 5), .int (m.F 38 6), .int (m.F 38 7)])) = hp (m.uF 38 3 v) := rfl
set_option maxRecDepth 20000 in
theorem pf_38_4 (m : Mm) (v : Int32) : (hp m).set 38 (.inr (8, [.ref 12, .ref 17, .int (m.F 38 2), .int (m.F 38 3), .int v, .int (m.F 38 5), .int (m.F 38 6), .int (m.F 38 7)])) = hp (m.uF 38 4 v) := rfl
set_option maxRecDepth 20000 in
theorem pf_38_5 (m : Mm) (v : Int32) : (hp m).set 38 (.inr (8, [.ref 12, .ref 17, .int (m.F 38 2), .int (m.F 38 3), .int (m.F 38 4), .int v, .int (m.F 38 6), .int (m.F 38 7)])) = hp (m.uF 38 5 v) := rfl
set_option maxRecDepth 20000 in
theorem pf_38_6 (m : Mm) (v : Int32) : (hp m).set 38 (.inr (8, [.ref 12, .ref 17, .int (m.F 38 2), .int (m.F 38 3), .int (m.F 38 4), .int (m.F 38 5), .int v, .int (m.F 38 7)])) = hp (m.uF 38 6 v) := rfl
set_option maxRecDepth 20000 in
theorem pf_38_7 (m : Mm) (v : Int32) : (hp m).set 38 (.inr (8, [.ref 12, .ref 17, .int (m.F 38 2), .int (m.F 38 3), .int (m.F 38 4), .int (m.F 38 5), .int (m.F 38 6), .int v])) = hp (m.uF 38 7 v) := rfl
set_option maxRecDepth 20000 in
theorem pf_39_2 (m : Mm) (v : Int32) : (hp m).set 39 (.inr (8, [.ref 12, .ref 17, .int v, .int (m.F 39 3), .int (m.F 39 4), .int (m.F 39 5), .int (m.F 39 6), .int (m.F 39 7)])) = hp (m.uF 39 2 v) := rfl
set_option maxRecDepth 20000 in
theorem pf_39_3 (m : Mm) (v : Int32) : (hp m).set 39 (.inr (8, [.ref 12, .ref 17, .int (m.F 39 2), .int v, .int (m.F 39 4), .int (m.F 39 5), .int (m.F 39 6), .int (m.F 39 7)])) = hp (m.uF 39 3 v) := rfl
set_option maxRecDepth 20000 in
theorem pf_39_4 (m : Mm) (v : Int32) : (hp m).set 39 (.inr (8, [.ref 12, .ref 17, .int (m.F 39 2), .int (m.F 39 3), .int v, .int (m.F 39 5), .int (m.F 39 6), .int (m.F 39 7)])) = hp (m.uF 39 4 v) := rfl
set_option maxRecDepth 20000 in
theorem pf_39_5 (m : Mm) (v : Int32) : (hp m).set 39 (.inr (8, [.ref 12, .ref 17, .int (m.F 39 2), .int (m.F 39 3), .int (m.F 39 4), .int v, .int (m.F 39 6), .int (m.F 39 7)])) = hp (m.uF 39 5 v) := rfl
set_option maxRecDepth 20000 in
theorem pf_39_6 (m : Mm) (v : Int32) : (hp m).set 39 (.inr (8, [.ref 12, .ref 17, .int (m.F 39 2), .int (m.F 39 3), .int (m.F 39 4), .int (m.F 39 5), .int v, .int (m.F 39 7)])) = hp (m.uF 39 6 v) := rfl
set_option maxRecDepth 20000 in
theorem pf_39_7 (m : Mm) (v : Int32) : (hp m).set 39 (.inr (8, [.ref 12, .ref 17, .int (m.F 39 2), .int (m.F 39 3), .int (m.F 39 4), .int (m.F 39 5), .int (m.F 39 6), .int v])) = hp (m.uF 39 7 v) := rfl
set_option maxRecDepth 20000 in
theorem pa_40 (m : Mm) (v : List Int64) : (hp m).set 40 (.inl (1, .inr (.inl v))) = hp (m.uB 40 v) := rfl
set_option maxRecDepth 20000 in
theorem pa_41 (m : Mm) (v : List Int64) : (hp m).set 41 (.inl (1, .inr (.inl v))) = hp (m.uB 41 v) := rfl
set_option maxRecDepth 20000 in
theorem pf_42_1 (m : Mm) (v : Int32) : (hp m).set 42 (.inr (10, [.ref 43, .int v, .int (m.F 42 2), .ref 44, .ref 45, .int (m.F 42 5), .int (m.F 42 6), .int (m.F 42 7), .ref 46, .ref 47, .int (m.F 42 10), .ref 48, .int (m.F 42 12), .int (m.F 42 13), .ref 49, .int (m.F 42 15), .int (m.F 42 16), .int (m.F 42 17), .ref 50, .int (m.F 42 19), .int (m.F 42 20), .int (m.F 42 21), .int (m.F 42 22), .ref 51, .ref 52, .int (m.F 42 25), .int (m.F 42 26), .int (m.F 42 27), .int (m.F 42 28), .int (m.F 42 29), .int (m.F 42 30), .int (m.F 42 31), .int (m.F 42 32), .int (m.F 42 33), .int (m.F 42 34), .ref 53, .ref 54, .ref 55, .int (m.F 42 38), .int (m.F 42 39), .ref 56, .ref 57, .ref 58, .ref 59, .ref 60, .ref 61, .ref 62, .ref 63, .int (m.F 42 48), .ref 64, .ref 65, .ref 66, .ref 67, .int (m.F 42 53), .int (m.F 42 54), .ref 68, .int (m.F 42 56), .int (m.F 42 57), .int (m.F 42 58)])) = hp (m.uF 42 1 v) := rfl
set_option maxRecDepth 20000 in
theorem pf_42_2 (m : Mm) (v : Int32) : (hp m).set 42 (.inr (10, [.ref 43, .int (m.F 42 1), .int v, .ref 44, .ref 45, .int (m.F 42 5), .int (m.F 42 6), .int (m.F 42 7), .ref 46, .ref 47, .int (m.F 42 10), .ref 48, .int (m.F 42 12), .int (m.F 42 13), .ref 49, .int (m.F 42 15), .int (m.F 42 16), .int (m.F 42 17), .ref 50, .int (m.F 42 19), .int (m.F 42 20), .int (m.F 42 21), .int (m.F 42 22), .ref 51, .ref 52, .int (m.F 42 25), .int (m.F 42 26), .int (m.F 42 27), .int (m.F 42 28), .int (m.F 42 29), .int (m.F 42 30), .int (m.F 42 31), .int (m.F 42 32), .int (m.F 42 33), .int (m.F 42 34), .ref 53, .ref 54, .ref 55, .int (m.F 42 38), .int (m.F 42 39), .ref 56, .ref 57, .ref 58, .ref 59, .ref 60, .ref 61, .ref 62, .ref 63, .int (m.F 42 48), .ref 64, .ref 65, .ref 66, .ref 67, .int (m.F 42 53), .int (m.F 42 54), .ref 68, .int (m.F 42 56), .int (m.F 42 57), .int (m.F 42 58)])) = hp (m.uF 42 2 v) := rfl
set_option maxRecDepth 20000 in
theorem pf_42_5 (m : Mm) (v : Int32) : (hp m).set 42 (.inr (10, [.ref 43, .int (m.F 42 1), .int (m.F 42 2), .ref 44, .ref 45, .int v, .int (m.F 42 6), .int (m.F 42 7), .ref 46, .ref 47, .int (m.F 42 10), .ref 48, .int (m.F 42 12), .int (m.F 42 13), .ref 49, .int (m.F 42 15), .int (m.F 42 16), .int (m.F 42 17), .ref 50, .int (m.F 42 19), .int (m.F 42 20), .int (m.F 42 21), .int (m.F 42 22), .ref 51, .ref 52, .int (m.F 42 25), .int (m.F 42 26), .int (m.F 42 27), .int (m.F 42 28), .int (m.F 42 29), .int (m.F 42 30), .int (m.F 42 31), .int (m.F 42 32), .int (m.F 42 33), .int (m.F 42 34), .ref 53, .ref 54, .ref 55, .int (m.F 42 38), .int (m.F 42 39), .ref 56, .ref 57, .ref 58, .ref 59, .ref 60, .ref 61, .ref 62, .ref 63, .int (m.F 42 48), .ref 64, .ref 65, .ref 66, .ref 67, .int (m.F 42 53), .int (m.F 42 54), .ref 68, .int (m.F 42 56), .int (m.F 42 57), .int (m.F 42 58)])) = hp (m.uF 42 5 v) := rfl
set_option maxRecDepth 20000 in
theorem pf_42_6 (m : Mm) (v : Int32) : (hp m).set 42 (.inr (10, [.ref 43, .int (m.F 42 1), .int (m.F 42 2), .ref 44, .ref 45, .int (m.F 42 5), .int v, .int (m.F 42 7), .ref 46, .ref 47, .int (m.F 42 10), .ref 48, .int (m.F 42 12), .int (m.F 42 13), .ref 49, .int (m.F 42 15), .int (m.F 42 16), .int (m.F 42 17), .ref 50, .int (m.F 42 19), .int (m.F 42 20), .int (m.F 42 21), .int (m.F 42 22), .ref 51, .ref 52, .int (m.F 42 25), .int (m.F 42 26), .int (m.F 42 27), .int (m.F 42 28), .int (m.F 42 29), .int (m.F 42 30), .int (m.F 42 31), .int (m.F 42 32), .int (m.F 42 33), .int (m.F 42 34), .ref 53, .ref 54, .ref 55, .int (m.F 42 38), .int (m.F 42 39), .ref 56, .ref 57, .ref 58, .ref 59, .ref 60, .ref 61, .ref 62, .ref 63, .int (m.F 42 48), .ref 64, .ref 65, .ref 66, .ref 67, .int (m.F 42 53), .int (m.F 42 54), .ref 68, .int (m.F 42 56), .int (m.F 42 57), .int (m.F 42 58)])) = hp (m.uF 42 6 v) := rfl
set_option maxRecDepth 20000 in
theorem pf_42_7 (m : Mm) (v : Int32) : (hp m).set 42 (.inr (10, [.ref 43, .int (m.F 42 1), .int (m.F 42 2), .ref 44, .ref 45, .int (m.F 42 5), .int (m.F 42 6), .int v, .ref 46, .ref 47, .int (m.F 42 10), .ref 48, .int (m.F 42 12), .int (m.F 42 13), .ref 49, .int (m.F 42 15), .int (m.F 42 16), .int (m.F 42 17), .ref 50, .int (m.F 42 19), .int (m.F 42 20), .int (m.F 42 21), .int (m.F 42 22), .ref 51, .ref 52, .int (m.F 42 25), .int (m.F 42 26), .int (m.F 42 27), .int (m.F 42 28), .int (m.F 42 29), .int (m.F 42 30), .int (m.F 42 31), .int (m.F 42 32), .int (m.F 42 33), .int (m.F 42 34), .ref 53, .ref 54, .ref 55, .int (m.F 42 38), .int (m.F 42 39), .ref 56, .ref 57, .ref 58, .ref 59, .ref 60, .ref 61, .ref 62, .ref 63, .int (m.F 42 48), .ref 64, .ref 65, .ref 66, .ref 67, .int (m.F 42 53), .int (m.F 42 54), .ref 68, .int (m.F 42 56), .int (m.F 42 57), .int (m.F 42 58)])) = hp (m.uF 42 7 v) := rfl
set_option maxRecDepth 20000 in
theorem pf_42_10 (m : Mm) (v : Int32) : (hp m).set 42 (.inr (10, [.ref 43, .int (m.F 42 1), .int (m.F 42 2), .ref 44, .ref 45, .int (m.F 42 5), .int (m.F 42 6), .int (m.F 42 7), .ref 46, .ref 47, .int v, .ref 48, .int (m.F 42 12), .int (m.F 42 13), .ref 49, .int (m.F 42 15), .int (m.F 42 16), .int (m.F 42 17), .ref 50, .int (m.F 42 19), .int (m.F 42 20), .int (m.F 42 21), .int (m.F 42 22), .ref 51, .ref 52, .int (m.F 42 25), .int (m.F 42 26), .int (m.F 42 27), .int (m.F 42 28), .int (m.F 42 29), .int (m.F 42 30), .int (m.F 42 31), .int (m.F 42 32), .int (m.F 42 33), .int (m.F 42 34), .ref 53, .ref 54, .ref 55, .int (m.F 42 38), .int (m.F 42 39), .ref 56, .ref 57, .ref 58, .ref 59, .ref 60, .ref 61, .ref 62, .ref 63, .int (m.F 42 48), .ref 64, .ref 65, .ref 66, .ref 67, .int (m.F 42 53), .int (m.F 42 54), .ref 68, .int (m.F 42 56), .int (m.F 42 57), .int (m.F 42 58)])) = hp (m.uF 42 10 v) := rfl
set_option maxRecDepth 20000 in
theorem pf_42_12 (m : Mm) (v : Int32) : (hp m).set 42 (.inr (10, [.ref 43, .int (m.F 42 1), .int (m.F 42 2), .ref 44, .ref 45, .int (m.F 42 5), .int (m.F 42 6), .int (m.F 42 7), .ref 46, .ref 47, .int (m.F 42 10), .ref 48, .int v, .int (m.F 42 13), .ref 49, .int (m.F 42 15), .int (m.F 42 16), .int (m.F 42 17), .ref 50, .int (m.F 42 19), .int (m.F 42 20), .int (m.F 42 21), .int (m.F 42 22), .ref 51, .ref 52, .int (m.F 42 25), .int (m.F 42 26), .int (m.F 42 27), .int (m.F 42 28), .int (m.F 42 29), .int (m.F 42 30), .int (m.F 42 31), .int (m.F 42 32), .int (m.F 42 33), .int (m.F 42 34), .ref 53, .ref 54, .ref 55, .int (m.F 42 38), .int (m.F 42 39), .ref 56, .ref 57, .ref 58, .ref 59, .ref 60, .ref 61, .ref 62, .ref 63, .int (m.F 42 48), .ref 64, .ref 65, .ref 66, .ref 67, .int (m.F 42 53), .int (m.F 42 54), .ref 68, .int (m.F 42 56), .int (m.F 42 57), .int (m.F 42 58)])) = hp (m.uF 42 12 v) := rfl
set_option maxRecDepth 20000 in
theorem pf_42_13 (m : Mm) (v : Int32) : (hp m).set 42 (.inr (10, [.ref 43, .int (m.F 42 1), .int (m.F 42 2), .ref 44, .ref 45, .int (m.F 42 5), .int (m.F 42 6), .int (m.F 42 7), .ref 46, .ref 47, .int (m.F 42 10), .ref 48, .int (m.F 42 12), .int v, .ref 49, .int (m.F 42 15), .int (m.F 42 16), .int (m.F 42 17), .ref 50, .int (m.F 42 19), .int (m.F 42 20), .int (m.F 42 21), .int (m.F 42 22), .ref 51, .ref 52, .int (m.F 42 25), .int (m.F 42 26), .int (m.F 42 27), .int (m.F 42 28), .int (m.F 42 29), .int (m.F 42 30), .int (m.F 42 31), .int (m.F 42 32), .int (m.F 42 33), .int (m.F 42 34), .ref 53, .ref 54, .ref 55, .int (m.F 42 38), .int (m.F 42 39), .ref 56, .ref 57, .ref 58, .ref 59, .ref 60, .ref 61, .ref 62, .ref 63, .int (m.F 42 48), .ref 64, .ref 65, .ref 66, .ref 67, .int (m.F 42 53), .int (m.F 42 54), .ref 68, .int (m.F 42 56), .int (m.F 42 57), .int (m.F 42 58)])) = hp (m.uF 42 13 v) := rfl
set_option maxRecDepth 20000 in
theorem pf_42_15 (m : Mm) (v : Int32) : (hp m).set 42 (.inr (10, [.ref 43, .int (m.F 42 1), .int (m.F 42 2), .ref 44, .ref 45, .int (m.F 42 5), .int (m.F 42 6), .int (m.F 42 7), .ref 46, .ref 47, .int (m.F 42 10), .ref 48, .int (m.F 42 12), .int (m.F 42 13), .ref 49, .int v, .int (m.F 42 16), .int (m.F 42 17), .ref 50, .int (m.F 42 19), .int (m.F 42 20), .int (m.F 42 21), .int (m.F 42 22), .ref 51, .ref 52, .int (m.F 42 25), .int (m.F 42 26), .int (m.F 42 27), .int (m.F 42 28), .int (m.F 42 29), .int (m.F 42 30), .int (m.F 42 31), .int (m.F 42 32), .int (m.F 42 33), .int (m.F 42 34), .ref 53, .ref 54, .ref 55, .int (m.F 42 38), .int (m.F 42 39), .ref 56, .ref 57, .ref 58, .ref 59, .ref 60, .ref 61, .ref 62, .ref 63, .int (m.F 42 48), .ref 64, .ref 65, .ref 66, .ref 67, .int (m.F 42 53), .int (m.F 42 54), .ref 68, .int (m.F 42 56), .int (m.F 42 57), .int (m.F 42 58)])) = hp (m.uF 42 15 v) := rfl
set_option maxRecDepth 20000 in
theorem pf_42_16 (m : Mm) (v : Int32) : (hp m).set 42 (.inr (10, [.ref 43, .int (m.F 42 1), .int (m.F 42 2), .ref 44, .ref 45, .int (m.F 42 5), .int (m.F 42 6), .int (m.F 42 7), .ref 46, .ref 47, .int (m.F 42 10), .ref 48, .int (m.F 42 12), .int (m.F 42 13), .ref 49, .int (m.F 42 15), .int v, .int (m.F 42 17), .ref 50, .int (m.F 42 19), .int (m.F 42 20), .int (m.F 42 21), .int (m.F 42 22), .ref 51, .ref 52, .int (m.F 42 25), .int (m.F 42 26), .int (m.F 42 27), .int (m.F 42 28), .int (m.F 42 29), .int (m.F 42 30), .int (m.F 42 31), .int (m.F 42 32), .int (m.F 42 33), .int (m.F 42 34), .ref 53, .ref 54, .ref 55, .int (m.F 42 38), .int (m.F 42 39), .ref 56, .ref 57, .ref 58, .ref 59, .ref 60, .ref 61, .ref 62, .ref 63, .int (m.F 42 48), .ref 64, .ref 65, .ref 66, .ref 67, .int (m.F 42 53), .int (m.F 42 54), .ref 68, .int (m.F 42 56), .int (m.F 42 57), .int (m.F 42 58)])) = hp (m.uF 42 16 v) := rfl
set_option maxRecDepth 20000 in
theorem pf_42_17 (m : Mm) (v : Int32) : (hp m).set 42 (.inr (10, [.ref 43, .int (m.F 42 1), .int (m.F 42 2), .ref 44, .ref 45, .int (m.F 42 5), .int (m.F 42 6), .int (m.F 42 7), .ref 46, .ref 47, .int (m.F 42 10), .ref 48, .int (m.F 42 12), .int (m.F 42 13), .ref 49, .int (m.F 42 15), .int (m.F 42 16), .int v, .ref 50, .int (m.F 42 19), .int (m.F 42 20), .int (m.F 42 21), .int (m.F 42 22), .ref 51, .ref 52, .int (m.F 42 25), .int (m.F 42 26), .int (m.F 42 27), .int (m.F 42 28), .int (m.F 42 29), .int (m.F 42 30), .int (m.F 42 31), .int (m.F 42 32), .int (m.F 42 33), .int (m.F 42 34), .ref 53, .ref 54, .ref 55, .int (m.F 42 38), .int (m.F 42 39), .ref 56, .ref 57, .ref 58, .ref 59, .ref 60, .ref 61, .ref 62, .ref 63, .int (m.F 42 48), .ref 64, .ref 65, .ref 66, .ref 67, .int (m.F 42 53), .int (m.F 42 54), .ref 68, .int (m.F 42 56), .int (m.F 42 57), .int (m.F 42 58)])) = hp (m.uF 42 17 v) := rfl
set_option maxRecDepth 20000 in
theorem pf_42_19 (m : Mm) (v : Int32) : (hp m).set 42 (.inr (10, [.ref 43, .int (m.F 42 1), .int (m.F 42 2), .ref 44, .ref 45, .int (m.F 42 5), .int (m.F 42 6), .int (m.F 42 7), .ref 46, .ref 47, .int (m.F 42 10), .ref 48, .int (m.F 42 12), .int (m.F 42 13), .ref 49, .int (m.F 42 15), .int (m.F 42 16), .int (m.F 42 17), .ref 50, .int v, .int (m.F 42 20), .int (m.F 42 21), .int (m.F 42 22), .ref 51, .ref 52, .int (m.F 42 25), .int (m.F 42 26), .int (m.F 42 27), .int (m.F 42 28), .int (m.F 42 29), .int (m.F 42 30), .int (m.F 42 31), .int (m.F 42 32), .int (m.F 42 33), .int (m.F 42 34), .ref 53, .ref 54, .ref 55, .int (m.F 42 38), .int (m.F 42 39), .ref 56, .ref 57, .ref 58, .ref 59, .ref 60, .ref 61, .ref 62, .ref 63, .int (m.F 42 48), .ref 64, .ref 65, .ref 66, .ref 67, .int (m.F 42 53), .int (m.F 42 54), .ref 68, .int (m.F 42 56), .int (m.F 42 57), .int (m.F 42 58)])) = hp (m.uF 42 19 v) := rfl
set_option maxRecDepth 20000 in
theorem pf_42_20 (m : Mm) (v : Int32) : (hp m).set 42 (.inr (10, [.ref 43, .int (m.F 42 1), .int (m.F 42 2), .ref 44, .ref 45, .int (m.F 42 5), .int (m.F 42 6), .int (m.F 42 7), .ref 46, .ref 47, .int (m.F 42 10), .ref 48, .int (m.F 42 12), .int (m.F 42 13), .ref 49, .int (m.F 42 15), .int (m.F 42 16), .int (m.F 42 17), .ref 50, .int (m.F 42 19), .int v, .int (m.F 42 21), .int (m.F 42 22), .ref 51, .ref 52, .int (m.F 42 25), .int (m.F 42 26), .int (m.F 42 27), .int (m.F 42 28), .int (m.F 42 29), .int (m.F 42 30), .int (m.F 42 31), .int (m.F 42 32), .int (m.F 42 33), .int (m.F 42 34), .ref 53, .ref 54, .ref 55, .int (m.F 42 38), .int (m.F 42 39), .ref 56, .ref 57, .ref 58, .ref 59, .ref 60, .ref 61, .ref 62, .ref 63, .int (m.F 42 48), .ref 64, .ref 65, .ref 66, .ref 67, .int (m.F 42 53), .int (m.F 42 54), .ref 68, .int (m.F 42 56), .int (m.F 42 57), .int (m.F 42 58)])) = hp (m.uF 42 20 v) := rfl
set_option maxRecDepth 20000 in
theorem pf_42_21 (m : Mm) (v : Int32) : (hp m).set 42 (.inr (10, [.ref 43, .int (m.F 42 1), .int (m.F 42 2), .ref 44, .ref 45, .int (m.F 42 5), .int (m.F 42 6), .int (m.F 42 7), .ref 46, .ref 47, .int (m.F 42 10), .ref 48, .int (m.F 42 12), .int (m.F 42 13), .ref 49, .int (m.F 42 15), .int (m.F 42 16), .int (m.F 42 17), .ref 50, .int (m.F 42 19), .int (m.F 42 20), .int v, .int (m.F 42 22), .ref 51, .ref 52, .int (m.F 42 25), .int (m.F 42 26), .int (m.F 42 27), .int (m.F 42 28), .int (m.F 42 29), .int (m.F 42 30), .int (m.F 42 31), .int (m.F 42 32), .int (m.F 42 33), .int (m.F 42 34), .ref 53, .ref 54, .ref 55, .int (m.F 42 38), .int (m.F 42 39), .ref 56, .ref 57, .ref 58, .ref 59, .ref 60, .ref 61, .ref 62, .ref 63, .int (m.F 42 48), .ref 64, .ref 65, .ref 66, .ref 67, .int (m.F 42 53), .int (m.F 42 54), .ref 68, .int (m.F 42 56), .int (m.F 42 57), .int (m.F 42 58)])) = hp (m.uF 42 21 v) := rfl
set_option maxRecDepth 20000 in
theorem pf_42_22 (m : Mm) (v : Int32) : (hp m).set 42 (.inr (10, [.ref 43, .int (m.F 42 1), .int (m.F 42 2), .ref 44, .ref 45, .int (m.F 42 5), .int (m.F 42 6), .int (m.F 42 7), .ref 46, .ref 47, .int (m.F 42 10), .ref 48, .int (m.F 42 12), .int (m.F 42 13), .ref 49, .int (m.F 42 15), .int (m.F 42 16), .int (m.F 42 17), .ref 50, .int (m.F 42 19), .int (m.F 42 20), .int (m.F 42 21), .int v, .ref 51, .ref 52, .int (m.F 42 25), .int (m.F 42 26), .int (m.F 42 27), .int (m.F 42 28), .int (m.F 42 29), .int (m.F 42 30), .int (m.F 42 31), .int (m.F 42 32), .int (m.F 42 33), .int (m.F 42 34), .ref 53, .ref 54, .ref 55, .int (m.F 42 38), .int (m.F 42 39), .ref 56, .ref 57, .ref 58, .ref 59, .ref 60, .ref 61, .ref 62, .ref 63, .int (m.F 42 48), .ref 64, .ref 65, .ref 66, .ref 67, .int (m.F 42 53), .int (m.F 42 54), .ref 68, .int (m.F 42 56), .int (m.F 42 57), .int (m.F 42 58)])) = hp (m.uF 42 22 v) := rfl
set_option maxRecDepth 20000 in
theorem pf_42_25 (m : Mm) (v : Int32) : (hp m).set 42 (.inr (10, [.ref 43, .int (m.F 42 1), .int (m.F 42 2), .ref 44, .ref 45, .int (m.F 42 5), .int (m.F 42 6), .int (m.F 42 7), .ref 46, .ref 47, .int (m.F 42 10), .ref 48, .int (m.F 42 12), .int (m.F 42 13), .ref 49, .int (m.F 42 15), .int (m.F 42 16), .int (m.F 42 17), .ref 50, .int (m.F 42 19), .int (m.F 42 20), .int (m.F 42 21), .int (m.F 42 22), .ref 51, .ref 52, .int v, .int (m.F 42 26), .int (m.F 42 27), .int (m.F 42 28), .int (m.F 42 29), .int (m.F 42 30), .int (m.F 42 31), .int (m.F 42 32), .int (m.F 42 33), .int (m.F 42 34), .ref 53, .ref 54, .ref 55, .int (m.F 42 38), .int (m.F 42 39), .ref 56, .ref 57, .ref 58, .ref 59, .ref 60, .ref 61, .ref 62, .ref 63, .int (m.F 42 48), .ref 64, .ref 65, .ref 66, .ref 67, .int (m.F 42 53), .int (m.F 42 54), .ref 68, .int (m.F 42 56), .int (m.F 42 57), .int (m.F 42 58)])) = hp (m.uF 42 25 v) := rfl
set_option maxRecDepth 20000 in
theorem pf_42_26 (m : Mm) (v : Int32) : (hp m).set 42 (.inr (10, [.ref 43, .int (m.F 42 1), .int (m.F 42 2), .ref 44, .ref 45, .int (m.F 42 5), .int (m.F 42 6), .int (m.F 42 7), .ref 46, .ref 47, .int (m.F 42 10), .ref 48, .int (m.F 42 12), .int (m.F 42 13), .ref 49, .int (m.F 42 15), .int (m.F 42 16), .int (m.F 42 17), .ref 50, .int (m.F 42 19), .int (m.F 42 20), .int (m.F 42 21), .int (m.F 42 22), .ref 51, .ref 52, .int (m.F 42 25), .int v, .int (m.F 42 27), .int (m.F 42 28), .int (m.F 42 29), .int (m.F 42 30), .int (m.F 42 31), .int (m.F 42 32), .int (m.F 42 33), .int (m.F 42 34), .ref 53, .ref 54, .ref 55, .int (m.F 42 38), .int (m.F 42 39), .ref 56, .ref 57, .ref 58, .ref 59, .ref 60, .ref 61, .ref 62, .ref 63, .int (m.F 42 48), .ref 64, .ref 65, .ref 66, .ref 67, .int (m.F 42 53), .int (m.F 42 54), .ref 68, .int (m.F 42 56), .int (m.F 42 57), .int (m.F 42 58)])) = hp (m.uF 42 26 v) := rfl
set_option maxRecDepth 20000 in
theorem pf_42_27 (m : Mm) (v : Int32) : (hp m).set 42 (.inr (10, [.ref 43, .int (m.F 42 1), .int (m.F 42 2), .ref 44, .ref 45, .int (m.F 42 5), .int (m.F 42 6), .int (m.F 42 7), .ref 46, .ref 47, .int (m.F 42 10), .ref 48, .int (m.F 42 12), .int (m.F 42 13), .ref 49, .int (m.F 42 15), .int (m.F 42 16), .int (m.F 42 17), .ref 50, .int (m.F 42 19), .int (m.F 42 20), .int (m.F 42 21), .int (m.F 42 22), .ref 51, .ref 52, .int (m.F 42 25), .int (m.F 42 26), .int v, .int (m.F 42 28), .int (m.F 42 29), .int (m.F 42 30), .int (m.F 42 31), .int (m.F 42 32), .int (m.F 42 33), .int (m.F 42 34), .ref 53, .ref 54, .ref 55, .int (m.F 42 38), .int (m.F 42 39), .ref 56, .ref 57, .ref 58, .ref 59, .ref 60, .ref 61, .ref 62, .ref 63, .int (m.F 42 48), .ref 64, .ref 65, .ref 66, .ref 67, .int (m.F 42 53), .int (m.F 42 54), .ref 68, .int (m.F 42 56), .int (m.F 42 57), .int (m.F 42 58)])) = hp (m.uF 42 27 v) := rfl
set_option maxRecDepth 20000 in
theorem pf_42_28 (m : Mm) (v : Int32) : (hp m).set 42 (.inr (10, [.ref 43, .int (m.F 42 1), .int (m.F 42 2), .ref 44, .ref 45, .int (m.F 42 5), .int (m.F 42 6), .int (m.F 42 7), .ref 46, .ref 47, .int (m.F 42 10), .ref 48, .int (m.F 42 12), .int (m.F 42 13), .ref 49, .int (m.F 42 15), .int (m.F 42 16), .int (m.F 42 17), .ref 50, .int (m.F 42 19), .int (m.F 42 20), .int (m.F 42 21), .int (m.F 42 22), .ref 51, .ref 52, .int (m.F 42 25), .int (m.F 42 26), .int (m.F 42 27), .int v, .int (m.F 42 29), .int (m.F 42 30), .int (m.F 42 31), .int (m.F 42 32), .int (m.F 42 33), .int (m.F 42 34), .ref 53, .ref 54, .ref 55, .int (m.F 42 38), .int (m.F 42 39), .ref 56, .ref 57, .ref 58, .ref 59, .ref 60, .ref 61, .ref 62, .ref 63, .int (m.F 42 48), .ref 64, .ref 65, .ref 66, .ref 67, .int (m.F 42 53), .int (m.F 42 54), .ref 68, .int (m.F 42 56), .int (m.F 42 57), .int (m.F 42 58)])) = hp (m.uF 42 28 v) := rfl
set_option maxRecDepth 20000 in
theorem pf_42_29 (m : Mm) (v : Int32) : (hp m).set 42 (.inr (10, [.ref 43, .int (m.F 42 1), .int (m.F 42 2), .ref 44, .ref 45, .int (m.F 42 5), .int (m.F 42 6), .int (m.F 42 7), .ref 46, .ref 47, .int (m.F 42 10), .ref 48, .int (m.F 42 12), .int (m.F 42 13), .ref 49, .int (m.F 42 15), .int (m.F 42 16), .int (m.F 42 17), .ref 50, .int (m.F 42 19), .int (m.F 42 20), .int (m.F 42 21), .int (m.F 42 22), .ref 51, .ref 52, .int (m.F 42 25), .int (m.F 42 26), .int (m.F 42 27), .int (m.F 42 28), .int v, .int (m.F 42 30), .int (m.F 42 31), .int (m.F 42 32), .int (m.F 42 33), .int (m.F 42 34), .ref 53, .ref 54, .ref 55, .int (m.F 42 38), .int (m.F 42 39), .ref 56, .ref 57, .ref 58, .ref 59, .ref 60, .ref 61, .ref 62, .ref 63, .int (m.F 42 48), .ref 64, .ref 65, .ref 66, .ref 67, .int (m.F 42 53), .int (m.F 42 54), .ref 68, .int (m.F 42 56), .int (m.F 42 57), .int (m.F 42 58)])) = hp (m.uF 42 29 v) := rfl
set_option maxRecDepth 20000 in
theorem pf_42_30 (m : Mm) (v : Int32) : (hp m).set 42 (.inr (10, [.ref 43, .int (m.F 42 1), .int (m.F 42 2), .ref 44, .ref 45, .int (m.F 42 5), .int (m.F 42 6), .int (m.F 42 7), .ref 46, .ref 47, .int (m.F 42 10), .ref 48, .int (m.F 42 12), .int (m.F 42 13), .ref 49, .int (m.F 42 15), .int (m.F 42 16), .int (m.F 42 17), .ref 50, .int (m.F 42 19), .int (m.F 42 20), .int (m.F 42 21), .int (m.F 42 22), .ref 51, .ref 52, .int (m.F 42 25), .int (m.F 42 26), .int (m.F 42 27), .int (m.F 42 28), .int (m.F 42 29), .int v, .int (m.F 42 31), .int (m.F 42 32), .int (m.F 42 33), .int (m.F 42 34), .ref 53, .ref 54, .ref 55, .int (m.F 42 38), .int (m.F 42 39), .ref 56, .ref 57, .ref 58, .ref 59, .ref 60, .ref 61, .ref 62, .ref 63, .int (m.F 42 48), .ref 64, .ref 65, .ref 66, .ref 67, .int (m.F 42 53), .int (m.F 42 54), .ref 68, .int (m.F 42 56), .int (m.F 42 57), .int (m.F 42 58)])) = hp (m.uF 42 30 v) := rfl
set_option maxRecDepth 20000 in
theorem pf_42_31 (m : Mm) (v : Int32) : (hp m).set 42 (.inr (10, [.ref 43, .int (m.F 42 1), .int (m.F 42 2), .ref 44, .ref 45, .int (m.F 42 5), .int (m.F 42 6), .int (m.F 42 7), .ref 46, .ref 47, .int (m.F 42 10), .ref 48, .int (m.F 42 12), .int (m.F 42 13), .ref 49, .int (m.F 42 15), .int (m.F 42 16), .int (m.F 42 17), .ref 50, .int (m.F 42 19), .int (m.F 42 20), .int (m.F 42 21), .int (m.F 42 22), .ref 51, .ref 52, .int (m.F 42 25), .int (m.F 42 26), .int (m.F 42 27), .int (m.F 42 28), .int (m.F 42 29), .int (m.F 42 30), .int v, .int (m.F 42 32), .int (m.F 42 33), .int (m.F 42 34), .ref 53, .ref 54, .ref 55, .int (m.F 42 38), .int (m.F 42 39), .ref 56, .ref 57, .ref 58, .ref 59, .ref 60, .ref 61, .ref 62, .ref 63, .int (m.F 42 48), .ref 64, .ref 65, .ref 66, .ref 67, .int (m.F 42 53), .int (m.F 42 54), .ref 68, .int (m.F 42 56), .int (m.F 42 57), .int (m.F 42 58)])) = hp (m.uF 42 31 v) := rfl
set_option maxRecDepth 20000 in
theorem pf_42_32 (m : Mm) (v : Int32) : (hp m).set 42 (.inr (10, [.ref 43, .int (m.F 42 1), .int (m.F 42 2), .ref 44, .ref 45, .int (m.F 42 5), .int (m.F 42 6), .int (m.F 42 7), .ref 46, .ref 47, .int (m.F 42 10), .ref 48, .int (m.F 42 12), .int (m.F 42 13), .ref 49, .int (m.F 42 15), .int (m.F 42 16), .int (m.F 42 17), .ref 50, .int (m.F 42 19), .int (m.F 42 20), .int (m.F 42 21), .int (m.F 42 22), .ref 51, .ref 52, .int (m.F 42 25), .int (m.F 42 26), .int (m.F 42 27), .int (m.F 42 28), .int (m.F 42 29), .int (m.F 42 30), .int (m.F 42 31), .int v, .int (m.F 42 33), .int (m.F 42 34), .ref 53, .ref 54, .ref 55, .int (m.F 42 38), .int (m.F 42 39), .ref 56, .ref 57, .ref 58, .ref 59, .ref 60, .ref 61, .ref 62, .ref 63, .int (m.F 42 48), .ref 64, .ref 65, .ref 66, .ref 67, .int (m.F 42 53), .int (m.F 42 54), .ref 68, .int (m.F 42 56), .int (m.F 42 57), .int (m.F 42 58)])) = hp (m.uF 42 32 v) := rfl
set_option maxRecDepth 20000 in
theorem pf_42_33 (m : Mm) (v : Int32) : (hp m).set 42 (.inr (10, [.ref 43, .int (m.F 42 1), .int (m.F 42 2), .ref 44, .ref 45, .int (m.F 42 5), .int (m.F 42 6), .int (m.F 42 7), .ref 46, .ref 47, .int (m.F 42 10), .ref 48, .int (m.F 42 12), .int (m.F 42 13), .ref 49, .int (m.F 42 15), .int (m.F 42 16), .int (m.F 42 17), .ref 50, .int (m.F 42 19), .int (m.F 42 20), .int (m.F 42 21), .int (m.F 42 22), .ref 51, .ref 52, .int (m.F 42 25), .int (m.F 42 26), .int (m.F 42 27), .int (m.F 42 28), .int (m.F 42 29), .int (m.F 42 30), .int (m.F 42 31), .int (m.F 42 32), .int v, .int (m.F 42 34), .ref 53, .ref 54, .ref 55, .int (m.F 42 38), .int (m.F 42 39), .ref 56, .ref 57, .ref 58, .ref 59, .ref 60, .ref 61, .ref 62, .ref 63, .int (m.F 42 48), .ref 64, .ref 65, .ref 66, .ref 67, .int (m.F 42 53), .int (m.F 42 54), .ref 68, .int (m.F 42 56), .int (m.F 42 57), .int (m.F 42 58)])) = hp (m.uF 42 33 v) := rfl
set_option maxRecDepth 20000 in
theorem pf_42_34 (m : Mm) (v : Int32) : (hp m).set 42 (.inr (10, [.ref 43, .int (m.F 42 1), .int (m.F 42 2), .ref 44, .ref 45, .int (m.F 42 5), .int (m.F 42 6), .int (m.F 42 7), .ref 46, .ref 47, .int (m.F 42 10), .ref 48, .int (m.F 42 12), .int (m.F 42 13), .ref 49, .int (m.F 42 15), .int (m.F 42 16), .int (m.F 42 17), .ref 50, .int (m.F 42 19), .int (m.F 42 20), .int (m.F 42 21), .int (m.F 42 22), .ref 51, .ref 52, .int (m.F 42 25), .int (m.F 42 26), .int (m.F 42 27), .int (m.F 42 28), .int (m.F 42 29), .int (m.F 42 30), .int (m.F 42 31), .int (m.F 42 32), .int (m.F 42 33), .int v, .ref 53, .ref 54, .ref 55, .int (m.F 42 38), .int (m.F 42 39), .ref 56, .ref 57, .ref 58, .ref 59, .ref 60, .ref 61, .ref 62, .ref 63, .int (m.F 42 48), .ref 64, .ref 65, .ref 66, .ref 67, .int (m.F 42 53), .int (m.F 42 54), .ref 68, .int (m.F 42 56), .int (m.F 42 57), .int (m.F 42 58)])) = hp (m.uF 42 34 v) := rfl
set_option maxRecDepth 20000 in
theorem pf_42_38 (m : Mm) (v : Int32) : (hp m).set 42 (.inr (10, [.ref 43, .int (m.F 42 1), .int (m.F 42 2), .ref 44, .ref 45, .int (m.F 42 5), .int (m.F 42 6), .int (m.F 42 7), .ref 46, .ref 47, .int (m.F 42 10), .ref 48, .int (m.F 42 12), .int (m.F 42 13), .ref 49, .int (m.F 42 15), .int (m.F 42 16), .int (m.F 42 17), .ref 50, .int (m.F 42 19), .int (m.F 42 20), .int (m.F 42 21), .int (m.F 42 22), .ref 51, .ref 52, .int (m.F 42 25), .int (m.F 42 26), .int (m.F 42 27), .int (m.F 42 28), .int (m.F 42 29), .int (m.F 42 30), .int (m.F 42 31), .int (m.F 42 32), .int (m.F 42 33), .int (m.F 42 34), .ref 53, .ref 54, .ref 55, .int v, .int (m.F 42 39), .ref 56, .ref 57, .ref 58, .ref 59, .ref 60, .ref 61, .ref 62, .ref 63, .int (m.F 42 48), .ref 64, .ref 65, .ref 66, .ref 67, .int (m.F 42 53), .int (m.F 42 54), .ref 68, .int (m.F 42 56), .int (m.F 42 57), .int (m.F 42 58)])) = hp (m.uF 42 38 v) := rfl
set_option maxRecDepth 20000 in
theorem pf_42_39 (m : Mm) (v : Int32) : (hp m).set 42 (.inr (10, [.ref 43, .int (m.F 42 1), .int (m.F 42 2), .ref 44, .ref 45, .int (m.F 42 5), .int (m.F 42 6), .int (m.F 42 7), .ref 46, .ref 47, .int (m.F 42 10), .ref 48, .int (m.F 42 12), .int (m.F 42 13), .ref 49, .int (m.F 42 15), .int (m.F 42 16), .int (m.F 42 17), .ref 50, .int (m.F 42 19), .int (m.F 42 20), .int (m.F 42 21), .int (m.F 42 22), .ref 51, .ref 52, .int (m.F 42 25), .int (m.F 42 26), .int (m.F 42 27), .int (m.F 42 28), .int (m.F 42 29), .int (m.F 42 30), .int (m.F 42 31), .int (m.F 42 32), .int (m.F 42 33), .int (m.F 42 34), .ref 53, .ref 54, .ref 55, .int (m.F 42 38), .int v, .ref 56, .ref 57, .ref 58, .ref 59, .ref 60, .ref 61, .ref 62, .ref 63, .int (m.F 42 48), .ref 64, .ref 65, .ref 66, .ref 67, .int (m.F 42 53), .int (m.F 42 54), .ref 68, .int (m.F 42 56), .int (m.F 42 57), .int (m.F 42 58)])) = hp (m.uF 42 39 v) := rfl
set_option maxRecDepth 20000 in
theorem pf_42_48 (m : Mm) (v : Int32) : (hp m).set 42 (.inr (10, [.ref 43, .int (m.F 42 1), .int (m.F 42 2), .ref 44, .ref 45, .int (m.F 42 5), .int (m.F 42 6), .int (m.F 42 7), .ref 46, .ref 47, .int (m.F 42 10), .ref 48, .int (m.F 42 12), .int (m.F 42 13), .ref 49, .int (m.F 42 15), .int (m.F 42 16), .int (m.F 42 17), .ref 50, .int (m.F 42 19), .int (m.F 42 20), .int (m.F 42 21), .int (m.F 42 22), .ref 51, .ref 52, .int (m.F 42 25), .int (m.F 42 26), .int (m.F 42 27), .int (m.F 42 28), .int (m.F 42 29), .int (m.F 42 30), .int (m.F 42 31), .int (m.F 42 32), .int (m.F 42 33), .int (m.F 42 34), .ref 53, .ref 54, .ref 55, .int (m.F 42 38), .int (m.F 42 39), .ref 56, .ref 57, .ref 58, .ref 59, .ref 60, .ref 61, .ref 62, .ref 63, .int v, .ref 64, .ref 65, .ref 66, .ref 67, .int (m.F 42 53), .int (m.F 42 54), .ref 68, .int (m.F 42 56), .int (m.F 42 57), .int (m.F 42 58)])) = hp (m.uF 42 48 v) := rfl
set_option maxRecDepth 20000 in
theorem pf_42_53 (m : Mm) (v : Int32) : (hp m).set 42 (.inr (10, [.ref 43, .int (m.F 42 1), .int (m.F 42 2), .ref 44, .ref 45, .int (m.F 42 5), .int (m.F 42 6), .int (m.F 42 7), .ref 46, .ref 47, .int (m.F 42 10), .ref 48, .int (m.F 42 12), .int (m.F 42 13), .ref 49, .int (m.F 42 15), .int (m.F 42 16), .int (m.F 42 17), .ref 50, .int (m.F 42 19), .int (m.F 42 20), .int (m.F 42 21), .int (m.F 42 22), .ref 51, .ref 52, .int (m.F 42 25), .int (m.F 42 26), .int (m.F 42 27), .int (m.F 42 28), .int (m.F 42 29), .int (m.F 42 30), .int (m.F 42 31), .int (m.F 42 32), .int (m.F 42 33), .int (m.F 42 34), .ref 53, .ref 54, .ref 55, .int (m.F 42 38), .int (m.F 42 39), .ref 56, .ref 57, .ref 58, .ref 59, .ref 60, .ref 61, .ref 62, .ref 63, .int (m.F 42 48), .ref 64, .ref 65, .ref 66, .ref 67, .int v, .int (m.F 42 54), .ref 68, .int (m.F 42 56), .int (m.F 42 57), .int (m.F 42 58)])) = hp (m.uF 42 53 v) := rfl
set_option maxRecDepth 20000 in
theorem pf_42_54 (m : Mm) (v : Int32) : (hp m).set 42 (.inr (10, [.ref 43, .int (m.F 42 1), .int (m.F 42 2), .ref 44, .ref 45, .int (m.F 42 5), .int (m.F 42 6), .int (m.F 42 7), .ref 46, .ref 47, .int (m.F 42 10), .ref 48, .int (m.F 42 12), .int (m.F 42 13), .ref 49, .int (m.F 42 15), .int (m.F 42 16), .int (m.F 42 17), .ref 50, .int (m.F 42 19), .int (m.F 42 20), .int (m.F 42 21), .int (m.F 42 22), .ref 51, .ref 52, .int (m.F 42 25), .int (m.F 42 26), .int (m.F 42 27), .int (m.F 42 28), .int (m.F 42 29), .int (m.F 42 30), .int (m.F 42 31), .int (m.F 42 32), .int (m.F 42 33), .int (m.F 42 34), .ref 53, .ref 54, .ref 55, .int (m.F 42 38), .int (m.F 42 39), .ref 56, .ref 57, .ref 58, .ref 59, .ref 60, .ref 61, .ref 62, .ref 63, .int (m.F 42 48), .ref 64, .ref 65, .ref 66, .ref 67, .int (m.F 42 53), .int v, .ref 68, .int (m.F 42 56), .int (m.F 42 57), .int (m.F 42 58)])) = hp (m.uF 42 54 v) := rfl
set_option maxRecDepth 20000 in
theorem pf_42_56 (m : Mm) (v : Int32) : (hp m).set 42 (.inr (10, [.ref 43, .int (m.F 42 1), .int (m.F 42 2), .ref 44, .ref 45, .int (m.F 42 5), .int (m.F 42 6), .int (m.F 42 7), .ref 46, .ref 47, .int (m.F 42 10), .ref 48, .int (m.F 42 12), .int (m.F 42 13), .ref 49, .int (m.F 42 15), .int (m.F 42 16), .int (m.F 42 17), .ref 50, .int (m.F 42 19), .int (m.F 42 20), .int (m.F 42 21), .int (m.F 42 22), .ref 51, .ref 52, .int (m.F 42 25), .int (m.F 42 26), .int (m.F 42 27), .int (m.F 42 28), .int (m.F 42 29), .int (m.F 42 30), .int (m.F 42 31), .int (m.F 42 32), .int (m.F 42 33), .int (m.F 42 34), .ref 53, .ref 54, .ref 55, .int (m.F 42 38), .int (m.F 42 39), .ref 56, .ref 57, .ref 58, .ref 59, .ref 60, .ref 61, .ref 62, .ref 63, .int (m.F 42 48), .ref 64, .ref 65, .ref 66, .ref 67, .int (m.F 42 53), .int (m.F 42 54), .ref 68, .int v, .int (m.F 42 57), .int (m.F 42 58)])) = hp (m.uF 42 56 v) := rfl
set_option maxRecDepth 20000 in
theorem pf_42_57 (m : Mm) (v : Int32) : (hp m).set 42 (.inr (10, [.ref 43, .int (m.F 42 1), .int (m.F 42 2), .ref 44, .ref 45, .int (m.F 42 5), .int (m.F 42 6), .int (m.F 42 7), .ref 46, .ref 47, .int (m.F 42 10), .ref 48, .int (m.F 42 12), .int (m.F 42 13), .ref 49, .int (m.F 42 15), .int (m.F 42 16), .int (m.F 42 17), .ref 50, .int (m.F 42 19), .int (m.F 42 20), .int (m.F 42 21), .int (m.F 42 22), .ref 51, .ref 52, .int (m.F 42 25), .int (m.F 42 26), .int (m.F 42 27), .int (m.F 42 28), .int (m.F 42 29), .int (m.F 42 30), .int (m.F 42 31), .int (m.F 42 32), .int (m.F 42 33), .int (m.F 42 34), .ref 53, .ref 54, .ref 55, .int (m.F 42 38), .int (m.F 42 39), .ref 56, .ref 57, .ref 58, .ref 59, .ref 60, .ref 61, .ref 62, .ref 63, .int (m.F 42 48), .ref 64, .ref 65, .ref 66, .ref 67, .int (m.F 42 53), .int (m.F 42 54), .ref 68, .int (m.F 42 56), .int v, .int (m.F 42 58)])) = hp (m.uF 42 57 v) := rfl
set_option maxRecDepth 20000 in
theorem pf_42_58 (m : Mm) (v : Int32) : (hp m).set 42 (.inr (10, [.ref 43, .int (m.F 42 1), .int (m.F 42 2), .ref 44, .ref 45, .int (m.F 42 5), .int (m.F 42 6), .int (m.F 42 7), .ref 46, .ref 47, .int (m.F 42 10), .ref 48, .int (m.F 42 12), .int (m.F 42 13), .ref 49, .int (m.F 42 15), .int (m.F 42 16), .int (m.F 42 17), .ref 50, .int (m.F 42 19), .int (m.F 42 20), .int (m.F 42 21), .int (m.F 42 22), .ref 51, .ref 52, .int (m.F 42 25), .int (m.F 42 26), .int (m.F 42 27), .int (m.F 42 28), .int (m.F 42 29), .int (m.F 42 30), .int (m.F 42 31), .int (m.F 42 32), .int (m.F 42 33), .int (m.F 42 34), .ref 53, .ref 54, .ref 55, .int (m.F 42 38), .int (m.F 42 39), .ref 56, .ref 57, .ref 58, .ref 59, .ref 60, .ref 61, .ref 62, .ref 63, .int (m.F 42 48), .ref 64, .ref 65, .ref 66, .ref 67, .int (m.F 42 53), .int (m.F 42 54), .ref 68, .int (m.F 42 56), .int (m.F 42 57), .int v])) = hp (m.uF 42 58 v) := rfl
set_option maxRecDepth 20000 in
theorem pa_43 (m : Mm) (v : List Int32) : (hp m).set 43 (.inl (2, .inl v)) = hp (m.uA 43 v) := rfl
set_option maxRecDepth 20000 in
theorem pa_44 (m : Mm) (v : List Int32) : (hp m).set 44 (.inl (0, .inl v)) = hp (m.uA 44 v) := rfl
set_option maxRecDepth 20000 in
theorem pa_45 (m : Mm) (v : List Int32) : (hp m).set 45 (.inl (0, .inl v)) = hp (m.uA 45 v) := rfl
set_option maxRecDepth 20000 in
theorem pa_46 (m : Mm) (v : List Int32) : (hp m).set 46 (.inl (0, .inl v)) = hp (m.uA 46 v) := rfl
set_option maxRecDepth 20000 in
theorem pa_47 (m : Mm) (v : List Int32) : (hp m).set 47 (.inl (0, .inl v)) = hp (m.uA 47 v) := rfl
set_option maxRecDepth 20000 in
theorem pa_48 (m : Mm) (v : List Int32) : (hp m).set 48 (.inl (0, .inl v)) = hp (m.uA 48 v) := rfl
set_option maxRecDepth 20000 in
theorem pa_49 (m : Mm) (v : List Int32) : (hp m).set 49 (.inl (0, .inl v)) = hp (m.uA 49 v) := rfl
set_option maxRecDepth 20000 in
theorem pa_50 (m : Mm) (v : List Int32) : (hp m).set 50 (.inl (0, .inl v)) = hp (m.uA 50 v) := rfl
set_option maxRecDepth 20000 in
theorem pa_51 (m : Mm) (v : List Int32) : (hp m).set 51 (.inl (0, .inl v)) = hp (m.uA 51 v) := rfl
set_option maxRecDepth 20000 in
theorem pa_52 (m : Mm) (v : List Int32) : (hp m).set 52 (.inl (0, .inl v)) = hp (m.uA 52 v) := rfl
set_option maxRecDepth 20000 in
theorem pa_53 (m : Mm) (v : List Int32) : (hp m).set 53 (.inl (0, .inl v)) = hp (m.uA 53 v) := rfl
set_option maxRecDepth 20000 in
theorem pa_54 (m : Mm) (v : List Int32) : (hp m).set 54 (.inl (0, .inl v)) = hp (m.uA 54 v) := rfl
set_option maxRecDepth 20000 in
theorem pa_55 (m : Mm) (v : List Int32) : (hp m).set 55 (.inl (0, .inl v)) = hp (m.uA 55 v) := rfl
set_option maxRecDepth 20000 in
theorem pa_56 (m : Mm) (v : List Int32) : (hp m).set 56 (.inl (0, .inl v)) = hp (m.uA 56 v) := rfl
set_option maxRecDepth 20000 in
theorem pa_57 (m : Mm) (v : List Int32) : (hp m).set 57 (.inl (0, .inl v)) = hp (m.uA 57 v) := rfl
set_option maxRecDepth 20000 in
theorem pa_58 (m : Mm) (v : List Int64) : (hp m).set 58 (.inl (1, .inr (.inl v))) = hp (m.uB 58 v) := rfl
set_option maxRecDepth 20000 in
theorem pa_59 (m : Mm) (v : List Int32) : (hp m).set 59 (.inl (3, .inl v)) = hp (m.uA 59 v) := rfl
set_option maxRecDepth 20000 in
theorem pa_60 (m : Mm) (v : List Int32) : (hp m).set 60 (.inl (0, .inl v)) = hp (m.uA 60 v) := rfl
set_option maxRecDepth 20000 in
theorem pa_61 (m : Mm) (v : List Int64) : (hp m).set 61 (.inl (1, .inr (.inl v))) = hp (m.uB 61 v) := rfl
set_option maxRecDepth 20000 in
theorem pa_62 (m : Mm) (v : List Int64) : (hp m).set 62 (.inl (1, .inr (.inl v))) = hp (m.uB 62 v) := rfl
set_option maxRecDepth 20000 in
theorem pa_63 (m : Mm) (v : List Int32) : (hp m).set 63 (.inl (3, .inl v)) = hp (m.uA 63 v) := rfl
set_option maxRecDepth 20000 in
theorem pa_64 (m : Mm) (v : List Int32) : (hp m).set 64 (.inl (0, .inl v)) = hp (m.uA 64 v) := rfl
set_option maxRecDepth 20000 in
theorem pa_65 (m : Mm) (v : List Int32) : (hp m).set 65 (.inl (0, .inl v)) = hp (m.uA 65 v) := rfl
set_option maxRecDepth 20000 in
theorem pa_66 (m : Mm) (v : List Int64) : (hp m).set 66 (.inl (1, .inr (.inl v))) = hp (m.uB 66 v) := rfl
set_option maxRecDepth 20000 in
theorem pa_67 (m : Mm) (v : List Int32) : (hp m).set 67 (.inl (3, .inl v)) = hp (m.uA 67 v) := rfl
set_option maxRecDepth 20000 in
theorem pa_68 (m : Mm) (v : List Int64) : (hp m).set 68 (.inl (1, .inr (.inl v))) = hp (m.uB 68 v) := rfl
def tbl (r : Nat) : Prop := r = 3 ∨ r = 6 ∨ r = 9
def acc (a : Nat) : Prop := a = 36 ∨ a = 37 ∨ a = 38 ∨ a = 39
def rws (q : Nat) : Prop := q = 31 ∨ q = 32
theorem hq_tbl {r : Nat} (k : tbl r) (m : Mm) : (hp m)[r]? = some (.inr (1, [.ref (r + 1), .ref (r + 2), .int (m.F r 2), .int (m.F r 3)])) := by rcases k with rfl | rfl | rfl <;> rfl
theorem hq_tb1 {r : Nat} (k : tbl r) (m : Mm) : (hp m)[r + 1]? = some (.inl (1, .inr (.inl (m.B (r + 1))))) := by rcases k with rfl | rfl | rfl <;> rfl
theorem hq_tb2 {r : Nat} (k : tbl r) (m : Mm) : (hp m)[r + 2]? = some (.inl (3, .inl (m.A (r + 2)))) := by rcases k with rfl | rfl | rfl <;> rfl
theorem hq_acc {a : Nat} (k : acc a) (m : Mm) : (hp m)[a]? = some (.inr (8, [.ref 12, .ref 17, .int (m.F a 2), .int (m.F a 3), .int (m.F a 4), .int (m.F a 5), .int (m.F a 6), .int (m.F a 7)])) := by rcases k with rfl | rfl | rfl | rfl <;> rfl
theorem hq_rws {q : Nat} (k : rws q) (m : Mm) : (hp m)[q]? = some (.inl (0, .inl (m.A q))) := by rcases k with rfl | rfl <;> rfl
set_option maxRecDepth 20000 in
theorem pf_tbl_2 {r : Nat} (k : tbl r) (m : Mm) (v : Int32) : (hp m).set r (.inr (1, [.ref (r + 1), .ref (r + 2), .int v, .int (m.F r 3)])) = hp (m.uF r 2 v) := by rcases k with rfl | rfl | rfl <;> rfl
set_option maxRecDepth 20000 in
theorem pf_tbl_3 {r : Nat} (k : tbl r) (m : Mm) (v : Int32) : (hp m).set r (.inr (1, [.ref (r + 1), .ref (r + 2), .int (m.F r 2), .int v])) = hp (m.uF r 3 v) := by rcases k with rfl | rfl | rfl <;> rfl
set_option maxRecDepth 20000 in
theorem pa_tb1 {r : Nat} (k : tbl r) (m : Mm) (v : List Int64) : (hp m).set (r + 1) (.inl (1, .inr (.inl v))) = hp (m.uB (r + 1) v) := by rcases k with rfl | rfl | rfl <;> rfl
set_option maxRecDepth 20000 in
theorem pa_tb2 {r : Nat} (k : tbl r) (m : Mm) (v : List Int32) : (hp m).set (r + 2) (.inl (3, .inl v)) = hp (m.uA (r + 2) v) := by rcases k with rfl | rfl | rfl <;> rfl
set_option maxRecDepth 20000 in
theorem pa_rws {q : Nat} (k : rws q) (m : Mm) (v : List Int32) : (hp m).set q (.inl (0, .inl v)) = hp (m.uA q v) := by rcases k with rfl | rfl <;> rfl
set_option maxRecDepth 20000 in
theorem pf_acc_4 {a : Nat} (k : acc a) (m : Mm) (v : Int32) : (hp m).set a (.inr (8, [.ref 12, .ref 17, .int (m.F a 2), .int (m.F a 3), .int v, .int (m.F a 5), .int (m.F a 6), .int (m.F a 7)])) = hp (m.uF a 4 v) := by rcases k with rfl | rfl | rfl | rfl <;> rfl
set_option maxRecDepth 20000 in
theorem pf_acc_5 {a : Nat} (k : acc a) (m : Mm) (v : Int32) : (hp m).set a (.inr (8, [.ref 12, .ref 17, .int (m.F a 2), .int (m.F a 3), .int (m.F a 4), .int v, .int (m.F a 6), .int (m.F a 7)])) = hp (m.uF a 5 v) := by rcases k with rfl | rfl | rfl | rfl <;> rfl
set_option maxRecDepth 20000 in
theorem pf_acc_6 {a : Nat} (k : acc a) (m : Mm) (v : Int32) : (hp m).set a (.inr (8, [.ref 12, .ref 17, .int (m.F a 2), .int (m.F a 3), .int (m.F a 4), .int (m.F a 5), .int v, .int (m.F a 7)])) = hp (m.uF a 6 v) := by rcases k with rfl | rfl | rfl | rfl <;> rfl
set_option maxRecDepth 20000 in
theorem pf_acc_7 {a : Nat} (k : acc a) (m : Mm) (v : Int32) : (hp m).set a (.inr (8, [.ref 12, .ref 17, .int (m.F a 2), .int (m.F a 3), .int (m.F a 4), .int (m.F a 5), .int (m.F a 6), .int v])) = hp (m.uF a 7 v) := by rcases k with rfl | rfl | rfl | rfl <;> rfl
