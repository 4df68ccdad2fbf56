/-! THE TABLES: width, rows in the order of their keys, indexes; the class holds them so, the reference in another order -/
abbrev Db : Type := Nat → Nat × List (List Int64) × (Nat → Bool)
def wd (D : Db) (t : Nat) : Nat := (D t).1
def rw_ (D : Db) (t : Nat) : List (List Int64) := (D t).2.1
def ixd (D : Db) (t c : Nat) : Bool := (D t).2.2 c
def cl_ (R : List (List Int64)) (i c : Nat) : Int64 := (R.getD i []).getD c 0
def DC (m : Mm) (D : Db) : Prop := ∀ t, t < 3 → m.F (3 + 3 * t) 2 = nI (wd D t) ∧ m.F (3 + 3 * t) 3 = nI (rw_ D t).length ∧ (∀ i, i < (rw_ D t).length → ∀ c, c < wd D t → (m.B (3 + 3 * t + 1)).getD (i * 4 + c) 0 = cl_ (rw_ D t) i c) ∧ ∀ c, c < 4 → (m.A (3 + 3 * t + 2)).getD c 0 = bI (ixd D t c = true)
def DI1 (w : Nat) (R : List (List Int64)) (x : Nat → Bool) : Prop := w ≤ 4 ∧ R.length ≤ 20 ∧ (∀ r, r ∈ R → r.length = w ∧ ∀ v, v ∈ r → Nm v) ∧ (w = 0 → R = []) ∧ (∀ c, x c = true → 0 < c ∧ c < w) ∧ (∀ r, r ∈ R → r.getD 0 0 ≠ NUL) ∧ R.Pairwise (fun a b => a.getD 0 0 < b.getD 0 0)
def DI (D : Db) : Prop := ∀ t, t < 3 → DI1 (wd D t) (rw_ D t) (fun c => ixd D t c)
def DR (m : Mm) (D : Db) (P : Nat → List (List Int64)) : Prop := ∀ t, t < 3 → (m.A 56).getD t 0 = nI (wd D t) ∧ (m.A 57).getD t 0 = nI (rw_ D t).length ∧ (P t).Perm (rw_ D t) ∧ (∀ i, i < (rw_ D t).length → ∀ c, c < wd D t → (m.B 58).getD (80 * t + 4 * i + c) 0 = cl_ (P t) i c) ∧ ∀ c, c < 4 → (m.A 59).getD (4 * t + c) 0 = bI (ixd D t c = true)
def djC (S : List Nat) : Bool := dj S [3, 4, 5, 6, 7, 8, 9, 10, 11]
def djR (S : List Nat) : Bool := dj S [56, 57, 58, 59]
section D68
variable {d : Nat} {m m0 m1 : Mm} {K : Option Value → Mm → Prop} {D : Db} {P : Nat → List (List Int64)}
theorem DC.fr {S : List Nat} (h : DC m D) (k : Fr S m m1) (hs : djC S = true) : DC m1 D := by
  have N : ∀ c, c ∈ [3, 4, 5, 6, 7, 8, 9, 10, 11] → c ∉ S := fun c hc => dj_no hs hc
  intro t ht
  obtain ⟨h1, h2, h3, h4⟩ := h t ht
  have e : (3 + 3 * t) ∉ S ∧ (3 + 3 * t + 1) ∉ S ∧ (3 + 3 * t + 2) ∉ S := by
    rcases (by omega : t = 0 ∨ t = 1 ∨ t = 2) with rfl | rfl | rfl <;> exact ⟨N _ (by decide), N _ (by decide), N _ (by decide)⟩
  refine ⟨?_, ?_, ?_, ?_⟩
  · rw [k.f e.1]; exact h1
  · rw [k.f e.1]; exact h2
  · rw [k.b e.2.1]; exact h3
  · rw [k.a e.2.2]; exact h4
theorem DR.fq {G S : List Nat} (h : DR m D P) (k : Fq G S m m1) (hs : djR (42 :: S) = true) : DR m1 D P := by
  have N : ∀ c, c ∈ [56, 57, 58, 59] → c ∉ (42 :: S) := fun c hc => dj_no hs hc
  intro t ht
  have := h t ht
  rw [k.a (N 56 (by decide)), k.a (N 57 (by decide)), k.1.b (N 58 (by decide)), k.a (N 59 (by decide))]
  exact this
theorem tbl_t {t : Nat} (h : t < 3) : tbl (3 + 3 * t) := (tbl_ix h).2
theorem c_26 {t : Nat} (ht : t < 3) (hD : DC m D) (hI : DI D) (k : K (some (.int (bI (0 < wd D t)))) m) : WP d 26 [.ref (3 + 3 * t)] m K := by
  have h1 := (hD t ht).1
  have h2 := (hI t ht).1
  refine sp_26 _ (tbl_t ht) ?_
  rw [h1]
  by_cases h : 0 < wd D t
  · rw [if_neg (by rw [nIle (by omega) (by omega)]; omega)]; rw [bI_t h] at k; exact k
  · rw [if_pos (by rw [nIle (by omega) (by omega)]; omega)]; rw [bI_f h] at k; exact k
theorem c_27 {t c : Nat} (ht : t < 3) (hc : c < 1000) (hD : DC m D) (hI : DI D) (k : K (some (.int (bI (c < wd D t)))) m) : WP d 27 [.ref (3 + 3 * t), .int (nI c)] m K := by
  have h1 := (hD t ht).1
  have h2 := (hI t ht).1
  refine sp_27 _ _ (tbl_t ht) ?_
  rw [h1, if_neg (by rw [nIlt (by omega) (by omega)]; omega)]
  by_cases h : c < wd D t
  · rw [if_neg (by rw [nIle (by omega) (by omega)]; omega)]; rw [bI_t h] at k; exact k
  · rw [if_pos (by rw [nIle (by omega) (by omega)]; omega)]; rw [bI_f h] at k; exact k
theorem c_28 {t c : Nat} (ht : t < 3) (hc : c < 4) (hL : Len m) (hD : DC m D) (hI : DI D) (k : K (some (.int (bI (ixd D t c = true)))) m) : WP (d + 1) 28 [.ref (3 + 3 * t), .int (nI c)] m K := by
  have l1 : (m.A (3 + 3 * t + 2)).length = 4 := by
    rcases (by omega : t = 0 ∨ t = 1 ∨ t = 2) with rfl | rfl | rfl <;> exact hL.a (by decide) rfl
  have h4 := (hD t ht).2.2.2 c hc
  have hx : ixd D t c = true → c < wd D t := fun z => ((hI t ht).2.2.2.2.1 c z).2
  refine sp_28 _ _ (tbl_t ht) ?_
  refine c_27 ht (by omega) hD hI ⟨_, rfl, ?_⟩
  by_cases h : c < wd D t
  · rw [bI_t h, if_neg (by decide), l1, ix_nI (by omega), h4]
    refine ⟨ok_nI (by omega) (by decide), ?_⟩
    by_cases hz : ixd D t c = true
    · rw [bI_t hz] at k ⊢; rw [if_neg (by decide)]; exact k
    · rw [bI_f hz] at k ⊢; rw [if_pos rfl]; exact k
  · rw [bI_f h, if_pos rfl]
    rw [bI_f (fun z => h (hx z))] at k; exact k
end D68
