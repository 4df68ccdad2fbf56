/-! THE ORDER, the reference: which row stands where -/
def sgm (D : Db) (P : Nat → List (List Int64)) (t r : Nat) : Nat := (rw_ D t).idxOf ((P t).getD r [])
section O99
variable {d nm : Nat} {m m0 m1 : Mm} {K : Option Value → Mm → Prop} {D : Db} {e : St} {P : Nat → List (List Int64)} {ps : List Pt} {t r q : Nat}
theorem sgm_mem (hp : (P t).Perm (rw_ D t)) (hr : r < (rw_ D t).length) : (P t).getD r [] ∈ rw_ D t := hp.mem_iff.mp (getD_in (by rw [hp.length_eq]; exact hr))
theorem sgm_lt (hp : (P t).Perm (rw_ D t)) (hr : r < (rw_ D t).length) : sgm D P t r < (rw_ D t).length := List.idxOf_lt_length_of_mem (sgm_mem hp hr)
theorem sgm_get (hp : (P t).Perm (rw_ D t)) (hr : r < (rw_ D t).length) : (rw_ D t).getD (sgm D P t r) [] = (P t).getD r [] := by
  have h := sgm_lt hp hr
  rw [List.getD_eq_getElem?_getD, List.getElem?_eq_getElem h]
  exact List.getElem_idxOf h
theorem rows_nodup (hI : DI D) (ht : t < 3) : (rw_ D t).Nodup := (hI t ht).2.2.2.2.2.2.imp (fun {a b} hab z => by
  rw [z, Int64.lt_iff_toInt_lt] at hab
  omega)
theorem getD_inj {l : List (List Int64)} (h : l.Nodup) {i j : Nat} (hi : i < l.length) (hj : j < l.length) (he : l.getD i [] = l.getD j []) : i = j := by
  rw [List.getD_eq_getElem?_getD, List.getD_eq_getElem?_getD, List.getElem?_eq_getElem hi, List.getElem?_eq_getElem hj] at he
  have hp := List.pairwise_iff_getElem.mp h
  have he : l[i] = l[j] := he
  rcases Nat.lt_trichotomy i j with z | z | z
  · exact absurd he (hp i j hi hj z)
  · exact z
  · exact absurd he.symm (hp j i hj hi z)
theorem sgm_inj (hI : DI D) (ht : t < 3) (hp : (P t).Perm (rw_ D t)) {r r' : Nat} (hr : r < (rw_ D t).length) (hr' : r' < (rw_ D t).length) (h : sgm D P t r = sgm D P t r') : r = r' := by
  have e1 := sgm_get hp hr
  have e2 := sgm_get hp hr'
  rw [h, e2] at e1
  exact getD_inj (hp.nodup_iff.mpr (rows_nodup hI ht)) (by rw [hp.length_eq]; exact hr) (by rw [hp.length_eq]; exact hr') e1.symm
theorem sgm_sur (hI : DI D) (ht : t < 3) (hp : (P t).Perm (rw_ D t)) {i : Nat} (hi : i < (rw_ D t).length) : ∃ r, r < (rw_ D t).length ∧ sgm D P t r = i := by
  have hm : (rw_ D t).getD i [] ∈ P t := hp.mem_iff.mpr (getD_in hi)
  obtain ⟨r, hr, he⟩ := List.getElem_of_mem hm
  have hr' : r < (rw_ D t).length := by rw [← hp.length_eq]; exact hr
  refine ⟨r, hr', ?_⟩
  have e1 := sgm_get hp hr'
  have e2 : (P t).getD r [] = (rw_ D t).getD i [] := by rw [List.getD_eq_getElem?_getD, List.getElem?_eq_getElem hr]; exact he
  rw [e2] at e1
  exact getD_inj (rows_nodup hI ht) (sgm_lt hp hr') hi e1
/-- places stand for keys -/
theorem key_lt (hI : DI D) (ht : t < 3) {i j : Nat} (hi : i < (rw_ D t).length) (hj : j < (rw_ D t).length) : (((rw_ D t).getD i []).getD 0 0 < ((rw_ D t).getD j []).getD 0 0) ↔ i < j := by
  have hpw := (hI t ht).2.2.2.2.2.2
  have go : ∀ i j, i < j → j < (rw_ D t).length → ((rw_ D t).getD i []).getD 0 0 < ((rw_ D t).getD j []).getD 0 0 := by
    intro i j hij hj
    have := (List.pairwise_iff_getElem.mp hpw) i j (by omega) hj hij
    have g : ∀ k (hk : k < (rw_ D t).length), (rw_ D t).getD k [] = (rw_ D t)[k] := fun k hk => by rw [List.getD_eq_getElem?_getD, List.getElem?_eq_getElem hk]; rfl
    rw [g i (by omega), g j hj]
    exact this
  constructor
  · intro h
    rcases Nat.lt_trichotomy i j with z | z | z
    · exact z
    · subst z
      rw [Int64.lt_iff_toInt_lt] at h
      omega
    · have := go j i z hi
      rw [Int64.lt_iff_toInt_lt] at h this
      omega
  · exact fun h => go i j h hj
theorem key_eq (hI : DI D) (ht : t < 3) {i j : Nat} (hi : i < (rw_ D t).length) (hj : j < (rw_ D t).length) : (((rw_ D t).getD i []).getD 0 0 = ((rw_ D t).getD j []).getD 0 0) ↔ i = j := by
  constructor
  · intro h
    have h1 := key_lt hI ht hi hj
    have h2 := key_lt hI ht hj hi
    rw [h] at h1 h2
    have n1 : ¬ (((rw_ D t).getD j []).getD 0 0 < ((rw_ D t).getD j []).getD 0 0) := by rw [Int64.lt_iff_toInt_lt]; omega
    have := mt h1.mpr n1
    have := mt h2.mpr n1
    omega
  · intro h; rw [h]
/-- the number that orders -/
def upV (v : Int64) : Int64 := if v = NUL then -NUL else v
theorem upV_b {v : Int64} (h : Nm v) : -1099511627776 ≤ (upV v).toInt ∧ (upV v).toInt ≤ 2147483647 := by
  unfold upV
  by_cases z : v = NUL
  · rw [if_pos z]; decide
  · rw [if_neg z]
    rcases h with h | ⟨x, h⟩
    · exact absurd h z
    · rw [h, Int32.toInt_toInt64]
      have h1 := Int32.le_toInt x
      have h2 := Int32.toInt_lt x
      omega
theorem neg_int {v : Int64} (h : -1099511627776 ≤ v.toInt ∧ v.toInt ≤ 2147483647) : (-v).toInt = -v.toInt := by
  rw [Int64.toInt_neg]
  apply Int.bmod_eq_of_le <;> omega
theorem rk_up {dn : Nat} (hd : dn < 2) (v : Int64) : rkO dn v = if dn = 0 then upV v else -upV v := by
  unfold rkO upV
  rcases (by omega : dn = 0 ∨ dn = 1) with z | z <;> subst z
  · rw [if_pos rfl, if_pos rfl, if_pos rfl]
  · by_cases h : v = NUL
    · rw [h]; decide
    · rw [if_neg h, if_neg h]
theorem rk_eq {dn : Nat} (hd : dn < 2) {v w : Int64} (hv : Nm v) (hw : Nm w) : rkO dn v = rkO dn w ↔ upV v = upV w := by
  rw [rk_up hd, rk_up hd]
  rcases (by omega : dn = 0 ∨ dn = 1) with z | z <;> subst z
  · rw [if_pos rfl, if_pos rfl]
  · rw [if_neg (by decide), if_neg (by decide)]
    constructor
    · intro h
      have := congrArg Int64.toInt h
      rw [neg_int (upV_b hv), neg_int (upV_b hw)] at this
      exact Int64.toInt_inj.mp (by omega)
    · intro h; rw [h]
theorem rk_lt {dn : Nat} (hd : dn < 2) {v w : Int64} (hv : Nm v) (hw : Nm w) : rkO dn v < rkO dn w ↔ (if dn = 0 then upV v < upV w else upV w < upV v) := by
  rw [rk_up hd, rk_up hd]
  rcases (by omega : dn = 0 ∨ dn = 1) with z | z <;> subst z
  · rw [if_pos rfl, if_pos rfl, if_pos rfl]
  · rw [if_neg (by decide), if_neg (by decide), if_neg (by decide), Int64.lt_iff_toInt_lt, Int64.lt_iff_toInt_lt, neg_int (upV_b hv), neg_int (upV_b hw)]
    omega
end O99
