/-! REMOVE, the reference -/
section Q99
variable {d nm : Nat} {m m0 m1 : Mm} {K : Option Value → Mm → Prop} {D : Db} {e : St} {P : Nat → List (List Int64)} {ps : List Pt} {t : Nat}
theorem lp_183b (ht : t < 3) {l r : Nat} (hl : l ≤ r) (hr : r < 20) : ∀ (n j : Nat) (m : Mm), j + n = 4 → Len m → (∀ m', (∀ q, (m'.B 58).getD q 0 = if 80 * t + 4 * l + j ≤ q ∧ q < 80 * t + 4 * l + 4 then (m.B 58).getD (q - 4 * l + 4 * r) 0 else (m.B 58).getD q 0) → Fq [] [58] m m' → WH d 183 4 [(0, .ref 42), (1, .int (nI t)), (2, .int (nI l + nI 1)), (3, .int (nI r + nI 1))] [] m' K) → WH d 183 39 [(0, .ref 42), (1, .int (nI t)), (2, .int (nI l)), (3, .int (nI r)), (4, .int (nI j))] [] m K := by
  intro n
  induction n with
  | zero =>
    intro j m hj hL k
    refine sg_183_39 _ _ _ _ ?_
    rw [if_pos (by rw [nIle (by decide) (by omega)]; omega)]
    refine k m (fun q => ?_) (Fq.refl _ _ _)
    rw [if_neg (by omega)]
  | succ n ih =>
    intro j m hj hL k
    have l58 : (m.B 58).length = 240 := hL.b (by decide) rfl
    refine sg_183_39 _ _ _ _ ?_
    rw [if_neg (by rw [nIle (by decide) (by omega)]; omega), pk_mul, pk_mul, pk_mul, nI_add, nI_add, nI_add, nI_add, nI_add, l58, ix_nI (by omega), ix_nI (by omega)]
    refine ⟨ok_nI (by omega) (by decide), ok_nI (by omega) (by decide), ?_⟩
    have f1 : Fq [] [58] m (m.uB 58 ((m.B 58).set (80 * t + 4 * l + j) ((m.B 58).getD (80 * t + 4 * r + j) 0))) := Fq.uB (Fq.refl _ _ _) (by decide) (by rw [List.length_set])
    refine ih (j + 1) _ (by omega) (hL.fq f1) (fun m' a1 a2 => k m' (fun q => ?_) (f1.trans a2))
    rw [a1 q, mB_B, if_pos rfl, getD_set _ _ _ _ _ (by omega), getD_set _ _ _ _ _ (by omega)]
    by_cases h1 : 80 * t + 4 * l + (j + 1) ≤ q ∧ q < 80 * t + 4 * l + 4
    · rw [if_pos h1, if_neg (by omega), if_pos (by omega)]
    · rw [if_neg h1]
      by_cases h2 : q = 80 * t + 4 * l + j
      · rw [if_pos h2, if_pos (by omega), show q - 4 * l + 4 * r = 80 * t + 4 * r + j by omega]
      · rw [if_neg h2, if_neg (by omega)]
def kep (D : Db) (e : St) (R : List (List Int64)) (r : Nat) : List (List Int64) := (R.take r).filter (fun x => !whR D e x)
theorem kep_snoc {R : List (List Int64)} {r : Nat} (h : r < R.length) : kep D e R (r + 1) = if whR D e (R.getD r []) = true then kep D e R r else kep D e R r ++ [R.getD r []] := by
  unfold kep
  rw [take_succ_getD h, List.filter_append]
  by_cases hw : whR D e (R.getD r []) = true
  · rw [if_pos hw, List.filter_cons_of_neg (p := fun x => !whR D e x) (by show ¬ (!whR D e (R.getD r [])) = true; rw [hw]; decide), List.filter_nil, List.append_nil]
  · rw [if_neg hw, List.filter_cons_of_pos (p := fun x => !whR D e x) (by show (!whR D e (R.getD r [])) = true; rw [Bool.eq_false_iff.mpr hw]; rfl), List.filter_nil]
theorem kep_len {R : List (List Int64)} {r : Nat} : (kep D e R r).length ≤ r := by
  unfold kep
  have h1 := List.length_filter_le (fun x => !whR D e x) (R.take r)
  rw [List.length_take] at h1
  omega
theorem lp_183a (hI : DI D) (h5 : e.2.1 5 < 3) (hperm : (P (e.2.1 5)).Perm (rw_ D (e.2.1 5))) (hD0 : DR m0 D P) : ∀ (n r : Nat) (m : Mm), r + n = (rw_ D (e.2.1 5)).length → Len m → Fq [53] [57, 58] m0 m → m.A 57 = m0.A 57 → MK m D e (P (e.2.1 5)) (rw_ D (e.2.1 5)).length → m.F 42 53 = nI (((P (e.2.1 5)).take r).countP (whR D e)) → (∀ i, i < (kep D e (P (e.2.1 5)) r).length → ∀ c, c < wd D (e.2.1 5) → (m.B 58).getD (80 * e.2.1 5 + 4 * i + c) 0 = cl_ (kep D e (P (e.2.1 5)) r) i c) → (∀ q, ¬ (80 * e.2.1 5 ≤ q ∧ q < 80 * e.2.1 5 + 4 * r) → (m.B 58).getD q 0 = (m0.B 58).getD q 0) → (∀ m' P', DR m' (delD D e) P' → m'.F 42 53 = nI ((rw_ D (e.2.1 5)).countP (whR D e)) → Fq [53] [57, 58] m0 m' → K none m') → WH d 183 4 [(0, .ref 42), (1, .int (nI (e.2.1 5))), (2, .int (nI (kep D e (P (e.2.1 5)) r).length)), (3, .int (nI r))] [] m K := by
  have hR20 := (hI _ h5).2.1
  have hw4 := (hI _ h5).1
  have hpl := hperm.length_eq
  intro n
  induction n with
  | zero =>
    intro r m hr hL hF h57 hM h53 hB hO k
    have l7 : (m.A 57).length = 3 := hL.a (by decide) rfl
    have hkl := kep_len (D := D) (e := e) (R := P (e.2.1 5)) (r := r)
    refine sg_183_4 _ _ _ ?_
    rw [l7, ix_nI (by omega), h57, (hD0 _ h5).2.1, if_pos (by rw [nIle (by omega) (by omega)]; omega)]
    refine ⟨ok_nI (by omega) (by decide), ok_nI (by omega) (by decide), ?_⟩
    have er : kep D e (P (e.2.1 5)) r = (P (e.2.1 5)).filter (fun x => !whR D e x) := by
      unfold kep
      rw [List.take_of_length_le (by omega)]
    have hpf : ((P (e.2.1 5)).filter (fun x => !whR D e x)).Perm (delR D e) := hperm.filter _
    have l7' : (m0.A 57).length = 3 := by rw [← h57]; exact l7
    have f1 : Fq [53] [57, 58] m0 (m.uA 57 ((m0.A 57).set (e.2.1 5) (nI (kep D e (P (e.2.1 5)) r).length))) := Fq.uA hF (by decide) (by rw [List.length_set, h57])
    refine k _ (updP P (e.2.1 5) ((P (e.2.1 5)).filter (fun x => !whR D e x))) ?_ ?_ f1
    · unfold delD
      refine DR_upd h5 hD0 f1.1 (by decide) (by decide) hpf (fun s hs => ?_) (fun i hi c hc => ?_) (fun s hs hst i hi c hc => ?_) hI
      · rw [mA_A, if_pos rfl, getD_set _ _ _ _ _ (by omega)]
        by_cases hst : s = e.2.1 5
        · rw [if_pos hst, if_pos hst, er, hpf.length_eq]
        · rw [if_neg hst, if_neg hst]
      · rw [er] at hB
        exact hB i (by rw [hpf.length_eq]; exact hi) c hc
      · exact hO _ (by omega)
    · show m.F 42 53 = _
      rw [h53, List.take_of_length_le (by omega), hperm.countP_eq]
  | succ n ih =>
    intro r m hr hL hF h57 hM h53 hB hO k
    have l7 : (m.A 57).length = 3 := hL.a (by decide) rfl
    have l63 : (m.A 63).length = 20 := hL.a (by decide) rfl
    have hkl := kep_len (D := D) (e := e) (R := P (e.2.1 5)) (r := r)
    have ec := cntP_snoc (R := P (e.2.1 5)) (q := whR D e) (i := r) (by omega)
    have ek := kep_snoc (D := D) (e := e) (R := P (e.2.1 5)) (r := r) (by omega)
    refine sg_183_4 _ _ _ ?_
    rw [l7, ix_nI (by omega), h57, (hD0 _ h5).2.1, if_neg (by rw [nIle (by omega) (by omega)]; omega), l63, ix_nI (by omega), (hM r (by omega)).1]
    refine ⟨ok_nI (by omega) (by decide), ok_nI (by omega) (by decide), ?_⟩
    by_cases hw : whR D e ((P (e.2.1 5)).getD r []) = true
    · rw [bI_t hw, if_neg (by decide), h53, nI_add, nI_add]
      rw [if_pos hw] at ec ek
      rw [← ec, ← ek]
      have f1 : Fq [53] [57, 58] m0 (m.uF 42 53 (nI (((P (e.2.1 5)).take (r + 1)).countP (whR D e)))) := Fq.uF hF (by decide) _
      exact ih (r + 1) _ (by omega) (hL.fr (Fr.uF (Fr.refl [42] m) (by decide) _ _)) f1 h57 hM rfl (by rw [ek]; exact hB) (fun q hq => hO q (by omega)) k
    · rw [bI_f hw, if_pos rfl]
      rw [if_neg hw] at ec ek
      refine lp_183b h5 hkl (by omega) 4 0 m (by omega) hL (fun m1 hB1 f1 => ?_)
      have el : (kep D e (P (e.2.1 5)) (r + 1)).length = (kep D e (P (e.2.1 5)) r).length + 1 := by rw [ek, List.length_append]; rfl
      rw [nI_add, nI_add, ← el]
      refine ih (r + 1) m1 (by omega) (hL.fq f1) (hF.trans (f1.mono (by decide) (by decide))) (by rw [f1.a (by decide)]; exact h57) (fun q hq => by rw [f1.a (by decide), f1.1.b (by decide)]; exact hM q hq) (by rw [f1.f (by decide), h53, ec]) (fun i hi c hc => ?_) (fun q hq => ?_) k
      · rw [el] at hi
        rw [hB1, ek]
        unfold cl_
        by_cases hil : i < (kep D e (P (e.2.1 5)) r).length
        · rw [if_neg (by omega), List.getD_eq_getElem?_getD (l := kep D e (P (e.2.1 5)) r ++ _), List.getElem?_append_left hil, ← List.getD_eq_getElem?_getD]
          exact hB i hil c hc
        · have hie : i = (kep D e (P (e.2.1 5)) r).length := by omega
          rw [if_pos (by omega), List.getD_eq_getElem?_getD (l := kep D e (P (e.2.1 5)) r ++ _), List.getElem?_append_right (by omega), hie, Nat.sub_self]
          show _ = ((P (e.2.1 5)).getD r []).getD c 0
          rw [show 80 * e.2.1 5 + 4 * (kep D e (P (e.2.1 5)) r).length + c - 4 * (kep D e (P (e.2.1 5)) r).length + 4 * r = 80 * e.2.1 5 + 4 * r + c by omega, hO _ (by omega)]
          exact (hD0 _ h5).2.2.2.1 r (by omega) c hc
      · rw [hB1, if_neg (by omega)]
        exact hO q (by omega)
theorem c_183 (hI : DI D) (h5 : e.2.1 5 < 3) (hL : Len m) (hD : DR m D P) (hM : MK m D e (P (e.2.1 5)) (rw_ D (e.2.1 5)).length) (h53 : m.F 42 53 = nI 0) (k : ∀ m' P', DR m' (delD D e) P' → m'.F 42 53 = nI ((rw_ D (e.2.1 5)).countP (whR D e)) → Fq [53] [57, 58] m m' → K none m') : WP d 183 [.ref 42, .int (nI (e.2.1 5))] m K := by
  refine sp_183 _ ?_
  exact lp_183a (m0 := m) hI h5 (hD _ h5).2.2.1 hD (rw_ D (e.2.1 5)).length 0 m (by omega) hL (Fq.refl _ _ _) rfl hM h53 (fun i hi => absurd hi (Nat.not_lt_zero i)) (fun q _ => rfl) k
end Q99
