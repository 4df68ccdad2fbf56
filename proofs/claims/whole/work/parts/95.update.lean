/-! UPDATE, the class: copyColumn, areKeys, putColumn -/
section U95
variable {d : Nat} {m m0 m1 : Mm} {K : Option Value → Mm → Prop} {D : Db} {e : St} {t i j : Nat} {L : List Hit}
theorem lp_35 (ht : t < 3) (hI : DI D) {c : Nat} (hc : c < wd D t) : ∀ (n i : Nat) (m : Mm), i + n = (rw_ D t).length → Len m → DC m D → (∀ q, q < i → (m.B 41).getD q 0 = cl_ (rw_ D t) q c) → (∀ m', (∀ q, q < (rw_ D t).length → (m'.B 41).getD q 0 = cl_ (rw_ D t) q c) → Fr [41] m m' → K none m') → WH d 35 2 [(0, .ref (3 + 3 * t)), (1, .int (nI c)), (2, .ref 41), (3, .int (nI i))] [] m K := by
  have h20 := (hI t ht).2.1
  have hw4 := (hI t ht).1
  intro n
  induction n with
  | zero =>
    intro i m hi hL hD hB k
    refine sg_35_2 _ _ _ (tbl_t ht) ?_
    rw [(hD t ht).2.1, if_pos (by rw [nIle (by omega) (by omega)]; omega)]
    exact k m (fun q hq => hB q (by omega)) (Fr.refl _ m)
  | succ n ih =>
    intro i m hi hL hD hB k
    have lB := lenB (tbl_t ht) hL
    have l41 : (m.B 41).length = 20 := hL.b (by decide) rfl
    refine sg_35_2 _ _ _ (tbl_t ht) ?_
    rw [(hD t ht).2.1, if_neg (by rw [nIle (by omega) (by omega)]; omega), pk_mul, nI_add, nI_add, lB, l41, ix_nI (by omega), ix_nI (by omega), (hD t ht).2.2.1 i (by omega) c hc]
    refine ⟨ok_nI (by omega) (by decide), ok_nI (by omega) (by decide), ?_⟩
    have f1 : Fr [41] m (m.uB 41 ((m.B 41).set i (cl_ (rw_ D t) i c))) := Fr.uB (Fr.refl _ m) (by decide) (by rw [List.length_set])
    refine ih (i + 1) _ (by omega) (hL.fr f1) (hD.fr f1 (by decide)) (fun q hq => ?_) (fun m' a1 a2 => k m' a1 (f1.trans a2))
    rw [mB_B, if_pos rfl, getD_set _ _ _ _ _ (by omega)]
    by_cases h : q = i
    · rw [if_pos h, h]
    · rw [if_neg h]; exact hB q (by omega)
theorem c_35 (ht : t < 3) (hI : DI D) {c : Nat} (hc : c < wd D t) (hL : Len m) (hD : DC m D) (k : ∀ m', (∀ q, q < (rw_ D t).length → (m'.B 41).getD q 0 = cl_ (rw_ D t) q c) → Fr [41] m m' → K none m') : WP d 35 [.ref (3 + 3 * t), .int (nI c), .ref 41] m K := by
  refine sp_35 _ _ (tbl_t ht) ?_
  exact lp_35 ht hI hc (rw_ D t).length 0 m (by omega) hL hD (fun q hq => absurd hq (Nat.not_lt_zero q)) k
/-! areKeys -/
theorem take_snoc_i {l : List Int64} {i : Nat} (h : i < l.length) : l.take (i + 1) = l.take i ++ [l.getD i 0] := by
  rw [List.take_add_one, List.getElem?_eq_getElem h, List.getD_eq_getElem?_getD, List.getElem?_eq_getElem h]; rfl
theorem mem_take_i {l : List Int64} {i j : Nat} (h : j < i) (hi : i ≤ l.length) : l.getD j 0 ∈ l.take i := by
  have : l.getD j 0 = (l.take i).getD j 0 := by
    rw [List.getD_eq_getElem?_getD, List.getD_eq_getElem?_getD, List.getElem?_take_of_lt h]
  rw [this]
  exact getD_in (by rw [List.length_take]; omega)
theorem lp_22b {l : List Int64} (hl : l.length ≤ 20) {i : Nat} (hi : i < l.length) (l41 : (m.B 41).length = 20) (hB : ∀ q, q < l.length → (m.B 41).getD q 0 = l.getD q 0) (kb : l.getD i 0 ∈ l.take i → K (some (.int (nI 0))) m) (kg : l.getD i 0 ∉ l.take i → WH d 22 2 [(0, .ref 41), (1, .int (nI l.length)), (2, .int (nI i + nI 1))] [] m K) : ∀ (n j : Nat), j + n = i → l.getD i 0 ∉ l.take j → WH d 22 27 [(0, .ref 41), (1, .int (nI l.length)), (2, .int (nI i)), (3, .int (nI j))] [] m K := by
  intro n
  induction n with
  | zero =>
    intro j hj hn
    refine sg_22_27 _ _ _ ?_
    rw [if_pos (by rw [nIle (by omega) (by omega)]; omega)]
    exact kg (by rw [show i = j by omega] at hn ⊢; exact hn)
  | succ n ih =>
    intro j hj hn
    refine sg_22_27 _ _ _ ?_
    rw [if_neg (by rw [nIle (by omega) (by omega)]; omega), l41, ix_nI (by omega), ix_nI (by omega), hB i hi, hB j (by omega)]
    refine ⟨ok_nI (by omega) (by decide), ok_nI (by omega) (by decide), ?_⟩
    by_cases h : l.getD i 0 = l.getD j 0
    · rw [if_pos ((lg_k _ _).mpr h)]
      exact kb (by rw [h]; exact mem_take_i (by omega) (by omega))
    · rw [if_neg (fun z => h ((lg_k _ _).mp z)), nI_add]
      refine ih (j + 1) (by omega) (fun z => ?_)
      rw [take_snoc_i (by omega)] at z
      rcases List.mem_append.mp z with z | z
      · exact hn z
      · exact h (List.mem_singleton.mp z)
theorem lp_22a {l : List Int64} (hl : l.length ≤ 20) (l41 : (m.B 41).length = 20) (hB : ∀ q, q < l.length → (m.B 41).getD q 0 = l.getD q 0) (k : K (some (.int (bI (kOK l = true)))) m) : ∀ (n i : Nat), i + n = l.length → NUL ∉ l.take i → (l.take i).Nodup → WH d 22 2 [(0, .ref 41), (1, .int (nI l.length)), (2, .int (nI i))] [] m K := by
  intro n
  induction n with
  | zero =>
    intro i hi h1 h2
    rw [List.take_of_length_le (by omega)] at h1 h2
    refine sg_22_2 _ _ ?_
    rw [if_pos (by rw [nIle (by omega) (by omega)]; omega)]
    rw [bI_t (show kOK l = true from decide_eq_true ⟨h1, h2⟩)] at k
    exact k
  | succ n ih =>
    intro i hi h1 h2
    have hbad : ∀ x, x ∈ l.take (i + 1) → x ∈ l := fun x hx => List.mem_of_mem_take hx
    refine sg_22_2 _ _ ?_
    rw [if_neg (by rw [nIle (by omega) (by omega)]; omega), l41, if_neg (by rw [nIle (by decide) (by omega)]; omega), ix_nI (by omega), hB i (by omega)]
    refine ⟨ok_nI (by omega) (by decide), ?_⟩
    have ets := take_snoc_i (l := l) (i := i) (by omega)
    by_cases hN : l.getD i 0 = NUL
    · rw [if_pos ((lg_nul _).mpr hN)]
      rw [bI_f (show ¬ kOK l = true from fun z => (of_decide_eq_true z).1 (by rw [← hN]; exact getD_in (by omega)))] at k
      exact k
    · rw [if_neg (fun z => hN ((lg_nul _).mp z))]
      refine lp_22b hl (by omega) l41 hB (fun hm => ?_) (fun hm => ?_) i 0 (by omega) (fun z => by cases z)
      · rw [bI_f (show ¬ kOK l = true from fun z => ?_)] at k
        · exact k
        · have hnd := (of_decide_eq_true z).2
          have h3 : (l.take (i + 1)).Nodup := (List.take_sublist _ _).nodup hnd
          rw [ets] at h3
          exact (List.nodup_append.mp h3).2.2 _ hm _ (List.mem_singleton.mpr rfl) rfl
      · rw [nI_add]
        refine ih (i + 1) (by omega) ?_ ?_
        · rw [ets]
          intro z
          rcases List.mem_append.mp z with z | z
          · exact h1 z
          · exact hN (List.mem_singleton.mp z).symm
        · rw [ets]
          refine List.nodup_append.mpr ⟨h2, List.nodup_cons.mpr ⟨(by intro z; cases z), List.nodup_nil⟩, fun a ha b hb hab => ?_⟩
          rw [List.mem_singleton.mp hb] at hab
          rw [hab] at ha
          exact hm ha
theorem c_22 {l : List Int64} (hL : Len m) (hl : l.length ≤ 20) (hB : ∀ q, q < l.length → (m.B 41).getD q 0 = l.getD q 0) (k : K (some (.int (bI (kOK l = true)))) m) : WP d 22 [.ref 41, .int (nI l.length)] m K := by
  refine sp_22 _ ?_
  exact lp_22a hl (hL.b (by decide) rfl) hB k l.length 0 (by omega) (by intro z; cases z) List.nodup_nil
end U95
