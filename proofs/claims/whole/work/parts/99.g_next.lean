/-! next() of the reference -/
def BS (h : Nat → Hit) (T : Nat → Bool) (j : Nat) : Option Nat → Prop
  | none => ∀ i, i < j → T i = true
  | some b => b < j ∧ T b = false ∧ ∀ i, i < j → T i = false → i ≠ b → hlt (h b) (h i) = true
section N99
variable {d nm : Nat} {m m0 m1 : Mm} {K : Option Value → Mm → Prop} {D : Db} {e : St} {P : Nat → List (List Int64)} {ps : List Pt} {t r q : Nat} {L : List Pr} {T : Nat → Bool}
def hK (D : Db) (e : St) (P : Nat → List (List Int64)) (L : List Pr) (i : Nat) : Hit := hP D e P (L.getD i (0, 0))
theorem lp_185 (hWF : WF e) (hI : DI D) (h5 : tq e 0 < 3) (h6 : tq e 1 < 3) (ha : e.1.2.1.all (okSb D e) = true) (h01 : 0 < wd D (tq e 0) ∧ 0 < wd D (tq e 1)) (hL : Len m) (hD : DR m D P) (h29 : m.F 42 29 = nI (e.2.1 14)) (hR : RL m D e P L) (hl60 : L.length ≤ 60) (hok : ∀ p, p ∈ L → okPr D e p) (hinj : ∀ i j, i < L.length → j < L.length → hK D e P L i = hK D e P L j → i = j) (hT : ∀ i, i < L.length → (m.A 67).getD i 0 = bI (T i = true)) (k : ∀ o, BS (hK D e P L) T L.length o → K (some (.int (oIx o))) m) : ∀ (n j : Nat) (o : Option Nat), j + n = L.length → BS (hK D e P L) T j o → WH (d + 1) 185 5 [(0, .ref 42), (1, .int (nI (tq e 0))), (2, .int (uX e)), (3, .int (oIx o)), (4, .int (nI j))] [] m K := by
  have l67 : (m.A 67).length = 60 := hL.a (by decide) rfl
  intro n
  induction n with
  | zero =>
    intro j o hj hB
    refine sg_185_5 _ _ _ _ ?_
    rw [hR.1, if_pos (by rw [nIle (by omega) (by omega)]; omega)]
    rw [show j = L.length by omega] at hB
    exact k o hB
  | succ n ih =>
    intro j o hj hB
    refine sg_185_5 _ _ _ _ ?_
    rw [hR.1, if_neg (by rw [nIle (by omega) (by omega)]; omega), l67, ix_nI (by omega), hT j (by omega), nI_add]
    refine ⟨ok_nI (by omega) (by decide), ?_⟩
    cases hTj : T j with
    | true =>
      rw [bI_t rfl, if_neg (by decide)]
      refine ih (j + 1) o (by omega) ?_
      cases o with
      | none =>
        intro i hi
        by_cases z : i = j
        · rw [z]; exact hTj
        · exact hB i (by omega)
      | some b =>
        obtain ⟨h1, h2, h3⟩ := hB
        refine ⟨by omega, h2, fun i hi hu hne => ?_⟩
        by_cases z : i = j
        · rw [z, hTj] at hu; cases hu
        · exact h3 i (by omega) hu hne
    | false =>
      rw [bI_f (by decide), if_pos rfl]
      cases o with
      | none =>
        rw [if_pos (by show (-1 : Int32) < nI 0; decide)]
        refine ih (j + 1) (some j) (by omega) ⟨by omega, hTj, fun i hi hu hne => ?_⟩
        have := hB i (by omega)
        rw [hu] at this; cases this
      | some b =>
        obtain ⟨h1, h2, h3⟩ := hB
        have eo : oIx (some b) = nI b := rfl
        rw [eo, if_neg (by rw [nIlt (by omega) (by decide)]; omega)]
        refine c_186 hWF hI h5 h6 ha h01 hL hD h29 hR hl60 (by omega) (by omega) (hok _ (getD_in (by omega))) (hok _ (getD_in (by omega))) ⟨_, rfl, ?_⟩
        have eh : hlt (hP D e P (L.getD j (0, 0))) (hP D e P (L.getD b (0, 0))) = hlt (hK D e P L j) (hK D e P L b) := rfl
        rw [eh]
        by_cases hc : hlt (hK D e P L j) (hK D e P L b) = true
        · rw [bI_t hc, if_neg (by decide)]
          refine ih (j + 1) (some j) (by omega) ⟨by omega, hTj, fun i hi hu hne => ?_⟩
          by_cases z : i = b
          · rw [z]; exact hc
          · exact hlt_tr hc (h3 i (by omega) hu z)
        · rw [bI_f hc, if_pos rfl]
          refine ih (j + 1) (some b) (by omega) ⟨by omega, h2, fun i hi hu hne => ?_⟩
          by_cases z : i = j
          · rw [z]
            refine hlt_tot (fun z => ?_) (Bool.eq_false_iff.mpr hc)
            exact absurd (hinj j b (by omega) (by omega) z) (by omega)
          · exact h3 i (by omega) hu hne
theorem c_185 (hWF : WF e) (hI : DI D) (h5 : tq e 0 < 3) (h6 : tq e 1 < 3) (ha : e.1.2.1.all (okSb D e) = true) (h01 : 0 < wd D (tq e 0) ∧ 0 < wd D (tq e 1)) (hL : Len m) (hD : DR m D P) (h29 : m.F 42 29 = nI (e.2.1 14)) (hR : RL m D e P L) (hl60 : L.length ≤ 60) (hok : ∀ p, p ∈ L → okPr D e p) (hinj : ∀ i j, i < L.length → j < L.length → hK D e P L i = hK D e P L j → i = j) (hT : ∀ i, i < L.length → (m.A 67).getD i 0 = bI (T i = true)) (k : ∀ o, BS (hK D e P L) T L.length o → K (some (.int (oIx o))) m) : WP (d + 1) 185 [.ref 42, .int (nI (tq e 0)), .int (uX e)] m K := by
  refine sp_185 _ _ ?_
  exact lp_185 hWF hI h5 h6 ha h01 hL hD h29 hR hl60 hok hinj hT k L.length 0 none (by omega) (fun i hi => absurd hi (Nat.not_lt_zero i))
/-- the smallest of those not told is the next in order -/
theorem BS_next {H : List Hit} {h : Nat → Hit} (hH : ∀ i, i < H.length → h i = H.getD i (0, 0, 0)) (hnd : H.Nodup) {x : Nat} (hx : x < H.length) {T : Nat → Bool} (hT : ∀ i, i < H.length → (T i = true ↔ h i ∈ (srt H).take x)) {o : Option Nat} (hB : BS h T H.length o) : ∃ b, o = some b ∧ b < H.length ∧ h b = hA H x := by
  have hs := srt_srt H hnd
  have hl := srt_len H
  have hmemx : hA H x ∈ H := (srt_perm H).mem_iff.mp (getD_in (by omega))
  have hnds : (srt H).Nodup := (srt_perm H).nodup_iff.mpr hnd
  obtain ⟨kx, hkx, hke⟩ := List.getElem_of_mem hmemx
  have hkx' : h kx = hA H x := by
    rw [hH kx hkx, List.getD_eq_getElem?_getD, List.getElem?_eq_getElem hkx]; exact hke
  have gA : ∀ y (hy : y < (srt H).length), hA H y = (srt H)[y] := fun y hy => by
    unfold hA
    rw [List.getD_eq_getElem?_getD, List.getElem?_eq_getElem hy]; rfl
  have hnot : T kx = false := by
    cases hh : T kx with
    | false => rfl
    | true =>
      have := (hT kx hkx).mp hh
      rw [hkx'] at this
      obtain ⟨y, hy, he⟩ := List.getElem_of_mem this
      rw [List.length_take] at hy
      rw [List.getElem_take] at he
      rw [gA x (by omega)] at he
      have := (List.getElem_inj hnds).mp he
      omega
  cases o with
  | none =>
    have := hB kx hkx
    rw [hnot] at this; cases this
  | some b =>
    obtain ⟨h1, h2, h3⟩ := hB
    refine ⟨b, rfl, h1, ?_⟩
    have hbm : h b ∈ srt H := (srt_perm H).mem_iff.mpr (by rw [hH b h1]; exact getD_in h1)
    obtain ⟨y, hy, he⟩ := List.getElem_of_mem hbm
    have hyx : x ≤ y := by
      rcases Nat.lt_or_ge y x with z | z
      · exfalso
        have : h b ∈ (srt H).take x := by
          rw [← he]
          exact List.mem_take_iff_getElem.mpr ⟨y, by omega, rfl⟩
        have := (hT b h1).mpr this
        rw [h2] at this; cases this
      · exact z
    rcases Nat.lt_or_eq_of_le hyx with z | z
    · exfalso
      have hlt1 := (List.pairwise_iff_getElem.mp hs) x y (by omega) hy z
      rw [← gA x (by omega), he] at hlt1
      have hne : kx ≠ b := by
        intro zz
        rw [zz] at hkx'
        rw [hkx', hlt_irr] at hlt1; cases hlt1
      have hlt2 := h3 kx hkx hnot hne
      rw [hkx'] at hlt2
      have := hlt_tr hlt1 hlt2
      rw [hlt_irr] at this; cases this
    · subst z
      rw [gA x hy]; exact he.symm
end N99
