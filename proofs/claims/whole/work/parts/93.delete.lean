/-! DELETE, the class -/
def whR (D : Db) (e : St) (r : List Int64) : Bool := decide (e.2.1 11 = 0) || decide (val (envS 0 r) (seg (rs_ D e) (e.2.1 10) (e.2.1 11)) = 2)
theorem val_0S {D : Db} {e : St} {i j : Nat} (hWF : WF e) (ha : e.1.2.1.all (okSb D e) = true) (hz : e.2.1 6 = 0) {l : List Op} (hl : ∀ x, x ∈ l → x ∈ rs_ D e) : val (envD D (tq e) i j) l = val (envS 0 ((rw_ D (tq e 0)).getD i [])) l := by
  refine val_congr (fun x hx h3 => ?_)
  have hc := rs_col ha hWF.1 x (hl x hx) h3
  have h0 : x.2.2 = 0 := by
    by_cases z : x.2.2 = 1
    · exact absurd hz (hc.2.2.2 z)
    · have := hc.1; omega
  rw [h0]
  rfl
theorem whB_R {D : Db} {e : St} {i j : Nat} (hWF : WF e) (ha : e.1.2.1.all (okSb D e) = true) (hz : e.2.1 6 = 0) : whB D e i j = whR D e ((rw_ D (tq e 0)).getD i []) := by
  unfold whB whR
  rw [val_0S hWF ha hz (fun y hy => seg_mem hy)]
def JI (p : List Int64 → Bool) : List (List Int64) → Nat → List Nat
  | [], _ => []
  | r :: R, k => if p r = true then k :: JI p R (k + 1) else JI p R (k + 1)
theorem JI_mem (p : List Int64 → Bool) : ∀ (R : List (List Int64)) (k i : Nat), i ∈ JI p R k ↔ ∃ j, i = k + j ∧ j < R.length ∧ p (R.getD j []) = true
  | [], k, i => by
    constructor
    · intro h
      cases h
    · intro ⟨j, _, h, _⟩
      exact absurd h (Nat.not_lt_zero j)
  | r :: R, k, i => by
    have ih := JI_mem p R (k + 1) i
    have key : (∃ j, i = k + j ∧ j < (r :: R).length ∧ p ((r :: R).getD j []) = true) ↔ (i = k ∧ p r = true) ∨ i ∈ JI p R (k + 1) := by
      rw [ih]
      constructor
      · rintro ⟨j, h1, h2, h3⟩
        cases j with
        | zero => exact Or.inl ⟨h1, h3⟩
        | succ j => exact Or.inr ⟨j, by omega, by rw [List.length_cons] at h2; omega, h3⟩
      · rintro (⟨h1, h2⟩ | ⟨j, h1, h2, h3⟩)
        · exact ⟨0, h1, by rw [List.length_cons]; omega, h2⟩
        · exact ⟨j + 1, by omega, by rw [List.length_cons]; omega, h3⟩
    rw [key]
    have ej : JI p (r :: R) k = if p r = true then k :: JI p R (k + 1) else JI p R (k + 1) := rfl
    rw [ej]
    by_cases hp : p r = true
    · rw [if_pos hp, List.mem_cons]
      exact ⟨fun h => h.imp (fun z => ⟨z, hp⟩) id, fun h => h.imp (fun z => z.1) id⟩
    · rw [if_neg hp]
      exact ⟨fun h => Or.inr h, fun h => h.elim (fun z => absurd z.2 hp) id⟩
theorem JI_sort (p : List Int64 → Bool) : ∀ (R : List (List Int64)) (k : Nat), (JI p R k).Pairwise (fun a b => a < b)
  | [], k => List.Pairwise.nil
  | r :: R, k => by
    have ih := JI_sort p R (k + 1)
    unfold JI
    by_cases hp : p r = true
    · rw [if_pos hp]
      refine List.pairwise_cons.mpr ⟨fun i hi => ?_, ih⟩
      obtain ⟨j, h1, _⟩ := (JI_mem p R (k + 1) i).mp hi
      omega
    · rw [if_neg hp]; exact ih
def rmI (R : List (List Int64)) (l : List Nat) : List (List Int64) := l.foldr (fun i R => R.eraseIdx i) R
theorem rmI_len (R : List (List Int64)) : ∀ (l : List Nat), (rmI R l).length ≤ R.length
  | [] => Nat.le_refl _
  | i :: l => by
    show ((rmI R l).eraseIdx i).length ≤ _
    have := rmI_len R l
    rw [List.length_eraseIdx]
    split <;> omega
theorem rmI_JI (p : List Int64 → Bool) : ∀ (R A : List (List Int64)), rmI (A ++ R) (JI p R A.length) = A ++ R.filter (fun r => !p r)
  | [], A => rfl
  | r :: R, A => by
    have ih := rmI_JI p R (A ++ [r])
    rw [List.append_assoc, List.length_append] at ih
    have ih : rmI (A ++ r :: R) (JI p R (A.length + 1)) = A ++ [r] ++ R.filter (fun r => !p r) := ih
    unfold JI
    by_cases hp : p r = true
    · rw [if_pos hp, List.filter_cons_of_neg (by simp [hp])]
      show (rmI (A ++ r :: R) (JI p R (A.length + 1))).eraseIdx A.length = _
      rw [ih, List.append_assoc, List.eraseIdx_append_of_length_le (Nat.le_refl _), Nat.sub_self]
      rfl
    · rw [if_neg hp, ih, List.filter_cons_of_pos (by simp [hp]), List.append_assoc]; rfl
def oneL (D : Db) (e : St) : List Hit := (JI (whR D e) (rw_ D (tq e 0)) 0).map (fun i => hitD D e i 0)
theorem pair_nodup {l : List Nat} (h : l.Pairwise (fun a b => a < b)) : l.Nodup := h.imp (fun {a b} hab z => by omega)
theorem oneL_MH {D : Db} {e : St} (hWF : WF e) (ha : e.1.2.1.all (okSb D e) = true) (hz : e.2.1 6 = 0) : MH D e (oneL D e) := by
  refine ⟨hit_nodup (pair_nodup (JI_sort _ _ _)) (fun x y hxy => congrArg (fun (h : Hit) => h.2.1) hxy), fun x => ⟨fun hx => ?_, fun ⟨i, j, h1, h2, h3⟩ => ?_⟩⟩
  · obtain ⟨i, hi, rfl⟩ := List.mem_map.mp hx
    obtain ⟨j, h1, h2, h3⟩ := (JI_mem _ _ _ _).mp hi
    rw [Nat.zero_add] at h1
    subst h1
    exact ⟨i, 0, ⟨h2, by rw [if_pos hz]⟩, by rw [whB_R hWF ha hz]; exact h3, rfl⟩
  · have hj : j = 0 := by have := h1.2; rw [if_pos hz] at this; exact this
    subst hj
    exact List.mem_map.mpr ⟨i, (JI_mem _ _ _ _).mpr ⟨i, by omega, h1.1, by rw [← whB_R (j := 0) hWF ha hz]; exact h2⟩, h3.symm⟩
theorem oneL_srt {D : Db} {e : St} (h13 : e.2.1 13 = 0) : SrtH (oneL D e) := by
  unfold oneL SrtH
  rw [List.pairwise_map]
  refine (JI_sort _ _ _).imp (fun {a b} hab => ?_)
  have er : ∀ i, hitD D e i 0 = (rkO (e.2.1 14) 0, i, 0) := fun i => by
    unfold hitD orV
    rw [if_pos h13]
  rw [er, er]
  unfold hlt
  rw [if_pos rfl, if_neg (by show ¬ a = b; omega)]
  exact decide_eq_true hab
theorem one_srt {D : Db} {e : St} {L : List Hit} (hWF : WF e) (ha : e.1.2.1.all (okSb D e) = true) (hz : e.2.1 6 = 0) (h13 : e.2.1 13 = 0) (hM : MH D e L) : srt L = oneL D e :=
  srt_uniq (srt_srt L hM.1) (oneL_srt h13) ((srt_perm L).trans (MH_perm hM (oneL_MH hWF ha hz)))
theorem JI_len (p : List Int64 → Bool) : ∀ (R : List (List Int64)) (k : Nat), (JI p R k).length = R.countP p
  | [], k => rfl
  | r :: R, k => by
    have ih := JI_len p R (k + 1)
    unfold JI
    by_cases hp : p r = true
    · rw [if_pos hp, List.length_cons, List.countP_cons_of_pos hp, ih]
    · rw [if_neg hp, List.countP_cons_of_neg hp, ih]
theorem one_len {D : Db} {e : St} {L : List Hit} (hWF : WF e) (ha : e.1.2.1.all (okSb D e) = true) (hz : e.2.1 6 = 0) (h13 : e.2.1 13 = 0) (hM : MH D e L) : L.length = (rw_ D (tq e 0)).countP (whR D e) := by
  rw [← srt_len, one_srt hWF ha hz h13 hM]
  unfold oneL
  rw [List.length_map, JI_len]
def delR (D : Db) (e : St) : List (List Int64) := (rw_ D (e.2.1 5)).filter (fun r => !whR D e r)
def delD (D : Db) (e : St) : Db := updD D (e.2.1 5) (delR D e)
theorem tq0 (e : St) : tq e 0 = e.2.1 5 := if_pos (Or.inl rfl)
theorem one_del {D : Db} {e : St} {L : List Hit} (hWF : WF e) (ha : e.1.2.1.all (okSb D e) = true) (hz : e.2.1 6 = 0) (h13 : e.2.1 13 = 0) (hM : MH D e L) : rmI (rw_ D (e.2.1 5)) ((srt L).map (fun h => h.2.1)) = delR D e := by
  rw [one_srt hWF ha hz h13 hM]
  have e1 : (oneL D e).map (fun h => h.2.1) = JI (whR D e) (rw_ D (tq e 0)) 0 := by
    unfold oneL
    rw [List.map_map]
    exact List.map_id' _
  rw [e1, tq0]
  exact rmI_JI (whR D e) (rw_ D (e.2.1 5)) []
theorem nI_sb {a b : Nat} (h : b ≤ a) : nI a - nI b = nI (a - b) := by
  have : nI a = nI (a - b) + nI b := by rw [nI_add]; congr 1; omega
  rw [this, Int32.add_sub_cancel]
section E93
variable {d : Nat} {m m0 m1 : Mm} {K : Option Value → Mm → Prop} {D : Db} {e : St} {t i j : Nat} {L : List Hit}
theorem DC_upd (hD : DC m D) {R' : List (List Int64)} (f : Fr [3 + 3 * t, 3 + 3 * t + 1] m m1) (h2 : m1.F (3 + 3 * t) 2 = nI (wd D t)) (h3 : m1.F (3 + 3 * t) 3 = nI R'.length) (hB : ∀ i, i < R'.length → ∀ c, c < wd D t → (m1.B (3 + 3 * t + 1)).getD (i * 4 + c) 0 = cl_ R' i c) : DC m1 (updD D t R') := by
  intro s hs3
  rw [updD_w, updD_r]
  have ex : ∀ c, ixd (updD D t R') s c = ixd D s c := fun c => updD_x _ _ _ _ _
  obtain ⟨b1, b2, b3, b4⟩ := hD s hs3
  by_cases hst : s = t
  · subst hst
    rw [if_pos rfl]
    refine ⟨h2, h3, hB, fun c hc => ?_⟩
    rw [ex, f.a (by simp)]; exact b4 c hc
  · rw [if_neg hst]
    have n1 : 3 + 3 * s ∉ [3 + 3 * t, 3 + 3 * t + 1] := by simp; omega
    have n2 : 3 + 3 * s + 1 ∉ [3 + 3 * t, 3 + 3 * t + 1] := by simp; omega
    have n3 : 3 + 3 * s + 2 ∉ [3 + 3 * t, 3 + 3 * t + 1] := by simp; omega
    refine ⟨?_, ?_, ?_, fun c hc => ?_⟩
    · rw [f.f n1]; exact b1
    · rw [f.f n1]; exact b2
    · rw [f.b n2]; exact b3
    · rw [ex, f.a n3]; exact b4 c hc
theorem updD_upd (D : Db) (t : Nat) (R R' : List (List Int64)) : updD (updD D t R) t R' = updD D t R' := by
  funext s
  unfold updD
  by_cases h : s = t
  · rw [if_pos h, if_pos h]
    unfold wd
    simp
  · rw [if_neg h, if_neg h, if_neg h]
theorem updD_id {D : Db} {t : Nat} : updD D t (rw_ D t) = D := by
  funext s
  unfold updD
  by_cases h : s = t
  · rw [if_pos h, h]; rfl
  · rw [if_neg h]
theorem c_34 {R : List (List Int64)} (ht : t < 3) (hL : Len m) (hw4 : wd D t ≤ 4) (hD : DC m (updD D t R)) (h20 : R.length ≤ 20) (hi : i < 1000) (k : ∀ m', DC m' (updD D t (R.eraseIdx i)) → Fr [3 + 3 * t, 3 + 3 * t + 1] m m' → K none m') : WP (d + 1) 34 [.ref (3 + 3 * t), .int (nI i)] m K := by
  have hr := tbl_t ht
  obtain ⟨d1, d2, d3, d4⟩ := hD t ht
  rw [updD_r, if_pos rfl] at d2 d3
  rw [updD_w] at d1 d3
  have lB := lenB hr hL
  refine sp_34 _ _ hr ?_
  rw [if_neg (by rw [nIlt (by omega) (by decide)]; omega), d2]
  by_cases hin : i < R.length
  · rw [if_pos (by rw [nIlt (by omega) (by omega)]; exact hin), nI_add, pk_mul, pk_mul, pk_mul, nI_sb (by omega), nI_sb (by omega), lB, ix_nI (by omega), ix_nI (by omega), ix_nI (by omega)]
    refine ⟨?_, ?_⟩
    · unfold acok
      rw [ix_nI (by omega), ix_nI (by omega), ix_nI (by omega)]
      have z : ∀ a, a < 2 ^ 31 → ¬ nI a < 0 := fun a h => by
        have := nIlt (a := a) (b := 0) h (by decide)
        have z : nI 0 = 0 := rfl
        rw [z] at this
        rw [this]; omega
      rintro (h | h | h | h | h)
      · exact z _ (by omega) h
      · exact z _ (by omega) h
      · exact z _ (by omega) h
      · omega
      · omega
    · have f1 : Fr [3 + 3 * t, 3 + 3 * t + 1] m ((m.uB (3 + 3 * t + 1) (sm_cpy (m.B (3 + 3 * t + 1)) (m.B (3 + 3 * t + 1)) ((i + 1) * 4) (i * 4) (R.length * 4 - (i + 1) * 4))).uF (3 + 3 * t) 3 (nI (R.length - 1))) := Fr.uF (Fr.uB (Fr.refl _ m) (by simp) (by unfold sm_cpy; rw [List.length_map, List.length_range])) (by simp) _ _
      have el : (R.eraseIdx i).length = R.length - 1 := by rw [List.length_eraseIdx, if_pos hin]
      refine k _ ?_ f1
      rw [← updD_upd D t R]
      refine DC_upd hD f1 ?_ ?_ (fun q hq c hc => ?_)
      · rw [mF_F, if_neg (by simp), updD_w]; exact d1
      · rw [mF_F, if_pos ⟨rfl, rfl⟩, el]
      · rw [updD_w] at hc
        rw [el] at hq
        have eB : (((m.uB (3 + 3 * t + 1) (sm_cpy (m.B (3 + 3 * t + 1)) (m.B (3 + 3 * t + 1)) ((i + 1) * 4) (i * 4) (R.length * 4 - (i + 1) * 4))).uF (3 + 3 * t) 3 (nI (R.length - 1))).B (3 + 3 * t + 1)) = sm_cpy (m.B (3 + 3 * t + 1)) (m.B (3 + 3 * t + 1)) ((i + 1) * 4) (i * 4) (R.length * 4 - (i + 1) * 4) := by rw [mB_F, mB_B, if_pos rfl]
        rw [eB]
        unfold sm_cpy
        rw [getD_map _ _ _ 0 0 (by rw [List.length_range, lB]; omega)]
        have er : (List.range (m.B (3 + 3 * t + 1)).length).getD (q * 4 + c) 0 = q * 4 + c := by rw [List.getD_eq_getElem?_getD, List.getElem?_range (by rw [lB]; omega)]; rfl
        rw [er]
        have eg : (R.eraseIdx i).getD q [] = if q < i then R.getD q [] else R.getD (q + 1) [] := by
          rw [List.getD_eq_getElem?_getD, List.getElem?_eraseIdx]
          split <;> rw [List.getD_eq_getElem?_getD]
        unfold cl_
        rw [eg]
        by_cases hqi : q < i
        · rw [if_pos hqi, if_neg (by omega)]
          exact d3 q (by omega) c hc
        · rw [if_neg hqi, if_pos (by omega), show (i + 1) * 4 + (q * 4 + c - i * 4) = (q + 1) * 4 + c by omega]
          exact d3 (q + 1) (by omega) c hc
  · rw [if_neg (by rw [nIlt (by omega) (by omega)]; exact hin)]
    have := k m
    rw [List.eraseIdx_of_length_le (by omega)] at this
    exact this hD (Fr.refl _ m)
theorem map_drop_snd {L : List Hit} {n : Nat} (h : n < L.length) : ((srt L).map (fun h => h.2.1)).drop n = (hA L n).2.1 :: ((srt L).map (fun h => h.2.1)).drop (n + 1) := by
  have hl : n < (srt L).length := by rw [srt_len]; exact h
  rw [List.drop_eq_getElem_cons (by rw [List.length_map]; exact hl), List.getElem_map]
  unfold hA
  rw [List.getD_eq_getElem?_getD, List.getElem?_eq_getElem hl]
  rfl
theorem tS {t : Nat} (ht : t < 3) {S : List Nat} (h : ∀ c, c ∈ [3, 4, 6, 7, 9, 10] → c ∈ S) : ∀ c, c ∈ [3 + 3 * t, 3 + 3 * t + 1] → c ∈ S := by
  intro c hc
  refine h c ?_
  have : c = 3 + 3 * t ∨ c = 3 + 3 * t + 1 := by simpa using hc
  rcases (by omega : t = 0 ∨ t = 1 ∨ t = 2) with z | z | z <;> rw [z] at this <;> rcases this with rfl | rfl <;> decide
theorem tN {t c : Nat} (ht : t < 3) (h : c ∉ [3, 4, 6, 7, 9, 10]) : c ∉ [3 + 3 * t, 3 + 3 * t + 1] := fun z => h (tS ht (fun _ h => h) c z)
def S23d : List Nat := [0, 3, 4, 6, 7, 9, 10, 24]
theorem lp_23 (ht : t < 3) (hw4 : wd D t ≤ 4) {R : List (List Int64)} (h20 : R.length ≤ 20) (h60 : L.length ≤ 60) (hsm : ∀ k, k < L.length → (hA L k).2.1 < 1000) : ∀ (n : Nat) (m : Mm) (i j : Nat), n ≤ L.length → Len m → HF m L → PR m i j → DC m (updD D t (rmI R (((srt L).map (fun h => h.2.1)).drop n))) → (∀ m', m'.F 0 11 = nI L.length → (∀ f, f ≠ 11 → m'.F 0 f = m.F 0 f) → DC m' (updD D t (rmI R ((srt L).map (fun h => h.2.1)))) → Fr S23d m m' → K (some (.int (nI 0))) m') → WH (d + 2) 23 10 [(0, .ref 0), (1, .ref (3 + 3 * t)), (2, .int (nI n - nI 1))] [] m K := by
  intro n
  induction n with
  | zero =>
    intro m i j hn hL hH hPR hD k
    refine sg_23_10 _ _ (tbl_t ht) ?_
    rw [if_pos (by decide)]
    have f1 : Fr S23d m (m.uF 0 11 (m.F 30 15)) := Fr.uF (Fr.refl _ m) (by decide) _ _
    refine k _ ?_ (fun f hf => by rw [mF_F, if_neg (fun z => hf z.2)]) ?_ f1
    · rw [mF_F, if_pos ⟨rfl, rfl⟩]; exact hH.1
    · rw [List.drop_zero] at hD
      exact hD.fr (Fr.uF (Fr.refl [0] m) (by decide) _ _) (by decide)
  | succ n ih =>
    intro m i j hn hL hH hPR hD k
    have en : nI (n + 1) - nI 1 = nI n := by rw [nI_sb (by omega)]; rfl
    refine sg_23_10 _ _ (tbl_t ht) ?_
    rw [en, if_neg (by rw [nIlt (by omega) (by decide)]; omega)]
    refine c_130 hL hH h60 (by omega) hPR (fun m1 hP1 f1 => ⟨rfl, ?_⟩)
    have hL1 := hL.fr f1
    refine c_42 hL1 hP1 (by decide) ⟨_, rfl, ?_⟩
    rw [if_pos rfl]
    have hD1 := hD.fr f1 (by decide)
    refine c_34 ht hL1 hw4 hD1 (by have := rmI_len R (((srt L).map (fun h => h.2.1)).drop (n + 1)); omega) (hsm n (by omega)) (fun m2 hD2 f2 => ⟨rfl, ?_⟩)
    have e2 : (rmI R (((srt L).map (fun h => h.2.1)).drop (n + 1))).eraseIdx (hA L n).2.1 = rmI R (((srt L).map (fun h => h.2.1)).drop n) := by
      rw [map_drop_snd (L := L) (n := n) (by omega)]; rfl
    rw [e2] at hD2
    have f3 : Fr S23d m m2 := (f1.mono (by decide)).trans (f2.mono (tS ht (by decide)))
    have e3 : nI n + (-1) = nI n - nI 1 := by rw [Int32.sub_eq_add_neg]; rfl
    rw [e3]
    refine ih m2 _ _ (by omega) (hL.fr f3) ?_ (hP1.fr f2 (tN ht (by decide))) hD2 (fun m' a1 a2 a3 a4 => k m' a1 (fun f hf => ?_) a3 (f3.trans a4))
    · exact (hH.fr f1 (f1.f (by decide) 15) (by decide) (by decide) (by decide)).fr f2 (f2.f (tN ht (by decide)) 15) (tN ht (by decide)) (tN ht (by decide)) (tN ht (by decide))
    · rw [a2 f hf, f2.f (tN ht (by decide)), f1.f (by decide)]
theorem c_23 (hWF : WF e) (hI : DI D) (ha : e.1.2.1.all (okSb D e) = true) (hz : e.2.1 6 = 0) (h13 : e.2.1 13 = 0) (hM : MH D e L) (hL : Len m) (hD : DC m D) (hPR : PR m i j) (hH : HF m L) (k : ∀ m', m'.F 0 11 = nI ((rw_ D (e.2.1 5)).countP (whR D e)) → (∀ f, f ≠ 11 → m'.F 0 f = m.F 0 f) → DC m' (delD D e) → Fr S23d m m' → K (some (.int (nI 0))) m') : WP (d + 2) 23 [.ref 0, .ref (3 + 3 * e.2.1 5)] m K := by
  have h5 := hWF.2.2.2.2.2.2.2.2.1
  obtain ⟨b1, b2, b3, b4, b5, b6, b7⟩ := hI _ h5
  have hlen := one_len hWF ha hz h13 hM
  rw [tq0] at hlen
  have hcl := List.countP_le_length (p := whR D e) (l := rw_ D (e.2.1 5))
  refine sp_23 _ (tbl_t h5) ?_
  rw [hH.1]
  refine lp_23 (R := rw_ D (e.2.1 5)) h5 b1 b2 (by omega) (fun k hk => ?_) L.length m i j (Nat.le_refl _) hL hH hPR ?_ (fun m' a1 a2 a3 a4 => k m' (by rw [a1, hlen]) a2 ?_ a4)
  · have := (hA_in hM hk).1.1
    rw [tq0] at this
    omega
  · rw [List.drop_eq_nil_of_le (by rw [List.length_map, srt_len]; omega)]
    show DC m (updD D (e.2.1 5) (rw_ D (e.2.1 5)))
    rw [updD_id]; exact hD
  · rw [one_del hWF ha hz h13 hM] at a3
    exact a3
end E93
