/-! UPDATE: the new column, the rows in their order again -/
def isK (Q : List (List Int64)) : List (List Int64) := Q.foldl (fun acc r => insK r acc) []
theorem isK_snoc (Q : List (List Int64)) (x : List Int64) : isK (Q ++ [x]) = insK x (isK Q) := by
  unfold isK
  rw [List.foldl_append]; rfl
theorem snoc_ind {P : List (List Int64) → Prop} (h0 : P []) (h1 : ∀ Q x, P Q → P (Q ++ [x])) : ∀ Q, P Q := by
  intro Q
  have : ∀ n, ∀ Q : List (List Int64), Q.length = n → P Q := by
    intro n
    induction n with
    | zero => intro Q h; rw [List.length_eq_zero_iff.mp h]; exact h0
    | succ n ih =>
      intro Q h
      rcases List.eq_nil_or_concat Q with e | ⟨V, y, e⟩
      · subst e; cases h
      · rw [List.concat_eq_append] at e
        subst e
        exact h1 V y (ih V (by simpa using h))
  exact this Q.length Q rfl
theorem isK_perm : ∀ Q, (isK Q).Perm Q := by
  refine snoc_ind (List.Perm.refl _) (fun Q x ih => ?_)
  rw [isK_snoc]
  exact (insK_perm x _).trans ((ih.cons x).trans (List.perm_append_comm (l₁ := [x]) (l₂ := Q)))
theorem isK_len (Q : List (List Int64)) : (isK Q).length = Q.length := (isK_perm Q).length_eq
theorem insK_pw {v : List Int64} : ∀ l : List (List Int64), l.Pairwise (fun a b => key a < key b) → (∀ r, r ∈ l → key r ≠ key v) → (insK v l).Pairwise (fun a b => key a < key b) := by
  intro l
  induction l with
  | nil => intro _ _; exact List.pairwise_singleton _ _
  | cons y l ih =>
    intro hp hne
    have hp' := List.pairwise_cons.mp hp
    have hy := hne y (List.mem_cons_self ..)
    unfold insK
    by_cases hc : key y ≤ key v
    · rw [if_pos hc]
      refine List.pairwise_cons.mpr ⟨fun z hz => ?_, ih hp'.2 (fun r hr => hne r (List.mem_cons_of_mem _ hr))⟩
      have := (insK_perm v l).mem_iff.mp hz
      rcases List.mem_cons.mp this with e1 | e1
      · rw [e1]
        rw [Int64.le_iff_toInt_le] at hc
        rw [Int64.lt_iff_toInt_lt]
        have : (key y).toInt ≠ (key v).toInt := fun z => hy (Int64.toInt_inj.mp z)
        omega
      · exact hp'.1 z e1
    · rw [if_neg hc]
      have hlt : key v < key y := by
        rw [Int64.le_iff_toInt_le] at hc
        rw [Int64.lt_iff_toInt_lt]; omega
      refine List.pairwise_cons.mpr ⟨fun z hz => ?_, hp⟩
      rcases List.mem_cons.mp hz with e1 | e1
      · rw [e1]; exact hlt
      · have := hp'.1 z e1
        rw [Int64.lt_iff_toInt_lt] at *
        omega
theorem isK_pw : ∀ Q : List (List Int64), (Q.map key).Nodup → (isK Q).Pairwise (fun a b => key a < key b) := by
  refine snoc_ind (fun _ => List.Pairwise.nil) (fun Q x ih h => ?_)
  rw [List.map_append] at h
  have h' := List.nodup_append.mp h
  rw [isK_snoc]
  refine insK_pw _ (ih h'.1) (fun r hr => ?_)
  have hq := (isK_perm Q).mem_iff.mp hr
  exact h'.2.2 _ (List.mem_map_of_mem hq) _ (List.mem_singleton.mpr rfl)
theorem isK_map {w : Nat} (hw : 0 < w) : ∀ Q : List (List Int64), (isK Q).map (fun r => r.take w) = isK (Q.map (fun r => r.take w)) := by
  refine snoc_ind rfl (fun Q x ih => ?_)
  rw [isK_snoc, insK_map hw, ih, List.map_append, List.map_cons, List.map_nil, isK_snoc]
def nwR (D : Db) (e : St) (r : List Int64) : Int64 := if whR D e r = true then val (envS 0 r) (seg (rs_ D e) (tmF e.2 0) (e.2.2.getD 0 0)) else r.getD (e.2.1 7) 0
def upR (D : Db) (e : St) (r : List Int64) : List Int64 := r.set (e.2.1 7) (nwR D e r)
def upL (D : Db) (e : St) : List (List Int64) := (rw_ D (e.2.1 5)).map (upR D e)
def kOK (l : List Int64) : Bool := decide (NUL ∉ l ∧ l.Nodup)
def updC (D : Db) (e : St) : Nat := if e.2.1 7 = 0 ∧ kOK ((rw_ D (e.2.1 5)).map (nwR D e)) = false then 4 else 0
def updR (D : Db) (e : St) : Db := updD D (e.2.1 5) (isK (upL D e))
theorem kOK_perm {a b : List Int64} (h : a.Perm b) : kOK a = kOK b := by
  unfold kOK
  rw [decide_eq_decide, h.mem_iff, h.nodup_iff]
section U94
variable {D : Db} {e : St} {t : Nat}
theorem col0 (hWF : WF e) (ha : e.1.2.1.all (okSb D e) = true) (hz : e.2.1 6 = 0) : ∀ x, x ∈ rs_ D e → x.1 = 3 → x.2.2 = 0 ∧ x.2.1 < wd D (e.2.1 5) := by
  intro x hx h3
  have hc := rs_col ha hWF.1 x hx h3
  have h0 : x.2.2 = 0 := by
    by_cases z : x.2.2 = 1
    · exact absurd hz (hc.2.2.2 z)
    · have := hc.1; omega
  refine ⟨h0, ?_⟩
  have := hc.2.2.1
  rw [h0, tq0] at this
  exact this
theorem envS_ok (hWF : WF e) (hI : DI D) (ha : e.1.2.1.all (okSb D e) = true) (hz : e.2.1 6 = 0) {r : List Int64} (hr : r ∈ rw_ D (e.2.1 5)) : EnvOk (envS 0 r) (rs_ D e) := by
  intro x hx h3
  obtain ⟨h0, hw⟩ := col0 hWF ha hz x hx h3
  have h5 := hWF.2.2.2.2.2.2.2.2.1
  have hrow := (hI _ h5).2.2.1 r hr
  unfold envS
  rw [if_pos h0]
  exact hrow.2 _ (getD_in (by rw [hrow.1]; exact hw))
theorem nwR_Nm (hWF : WF e) (hI : DI D) (ha : e.1.2.1.all (okSb D e) = true) (hz : e.2.1 6 = 0) (h1 : 0 < e.2.2.length) (h7 : e.2.1 7 < wd D (e.2.1 5)) {r : List Int64} (hr : r ∈ rw_ D (e.2.1 5)) : Nm (nwR D e r) := by
  have h5 := hWF.2.2.2.2.2.2.2.2.1
  have hrow := (hI _ h5).2.2.1 r hr
  unfold nwR
  split
  · have ht := (hWF.2.1 0 h1).2.2
    have ht' : tyC false (seg (rs_ D e) (tmF e.2 0) (e.2.2.getD 0 0)) := by unfold rs_; rw [seg_map]; exact tyC_map ht
    have := (val_ty (fun x hx h3 => envS_ok hWF hI ha hz hr x (seg_mem hx) h3) ht').1
    unfold VT at this
    rw [if_neg (by decide)] at this
    exact this
  · exact hrow.2 _ (getD_in (by rw [hrow.1]; exact h7))
theorem upR_len (r : List Int64) : (upR D e r).length = r.length := List.length_set
theorem upR_get {r : List Int64} (h7 : e.2.1 7 < r.length) (c : Nat) : (upR D e r).getD c 0 = if c = e.2.1 7 then nwR D e r else r.getD c 0 := by
  unfold upR
  rw [getD_set _ _ _ _ _ h7]
theorem upR_key {r : List Int64} (h7 : e.2.1 7 < r.length) : key (upR D e r) = if e.2.1 7 = 0 then nwR D e r else key r := by
  unfold key
  rw [upR_get h7]
  by_cases h : e.2.1 7 = 0
  · rw [if_pos h, if_pos h.symm]
  · rw [if_neg h, if_neg (fun z => h z.symm)]
theorem pw_nodup {R : List (List Int64)} (h : R.Pairwise (fun a b => key a < key b)) : (R.map key).Nodup := by
  unfold List.Nodup
  rw [List.pairwise_map]
  refine h.imp (fun {a b} hab z => ?_)
  rw [z, Int64.lt_iff_toInt_lt] at hab
  omega
theorem upL_key (hI : DI D) (h5 : e.2.1 5 < 3) (h7 : e.2.1 7 < wd D (e.2.1 5)) : (upL D e).map key = if e.2.1 7 = 0 then (rw_ D (e.2.1 5)).map (nwR D e) else (rw_ D (e.2.1 5)).map key := by
  unfold upL
  rw [List.map_map]
  by_cases h : e.2.1 7 = 0
  · rw [if_pos h]
    refine List.map_congr_left (fun r hr => ?_)
    show key (upR D e r) = _
    rw [upR_key (by rw [((hI _ h5).2.2.1 r hr).1]; exact h7), if_pos h]
  · rw [if_neg h]
    refine List.map_congr_left (fun r hr => ?_)
    show key (upR D e r) = _
    rw [upR_key (by rw [((hI _ h5).2.2.1 r hr).1]; exact h7), if_neg h]
theorem upL_ok (hI : DI D) (h5 : e.2.1 5 < 3) (h7 : e.2.1 7 < wd D (e.2.1 5)) (hc : updC D e = 0) : ((upL D e).map key).Nodup ∧ NUL ∉ (upL D e).map key := by
  obtain ⟨a1, a2, a3, a4, a5, a6, a7⟩ := hI _ h5
  rw [upL_key hI h5 h7]
  by_cases h : e.2.1 7 = 0
  · rw [if_pos h]
    unfold updC at hc
    split at hc
    · cases hc
    · next hn =>
      have : kOK ((rw_ D (e.2.1 5)).map (nwR D e)) = true := by
        cases z : kOK ((rw_ D (e.2.1 5)).map (nwR D e)) with
        | true => rfl
        | false => exact absurd ⟨h, z⟩ hn
      have := of_decide_eq_true this
      exact ⟨this.2, this.1⟩
  · rw [if_neg h]
    refine ⟨pw_nodup a7, fun hm => ?_⟩
    obtain ⟨r, hr, hk⟩ := List.mem_map.mp hm
    exact a6 r hr hk
theorem DI_upd (hWF : WF e) (hI : DI D) (ha : e.1.2.1.all (okSb D e) = true) (hz : e.2.1 6 = 0) (h1 : 0 < e.2.2.length) (h7 : e.2.1 7 < wd D (e.2.1 5)) (hc : updC D e = 0) : DI (updR D e) := by
  have h5 := hWF.2.2.2.2.2.2.2.2.1
  have hok := upL_ok hI h5 h7 hc
  intro s hs
  unfold updR
  have h0 := hI s hs
  rw [updD_w, updD_r]
  have ex : (fun c => ixd (updD D (e.2.1 5) (isK (upL D e))) s c) = fun c => ixd D s c := by
    funext c
    exact updD_x _ _ _ _ _
  rw [ex]
  by_cases hst : s = e.2.1 5
  · subst hst
    rw [if_pos rfl]
    obtain ⟨a1, a2, a3, a4, a5, a6, a7⟩ := h0
    have mem : ∀ r, r ∈ isK (upL D e) → ∃ q, q ∈ rw_ D (e.2.1 5) ∧ r = upR D e q := by
      intro r hr
      obtain ⟨q, hq, he⟩ := List.mem_map.mp ((isK_perm _).mem_iff.mp hr)
      exact ⟨q, hq, he.symm⟩
    refine ⟨a1, by rw [isK_len]; unfold upL; rw [List.length_map]; exact a2, fun r hr => ?_, fun z => by omega, a5, fun r hr => ?_, isK_pw _ hok.1⟩
    · obtain ⟨q, hq, rfl⟩ := mem r hr
      refine ⟨by rw [upR_len]; exact (a3 q hq).1, fun v hv => ?_⟩
      unfold upR at hv
      rcases List.mem_or_eq_of_mem_set hv with z | z
      · exact (a3 q hq).2 v z
      · rw [z]; exact nwR_Nm hWF hI ha hz h1 h7 hq
    · intro hk
      have hm : r ∈ upL D e := (isK_perm _).mem_iff.mp hr
      refine hok.2 ?_
      have := List.mem_map_of_mem (f := key) hm
      have hk : key r = NUL := hk
      rw [hk] at this
      exact this
  · rw [if_neg hst]
    exact h0
theorem DI_del (hI : DI D) (h5 : e.2.1 5 < 3) : DI (delD D e) := by
  intro s hs
  unfold delD delR
  have h0 := hI s hs
  rw [updD_w, updD_r]
  have ex : (fun c => ixd (updD D (e.2.1 5) ((rw_ D (e.2.1 5)).filter (fun r => !whR D e r))) s c) = fun c => ixd D s c := by
    funext c
    exact updD_x _ _ _ _ _
  rw [ex]
  by_cases hst : s = e.2.1 5
  · subst hst
    rw [if_pos rfl]
    obtain ⟨a1, a2, a3, a4, a5, a6, a7⟩ := h0
    refine ⟨a1, Nat.le_trans (List.length_filter_le _ _) a2, fun r hr => a3 r (List.mem_filter.mp hr).1, fun z => by rw [a4 z]; rfl, a5, fun r hr => a6 r (List.mem_filter.mp hr).1, a7.filter _⟩
  · rw [if_neg hst]
    exact h0
end U94
