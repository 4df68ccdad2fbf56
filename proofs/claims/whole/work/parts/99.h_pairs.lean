/-! choose() of the reference: the pairs -/
def endP (D : Db) (e : St) : Nat := if e.2.1 6 = 0 then 1 else (rw_ D (tq e 1)).length
def rowP (D : Db) (e : St) (r n : Nat) : List Pr := (List.range n).map (fun q => (r, q))
def preP (D : Db) (e : St) (r q : Nat) : List Pr := (List.range r).flatMap (fun r => rowP D e r (endP D e)) ++ rowP D e r q
def whP (D : Db) (e : St) (P : Nat → List (List Int64)) (p : Pr) : Bool := whB D e (p1 D e P p) (p2 D e P p)
def FL (D : Db) (e : St) (P : Nat → List (List Int64)) : List Pr := ((List.range (rw_ D (tq e 0)).length).flatMap (fun r => rowP D e r (endP D e))).filter (whP D e P)
theorem preP_q (D : Db) (e : St) (r q : Nat) : preP D e r (q + 1) = preP D e r q ++ [(r, q)] := by
  unfold preP rowP
  rw [List.range_succ, List.map_append, ← List.append_assoc]; rfl
theorem preP_r (D : Db) (e : St) (r : Nat) : preP D e (r + 1) 0 = preP D e r (endP D e) := by
  unfold preP
  rw [List.range_succ, List.flatMap_append]
  show (_ ++ (rowP D e r (endP D e) ++ [])) ++ [] = _
  rw [List.append_nil, List.append_nil]
theorem flat_sub {f : Nat → List Pr} : ∀ {a b : Nat}, a ≤ b → ((List.range a).flatMap f).Sublist ((List.range b).flatMap f) := by
  intro a b h
  induction h with
  | refl => exact List.Sublist.refl _
  | step _ ih =>
    rw [List.range_succ, List.flatMap_append]
    exact ih.trans (List.sublist_append_left _ _)
theorem preP_sub {D : Db} {e : St} {r q : Nat} (hr : r < (rw_ D (tq e 0)).length) (hq : q ≤ endP D e) : (preP D e r q).Sublist ((List.range (rw_ D (tq e 0)).length).flatMap (fun r => rowP D e r (endP D e))) := by
  refine List.Sublist.trans ?_ (flat_sub (show r + 1 ≤ (rw_ D (tq e 0)).length by omega))
  rw [List.range_succ, List.flatMap_append]
  unfold preP
  refine List.Sublist.append (List.Sublist.refl _) ?_
  show (rowP D e r q).Sublist (rowP D e r (endP D e) ++ [])
  rw [List.append_nil]
  unfold rowP
  exact (List.range_sublist.mpr hq).map _
theorem FL_mem {D : Db} {e : St} {P : Nat → List (List Int64)} {p : Pr} : p ∈ FL D e P ↔ (p.1 < (rw_ D (tq e 0)).length ∧ p.2 < endP D e) ∧ whP D e P p = true := by
  unfold FL rowP
  rw [List.mem_filter, List.mem_flatMap]
  constructor
  · rintro ⟨⟨r, hr, hp⟩, hw⟩
    obtain ⟨q, hq, rfl⟩ := List.mem_map.mp hp
    exact ⟨⟨List.mem_range.mp hr, List.mem_range.mp hq⟩, hw⟩
  · rintro ⟨⟨h1, h2⟩, hw⟩
    exact ⟨⟨p.1, List.mem_range.mpr h1, List.mem_map.mpr ⟨p.2, List.mem_range.mpr h2, rfl⟩⟩, hw⟩
theorem end_ok {D : Db} {e : St} {p : Pr} (h1 : p.1 < (rw_ D (tq e 0)).length) (h2 : p.2 < endP D e) : okPr D e p := by
  refine ⟨h1, ?_⟩
  unfold endP at h2
  by_cases hz : e.2.1 6 = 0
  · rw [if_pos hz] at h2 ⊢; omega
  · rw [if_neg hz] at h2 ⊢; exact h2
theorem FL_ok {D : Db} {e : St} {P : Nat → List (List Int64)} {p : Pr} (h : p ∈ FL D e P) : okPr D e p := end_ok (FL_mem.mp h).1.1 (FL_mem.mp h).1.2
theorem FL_nodup (D : Db) (e : St) (P : Nat → List (List Int64)) : (FL D e P).Nodup := by
  unfold FL
  have go : ∀ n, ((List.range n).flatMap (fun r => rowP D e r (endP D e))).Nodup := by
    intro n
    induction n with
    | zero => exact List.nodup_nil
    | succ n ih =>
      rw [List.range_succ, List.flatMap_append]
      refine List.nodup_append.mpr ⟨ih, ?_, fun a ha b hb hab => ?_⟩
      · show (rowP D e n (endP D e) ++ []).Nodup
        rw [List.append_nil]
        unfold rowP List.Nodup
        rw [List.pairwise_map]
        exact List.nodup_range.imp (fun {x y} hxy z => hxy (congrArg Prod.snd z))
      · obtain ⟨r, hr, ha⟩ := List.mem_flatMap.mp ha
        obtain ⟨q, _, rfl⟩ := List.mem_map.mp ha
        obtain ⟨r', hr', hb⟩ := List.mem_flatMap.mp hb
        obtain ⟨q', _, rfl⟩ := List.mem_map.mp hb
        have h1 := List.mem_range.mp hr
        have h2 := List.mem_singleton.mp hr'
        have h3 : r = r' := congrArg Prod.fst hab
        omega
  exact (go _).filter _
section J99
variable {d nm : Nat} {m m0 m1 : Mm} {K : Option Value → Mm → Prop} {D : Db} {e : St} {P : Nat → List (List Int64)} {ps : List Pt} {t r q : Nat} {L : List Pr}
theorem hP_inj (hI : DI D) (h5 : tq e 0 < 3) (h6 : tq e 1 < 3) (hp0 : (P (tq e 0)).Perm (rw_ D (tq e 0))) (hp1 : (P (tq e 1)).Perm (rw_ D (tq e 1))) {p p' : Pr} (h : okPr D e p) (h' : okPr D e p') (he : hP D e P p = hP D e P p') : p = p' := by
  have e1 : p1 D e P p = p1 D e P p' := congrArg (fun (h : Hit) => h.2.1) he
  have e2 : p2 D e P p = p2 D e P p' := congrArg (fun (h : Hit) => h.2.2) he
  have f1 : p.1 = p'.1 := sgm_inj hI h5 hp0 h.1 h'.1 e1
  have f2 : p.2 = p'.2 := by
    have a := h.2
    have b := h'.2
    by_cases hz : e.2.1 6 = 0
    · rw [if_pos hz] at a b; omega
    · rw [if_neg hz] at a b
      unfold p2 at e2
      rw [if_neg hz, if_neg hz] at e2
      exact sgm_inj hI h6 hp1 a b e2
  exact Prod.ext f1 f2
/-- the reference finds the same -/
theorem FL_MH (hI : DI D) (h5 : tq e 0 < 3) (h6 : tq e 1 < 3) (hp0 : (P (tq e 0)).Perm (rw_ D (tq e 0))) (hp1 : (P (tq e 1)).Perm (rw_ D (tq e 1))) : MH D e ((FL D e P).map (hP D e P)) := by
  refine ⟨?_, fun x => ⟨fun hx => ?_, fun ⟨i, j, h1, h2, h3⟩ => ?_⟩⟩
  · unfold List.Nodup
    rw [List.pairwise_map]
    refine (FL_nodup D e P).imp_of_mem (fun {a b} ha hb hab z => ?_)
    exact hab (hP_inj hI h5 h6 hp0 hp1 (FL_ok ha) (FL_ok hb) z)
  · obtain ⟨p, hp, rfl⟩ := List.mem_map.mp hx
    exact ⟨_, _, okPr_in hp0 hp1 (FL_ok hp), (FL_mem.mp hp).2, rfl⟩
  · obtain ⟨r, hr, er⟩ := sgm_sur hI h5 hp0 h1.1
    have hq : ∃ q, q < endP D e ∧ p2 D e P (r, q) = j := by
      have hj := h1.2
      unfold endP p2
      by_cases hz : e.2.1 6 = 0
      · rw [if_pos hz] at hj ⊢
        exact ⟨0, by decide, by rw [if_pos hz]; exact hj.symm⟩
      · rw [if_neg hz] at hj ⊢
        obtain ⟨q, hq, eq⟩ := sgm_sur hI h6 hp1 hj
        exact ⟨q, hq, by rw [if_neg hz]; exact eq⟩
    obtain ⟨q, hq, eq⟩ := hq
    have e1 : p1 D e P (r, q) = i := er
    refine List.mem_map.mpr ⟨(r, q), FL_mem.mpr ⟨⟨hr, hq⟩, ?_⟩, ?_⟩
    · unfold whP; rw [e1, eq]; exact h2
    · unfold hP; rw [e1, eq]; exact h3.symm
/-- where the reference stands: both rows -/
theorem RVp (hWF : WF e) (hI : DI D) (ha : e.1.2.1.all (okSb D e) = true) (hQ : RQ m (rs_ D e) (tq e) D P ps) {p : Pr} (hp : okPr D e p) (h0 : (m.A 60).getD (tq e 0) 0 = nI p.1) (h1 : e.2.1 6 ≠ 0 → (m.A 60).getD (tq e 1) 0 = nI p.2) : RV m (envD D (tq e) (p1 D e P p) (p2 D e P p)) (tq e) (rs_ D e) ∧ EnvOk (envD D (tq e) (p1 D e P p) (p2 D e P p)) (rs_ D e) := by
  have hf := hQ.2.2.2.2.1
  have hD := hQ.2.2.2.2.2.1
  have hp0 := (hD _ hf.1).2.2.1
  have hp1 := (hD _ hf.2.1).2.2.1
  have hin := okPr_in hp0 hp1 hp
  refine ⟨fun x hx h3 => ?_, envD_ok hI hf.1 hf.2.1 ha hWF.1 hin.r⟩
  obtain ⟨c1, c2, c3, c4⟩ := rs_col ha hWF.1 x hx h3
  rcases (by omega : x.2.2 = 0 ∨ x.2.2 = 1) with z | z
  · rw [z] at c3
    have h20 := (hI _ hf.1).2.1
    refine ⟨by rw [z]; exact hf.1, c2, p.1, by rw [z]; exact h0, by have := hp.1; omega, ?_⟩
    rw [z, (hD _ hf.1).2.2.2.1 p.1 hp.1 _ c3]
    show _ = cl_ (rw_ D (tq e 0)) (p1 D e P p) x.2.1
    unfold cl_ p1
    rw [sgm_get hp0 hp.1]
  · rw [z] at c3
    have hz := c4 z
    have hq := hp.2
    rw [if_neg hz] at hq
    have h20 := (hI _ hf.2.1).2.1
    refine ⟨by rw [z]; exact hf.2.1, c2, p.2, by rw [z]; exact h1 hz, by omega, ?_⟩
    rw [z, (hD _ hf.2.1).2.2.2.1 p.2 hq _ c3]
    show _ = cl_ (rw_ D (tq e 1)) (p2 D e P p) x.2.1
    unfold cl_ p2
    rw [if_neg hz, sgm_get hp1 hq]
end J99
