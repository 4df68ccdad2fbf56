/-! WHAT IS FOUND is every row, or pair of rows, for which where is true -/
def rsE (D : Db) (e : St) (env : Evr) : Evr := fun s c => env ((sdO D e s c).getD 0) c
theorem stp_rsv (D : Db) (e : St) (env : Evr) (x : Op) (st : List Int64) : stp env (rsv D e x) st = stp (rsE D e env) x st := by
  have el : evL env (rsv D e x) = evL (rsE D e env) x := by
    unfold evL rsv
    by_cases h3 : x.1 = 3
    · rw [if_pos h3, if_pos rfl, if_pos h3]; rfl
    · rw [if_neg h3, if_neg h3, if_neg h3]
  unfold stp
  rw [rsv_1, el]
theorem evs_rsv (D : Db) (e : St) (env : Evr) : ∀ (l : List Op) (st : List Int64), evs env (l.map (rsv D e)) st = evs (rsE D e env) l st
  | [], st => rfl
  | x :: l, st => by
    show evs env (l.map (rsv D e)) (stp env (rsv D e x) st) = evs (rsE D e env) l (stp (rsE D e env) x st)
    rw [stp_rsv]
    exact evs_rsv D e env l _
theorem val_rsv (D : Db) (e : St) (env : Evr) (l : List Op) : val env (l.map (rsv D e)) = val (rsE D e env) l := by
  unfold val
  rw [evs_rsv]
theorem wh_parts {D : Db} {e : St} {env : Evr} (hWF : WF e) (hE : EnvOk env (rs_ D e)) (h11 : e.2.1 11 ≠ 0) (hv : val env (seg (rs_ D e) (e.2.1 10) (e.2.1 11)) = 2) : ∀ p, p ∈ e.1.2.2 → val env (seg (rs_ D e) p.1 p.2.2) = 2 := by
  intro p hp
  unfold rs_ at hv ⊢
  rw [seg_map, val_rsv] at hv ⊢
  refine hWF.2.2.2.2.2.1 (rsE D e env) (fun x hx h3 => ?_) h11 hv p hp
  have := hE (rsv D e x) (List.mem_map_of_mem hx) (by rw [rsv_1]; exact h3)
  have er : rsv D e x = (3, x.2.1, (sdO D e x.2.2 x.2.1).getD 0) := by unfold rsv; rw [if_pos h3]
  rw [er] at this
  exact this
theorem wh_all {D : Db} {e : St} {i j : Nat} (hWF : WF e) (hE : EnvOk (envD D (tq e) i j) (rs_ D e)) (hv : whB D e i j = true) : ∀ p, p ∈ e.1.2.2 → val (envD D (tq e) i j) (seg (rs_ D e) p.1 p.2.2) = 2 := by
  unfold whB at hv
  by_cases h11 : e.2.1 11 = 0
  · intro p hp
    rw [(hWF.2.2.2.2.2.2.1 h11).1] at hp
    cases hp
  · rw [decide_eq_false h11, Bool.false_or] at hv
    exact wh_parts hWF hE h11 (of_decide_eq_true hv)
theorem ev61 {l r : Int64} (h : ev2 61 l r = 2) : l ≠ NUL ∧ l = r := by
  unfold ev2 at h
  rw [if_neg (by decide), if_neg (by decide), if_pos (Or.inl rfl)] at h
  split at h
  · exact absurd h (by decide)
  · next hn =>
    unfold evC at h
    rw [if_pos rfl] at h
    split at h
    · next hq => exact ⟨fun z => hn (Or.inl z), hq⟩
    · exact absurd h (by decide)
theorem val_lone {rs : List Op} {env : Evr} {a b s c : Nat} (h : lone rs a b s = some c) (ha : a < rs.length) : val env (seg rs a b) = env s c := by
  unfold lone at h
  split at h
  · next hh =>
    obtain ⟨h1, h2, h3⟩ := hh
    have es : seg rs a b = [rs.getD a (0, 0, 0)] := by
      unfold seg
      rw [h1, show a + 1 - a = 1 by omega, List.drop_eq_getElem_cons ha, List.getD_eq_getElem?_getD, List.getElem?_eq_getElem ha]; rfl
    have hc := Option.some.inj h
    rw [es]
    show (stp env (rs.getD a (0, 0, 0)) []).headD NUL = env s c
    unfold stp
    rw [h2, if_pos (show ar 3 = 0 from rfl)]
    show evL env (rs.getD a (0, 0, 0)) = env s c
    unfold evL
    rw [if_pos h2, h3, hc]
  · cases h
/-- all parts true: the way that was chosen fetches the row -/
theorem acs_hit {D : Db} {t : Nat} {rs : List Op} {s bef : Nat} {ps : List Pt} {env : Evr} {r : List Int64} (hPt : ∀ p, p ∈ ps → okPt rs p) (hT : ∀ p, p ∈ ps → val env (seg rs p.1 p.2.2) = 2) (hr : ∀ c, env s c = r.getD c 0) : ftR rs env (acsS (fun c => ixd D t c) rs s bef ps) r = true := by
  have hus := acs_us (D := D) (t := t) (rs := rs) (s := s) (bef := bef) (ps := ps)
  unfold ftR
  by_cases h1 : (acsS (fun c => ixd D t c) rs s bef ps).1 = 1
  · rw [decide_eq_true h1, Bool.true_or]
  · rw [decide_eq_false h1, Bool.false_or]
    obtain ⟨i, okk, u1, u2, u3, u4, u5⟩ := hus.2 (by rw [← hus.1]; exact h1)
    have hpm : ps.getD i (0, 0, 0) ∈ ps := getD_in u2
    have hsp := pt_split (hPt _ hpm) u3
    have hv := hT _ hpm
    rw [hsp.2.2.2.2.2 env] at hv
    obtain ⟨n1, n2⟩ := ev61 hv
    generalize acsS (fun c => ixd D t c) rs s bef ps = a at *
    generalize ps.getD i (0, 0, 0) = p at *
    rcases u5 with ⟨v1, v2, v3, v4⟩ | ⟨v1, v2, v3, v4⟩
    · have hl := val_lone (env := env) v2 (by omega)
      rw [show a.2.2.1 = p.2.1 - 1 from congrArg Prod.fst v3, show a.2.2.2 = p.2.2 - 1 from congrArg Prod.snd v3, ← n2]
      rw [decide_eq_true n1, Bool.true_and]
      exact decide_eq_true (by rw [hl, hr])
    · have hl := val_lone (env := env) v2 (by omega)
      rw [show a.2.2.1 = p.1 from congrArg Prod.fst v3, show a.2.2.2 = p.2.1 - 1 from congrArg Prod.snd v3]
      rw [decide_eq_true n1, Bool.true_and]
      exact decide_eq_true (by rw [n2, hl, hr])
theorem ftR_congr {rs : List Op} {env env' : Evr} {a : Acs} {r : List Int64} (h : a.1 ≠ 1 → val env (seg rs a.2.2.1 a.2.2.2) = val env' (seg rs a.2.2.1 a.2.2.2)) : ftR rs env a r = ftR rs env' a r := by
  unfold ftR
  by_cases h1 : a.1 = 1
  · rw [decide_eq_true h1, Bool.true_or, Bool.true_or]
  · rw [h h1]
def inZ (D : Db) (e : St) (i j : Nat) : Prop := i < (rw_ D (tq e 0)).length ∧ (if e.2.1 6 = 0 then j = 0 else j < (rw_ D (tq e 1)).length)
/-- all that is to be found, each once -/
def MH (D : Db) (e : St) (L : List Hit) : Prop := L.Nodup ∧ ∀ x, x ∈ L ↔ ∃ i j, inZ D e i j ∧ whB D e i j = true ∧ x = hitD D e i j
section H90
variable {D : Db} {e : St} {i j o a : Nat}
theorem inZ.r (h : inZ D e i j) : inR D e i j := ⟨h.1, fun z => by have := h.2; rw [if_neg z] at this; exact this⟩
theorem aF_mOK (hWF : WF e) (ha : e.1.2.1.all (okSb D e) = true) {s bef : Nat} (h1 : (aF D e s bef).1 ≠ 1) : mOK (seg (rs_ D e) (aF D e s bef).2.2.1 (aF D e s bef).2.2.2) bef = true := by
  have hcw : ∀ x, x ∈ rs_ D e → x.1 = 3 → x.2.2 = s → x.2.1 < wd D (tq e s) := fun x hx h3 h0 => by
    have := (rs_col ha hWF.1 x hx h3).2.2.1
    rw [h0] at this; exact this
  have hPt : ∀ p, p ∈ e.1.2.2 → okPt (rs_ D e) p := fun p hp => okPt_map (hWF.2.2.2.2.1 p hp)
  have hok := acs_ok (D := D) (t := tq e s) (rs := rs_ D e) (s := s) (bef := bef) (ps := e.1.2.2) hPt hcw (aF D e s bef) rfl
  rcases hok with z | ⟨z1, z2, z3, z4, z5, z6⟩
  · exact absurd z h1
  · exact z6
theorem ft_env0 (hWF : WF e) (ha : e.1.2.1.all (okSb D e) = true) {env : Evr} {s : Nat} (r : List Int64) : ftR (rs_ D e) env (aF D e s 0) r = ftR (rs_ D e) env0 (aF D e s 0) r := by
  refine ftR_congr (fun h1 => val_congr (fun x hx h3 => ?_))
  exact absurd h3 (mOK0 (fun y hy h3 => sd2_rs ha hWF.1 y (seg_mem hy) h3) (aF_mOK hWF ha h1) x hx)
theorem ft_envA (hWF : WF e) (ha : e.1.2.1.all (okSb D e) = true) (ho : o < 2) {b : Nat} (r : List Int64) : ftR (rs_ D e) (envD D (tq e) (iO o a b) (jO o a b)) (aF D e (1 - o) (o + 1)) r = ftR (rs_ D e) (envA D e o a) (aF D e (1 - o) (o + 1)) r :=
  ftR_congr (fun h1 => val_out ha hWF.1 ho (fun y hy => seg_mem hy) (mOK_out ho (aF_mOK hWF ha h1)))
theorem hit_nodup {l : List Nat} (h : l.Nodup) {g : Nat → Hit} (hg : ∀ x y, g x = g y → x = y) : (l.map g).Nodup := by
  unfold List.Nodup at *
  rw [List.pairwise_map]
  exact h.imp (fun {x y} hxy z => hxy (hg x y z))
theorem one_MH (hWF : WF e) (hI : DI D) (h5 : tq e 0 < 3) (h6 : tq e 1 < 3) (hz : e.2.1 6 = 0) (ha : e.1.2.1.all (okSb D e) = true) : MH D e (hits D e (fo1 D e)) := by
  have hPt : ∀ p, p ∈ e.1.2.2 → okPt (rs_ D e) p := fun p hp => okPt_map (hWF.2.2.2.2.1 p hp)
  refine ⟨hit_nodup ((ftL_nodup _ _).filter _) (fun x y hxy => congrArg (fun (h : Hit) => h.2.1) hxy), fun x => ⟨fun hx => ?_, fun ⟨i, j, h1, h2, h3⟩ => ?_⟩⟩
  · unfold hits at hx
    obtain ⟨i, hi, rfl⟩ := List.mem_map.mp hx
    obtain ⟨h1, h2⟩ := List.mem_filter.mp hi
    exact ⟨i, 0, ⟨(ftL_mem.mp h1).1, by rw [if_pos hz]⟩, h2, rfl⟩
  · have hj : j = 0 := by have := h1.2; rw [if_pos hz] at this; exact this
    subst hj
    unfold hits
    refine List.mem_map.mpr ⟨i, List.mem_filter.mpr ⟨ftL_mem.mpr ⟨h1.1, ?_⟩, h2⟩, h3.symm⟩
    rw [← ft_env0 hWF ha (env := envD D (tq e) i 0)]
    exact acs_hit hPt (wh_all hWF (envD_ok hI h5 h6 ha hWF.1 h1.r) h2) (fun c => rfl)
theorem iO_env (ho : o < 2) {b : Nat} (c : Nat) : envD D (tq e) (iO o a b) (jO o a b) o c = ((rw_ D (tq e o)).getD a []).getD c 0 := by
  rcases (by omega : o = 0 ∨ o = 1) with z | z <;> subst z <;> rfl
theorem jO_env (ho : o < 2) {b : Nat} (c : Nat) : envD D (tq e) (iO o a b) (jO o a b) (1 - o) c = ((rw_ D (tq e (1 - o))).getD b []).getD c 0 := by
  rcases (by omega : o = 0 ∨ o = 1) with z | z <;> subst z <;> rfl
theorem inZ_O (ho : o < 2) (hz : e.2.1 6 ≠ 0) {b : Nat} : inZ D e (iO o a b) (jO o a b) ↔ a < (rw_ D (tq e o)).length ∧ b < (rw_ D (tq e (1 - o))).length := by
  unfold inZ
  rw [if_neg hz]
  rcases (by omega : o = 0 ∨ o = 1) with z | z <;> subst z
  · exact Iff.rfl
  · exact And.comm
theorem LL_nodup (hn : (fo2 D e o).Nodup) : (LL D e o (fo2 D e o)).Nodup := by
  generalize fo2 D e o = l at *
  induction l with
  | nil => exact List.nodup_nil
  | cons a l ih =>
    have hc := List.nodup_cons.mp hn
    have e1 : LL D e o (a :: l) = (if oHB D e o a = true then hits2 D e o a (inL D e o a) else []) ++ LL D e o l := by unfold LL; rw [List.flatMap_cons]
    rw [e1]
    refine List.nodup_append.mpr ⟨?_, ih hc.2, ?_⟩
    · split
      · refine hit_nodup ((ftL_nodup _ _).filter _) (fun x y hxy => ?_)
        exact (iO_inj (o := o) (a := a) (a' := a) (congrArg (fun (h : Hit) => h.2.1) hxy) (congrArg (fun (h : Hit) => h.2.2) hxy)).2
      · exact List.nodup_nil
    · intro x hx y hy hxy
      subst hxy
      split at hx
      · obtain ⟨b, _, p1, p2⟩ := hits2_mem hx
        obtain ⟨a', b', q0, q1, q2⟩ := LL_mem hy
        rw [p1] at q1
        rw [p2] at q2
        have := (iO_inj q1 q2).1
        rw [this] at hc
        exact hc.1 q0
      · cases hx
theorem two_MH (hWF : WF e) (hI : DI D) (h5 : tq e 0 < 3) (h6 : tq e 1 < 3) (hz : e.2.1 6 ≠ 0) (ha : e.1.2.1.all (okSb D e) = true) (ho : o < 2) : MH D e (LL D e o (fo2 D e o)) := by
  have hPt : ∀ p, p ∈ e.1.2.2 → okPt (rs_ D e) p := fun p hp => okPt_map (hWF.2.2.2.2.1 p hp)
  refine ⟨LL_nodup (ftL_nodup _ _), fun x => ⟨fun hx => ?_, fun ⟨i, j, h1, h2, h3⟩ => ?_⟩⟩
  · unfold LL at hx
    obtain ⟨a, h0, hx⟩ := List.mem_flatMap.mp hx
    split at hx
    · unfold hits2 at hx
      obtain ⟨b, hb, rfl⟩ := List.mem_map.mp hx
      obtain ⟨h1, h2⟩ := List.mem_filter.mp hb
      exact ⟨_, _, (inZ_O ho hz).mpr ⟨(ftL_mem.mp h0).1, (ftL_mem.mp h1).1⟩, h2, rfl⟩
    · cases hx
  · obtain ⟨a, b, rfl, rfl⟩ : ∃ a b, i = iO o a b ∧ j = jO o a b := by
      rcases (by omega : o = 0 ∨ o = 1) with z | z <;> subst z
      · exact ⟨i, j, rfl, rfl⟩
      · exact ⟨j, i, rfl, rfl⟩
    have hin := (inZ_O ho hz).mp h1
    have hT := wh_all hWF (envD_ok hI h5 h6 ha hWF.1 h1.r) h2
    have hoh : oHB D e o a = true := by
      unfold oHB
      rw [List.all_eq_true]
      intro p hp
      cases hh : hasS (seg (rs_ D e) p.1 p.2.2) (1 - o) with
      | true => rfl
      | false =>
        rw [Bool.false_or]
        refine decide_eq_true ?_
        rw [← val_out (b := b) ha hWF.1 ho (fun y hy => seg_mem hy) hh]
        exact hT p hp
    unfold LL
    refine List.mem_flatMap.mpr ⟨a, ftL_mem.mpr ⟨hin.1, ?_⟩, ?_⟩
    · rw [← ft_env0 hWF ha (env := envD D (tq e) (iO o a b) (jO o a b))]
      exact acs_hit hPt hT (iO_env ho)
    · rw [if_pos hoh]
      unfold hits2
      refine List.mem_map.mpr ⟨b, List.mem_filter.mpr ⟨ftL_mem.mpr ⟨hin.2, ?_⟩, h2⟩, h3.symm⟩
      rw [← ft_envA (b := b) hWF ha ho]
      exact acs_hit hPt hT (jO_env ho)
theorem MH_perm {L L' : List Hit} (h : MH D e L) (h' : MH D e L') : L.Perm L' := (List.perm_ext_iff_of_nodup h.1 h'.1).mpr (fun x => (h.2 x).trans (h'.2 x).symm)
end H90
