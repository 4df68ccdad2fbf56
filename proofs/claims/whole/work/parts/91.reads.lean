/-! HOW MANY ROWS are fetched, by rows -/
theorem sum_ftL {R : List (List Int64)} {q : List Int64 → Bool} {g : Nat → Nat} {h : List Int64 → Nat} (hg : ∀ i, i < R.length → q (R.getD i []) = true → g i = h (R.getD i [])) : ((ftL R q).map g).sum = (R.map (fun r => if q r = true then h r else 0)).sum := by
  have key : ∀ n, n ≤ R.length → (((List.range n).filter (fun i => q (R.getD i []))).map g).sum = ((R.take n).map (fun r => if q r = true then h r else 0)).sum := by
    intro n
    induction n with
    | zero => intro _; rfl
    | succ n ih =>
      intro hn
      rw [List.range_succ, List.filter_append, List.map_append, List.sum_append, take_succ_getD (by omega), List.map_append, List.sum_append, ih (by omega)]
      congr 1
      by_cases hq : q (R.getD n []) = true
      · rw [List.filter_cons_of_pos (p := fun i => q (R.getD i [])) hq, List.filter_nil, List.map_cons, List.map_nil, List.sum_cons, List.sum_nil, List.map_cons, List.map_nil, List.sum_cons, List.sum_nil, if_pos hq, hg n (by omega) hq]
      · rw [List.filter_cons_of_neg (p := fun i => q (R.getD i [])) hq, List.filter_nil, List.map_nil, List.sum_nil, List.map_cons, List.map_nil, List.sum_cons, List.sum_nil, if_neg hq, Nat.add_zero]
  have := key R.length (Nat.le_refl _)
  rw [List.take_length] at this
  exact this
theorem sum_one : ∀ (l : List Nat), (l.map (fun _ => 1)).sum = l.length
  | [] => rfl
  | x :: l => by rw [List.map_cons, List.sum_cons, sum_one l, List.length_cons]; omega
theorem sum_add {f g : Nat → Nat} : ∀ (l : List Nat), (l.map (fun x => f x + g x)).sum = (l.map f).sum + (l.map g).sum
  | [] => rfl
  | x :: l => by rw [List.map_cons, List.sum_cons, sum_add l, List.map_cons, List.sum_cons, List.map_cons, List.sum_cons]; omega
theorem sum_cnt {q : List Int64 → Bool} : ∀ (R : List (List Int64)), (R.map (fun r => if q r = true then 1 else 0)).sum = R.countP q
  | [] => rfl
  | r :: R => by
    rw [List.map_cons, List.sum_cons, sum_cnt R, List.countP_cons]
    by_cases h : q r = true
    · rw [if_pos h]; omega
    · rw [if_neg h]; omega
theorem ftL_cnt (R : List (List Int64)) (q : List Int64 → Bool) : (ftL R q).length = R.countP q := by
  rw [← sum_one, sum_ftL (h := fun _ => 1) (fun _ _ _ => rfl), sum_cnt]
section R91
variable {d : Nat} {m m0 m1 : Mm} {K : Option Value → Mm → Prop} {D : Db} {e : St} {i j o a : Nat}
theorem fo1_cnt : (fo1 D e).length = (rw_ D (tq e 0)).countP (ftR (rs_ D e) env0 (aF D e 0 0)) := ftL_cnt _ _
theorem envA_S (ho : o < 2) (c : Nat) : envA D e o a o c = envS o ((rw_ D (tq e o)).getD a []) o c := by
  unfold envS
  rw [if_pos rfl]
  exact iO_env ho c
theorem valA_S (hWF : WF e) (ha : e.1.2.1.all (okSb D e) = true) (ho : o < 2) {l : List Op} (hl : ∀ x, x ∈ l → x ∈ rs_ D e) (hn : hasS l (1 - o) = false) : val (envA D e o a) l = val (envS o ((rw_ D (tq e o)).getD a [])) l := by
  refine val_congr (fun x hx h3 => ?_)
  have hs := (rs_col ha hWF.1 x (hl x hx) h3).1
  have ho' : x.2.2 = o := by
    by_cases z : x.2.2 = 1 - o
    · rw [hasS_mem hx h3 z] at hn; cases hn
    · omega
  rw [ho']
  exact envA_S ho _
theorem oHB_R (hWF : WF e) (ha : e.1.2.1.all (okSb D e) = true) (ho : o < 2) : oHB D e o a = oHR (rs_ D e) e.1.2.2 o ((rw_ D (tq e o)).getD a []) := by
  have eq : ∀ p : Pt, (hasS (seg (rs_ D e) p.1 p.2.2) (1 - o) || decide (val (envA D e o a) (seg (rs_ D e) p.1 p.2.2) = 2)) = (hasS (seg (rs_ D e) p.1 p.2.2) (1 - o) || decide (val (envS o ((rw_ D (tq e o)).getD a [])) (seg (rs_ D e) p.1 p.2.2) = 2)) := by
    intro p
    cases hh : hasS (seg (rs_ D e) p.1 p.2.2) (1 - o) with
    | true => rw [Bool.true_or, Bool.true_or]
    | false => rw [valA_S hWF ha ho (fun y hy => seg_mem hy) hh]
  unfold oHB oHR
  rw [funext eq]
theorem inL_R (hWF : WF e) (ha : e.1.2.1.all (okSb D e) = true) (ho : o < 2) : (inL D e o a).length = (rw_ D (tq e (1 - o))).countP (inQ D (tq e) (rs_ D e) e.1.2.2 o ((rw_ D (tq e o)).getD a [])) := by
  unfold inL
  rw [ftL_cnt]
  have eq : ftR (rs_ D e) (envA D e o a) (aF D e (1 - o) (o + 1)) = inQ D (tq e) (rs_ D e) e.1.2.2 o ((rw_ D (tq e o)).getD a []) := by
    funext r
    exact ftR_congr (fun h1 => valA_S hWF ha ho (fun y hy => seg_mem hy) (mOK_out ho (aF_mOK hWF ha h1)))
  rw [eq]
theorem rd_eq (hWF : WF e) (ha : e.1.2.1.all (okSb D e) = true) (ho : o < 2) : rdS D (tq e) (rs_ D e) e.1.2.2 o (rw_ D (tq e o)) (rw_ D (tq e (1 - o))) = (fo2 D e o).length + rd2 D e o (fo2 D e o) := by
  unfold rd2
  rw [← sum_one, ← sum_add]
  unfold fo2
  rw [sum_ftL (h := fun r => 1 + (if oHR (rs_ D e) e.1.2.2 o r = true then (rw_ D (tq e (1 - o))).countP (inQ D (tq e) (rs_ D e) e.1.2.2 o r) else 0)) (fun i _ _ => ?_)]
  · rfl
  · rw [oHB_R hWF ha ho, inL_R hWF ha ho]
theorem cr_eq : crS D (tq e) (rs_ D e) e.1.2.2 = crs D e := rfl
def oE (D : Db) (e : St) : Nat := if crs D e = true then 1 else 0
theorem oE_lt : oE D e < 2 := by
  unfold oE
  split <;> decide
/-- reads and plan -/
def rdE (D : Db) (e : St) : Nat := if e.2.1 6 = 0 then (fo1 D e).length else (fo2 D e (oE D e)).length + rd2 D e (oE D e) (fo2 D e (oE D e))
def plE (D : Db) (e : St) : Nat := if e.2.1 6 = 0 then (aF D e 0 0).1 else if crs D e = true then (aF D e 1 0).1 + 4 * (aF D e 0 2).1 + 16 else (aF D e 0 0).1 + 4 * (aF D e 1 1).1
def hitE (D : Db) (e : St) : List Hit := if e.2.1 6 = 0 then hits D e (fo1 D e) else LL D e (oE D e) (fo2 D e (oE D e))
theorem E_MH (hWF : WF e) (hI : DI D) (h5 : tq e 0 < 3) (h6 : tq e 1 < 3) (ha : e.1.2.1.all (okSb D e) = true) : MH D e (hitE D e) := by
  unfold hitE
  by_cases hz : e.2.1 6 = 0
  · rw [if_pos hz]; exact one_MH hWF hI h5 h6 hz ha
  · rw [if_neg hz]; exact two_MH hWF hI h5 h6 hz ha oE_lt
/-- the plan's number, as long as nobody touches the plan -/
def PN (m : Mm) (n : Nat) : Prop := ∀ (m2 : Mm) (S : List Nat) (d : Nat) (K : Option Value → Mm → Prop), Fr S m m2 → dj S [12, 30, 36, 37, 38, 39] = true → K (some (.int (nI n))) m2 → WP (d + 1) 122 [.ref 30] m2 K
/-- findAll and the plan's number, the class -/
def S19b : List Nat := [22, 24, 30, 31, 32, 33, 34, 35, 36, 37, 38, 39]
theorem c_search (hWF : WF e) (hI : DI D) (ha : e.1.2.1.all (okSb D e) = true) (hQ : CQ m (rs_ D e) (tq e) D e.1.2.2) (hS : SR m e.2) (hPR : PR m 0 0) (hAc : AcI m) (k : ∀ m', HF m' (hitE D e) → m'.F 30 14 = nI (rdE D e) → PN m' (plE D e) → AcI m' → Fr S19b m m' → K none m') : WP (d + 6) 119 [.ref 30] m (fun v m1 => v = none ∧ WP (d + 6) 123 [.ref 30] m1 K) := by
  have hf0 := hQ.2.2.2.2.2.2.2.1
  have hf1 := hQ.2.2.2.2.2.2.2.2.1
  refine c_119 (d := d + 1) hQ hI hS hWF.2.2.2.2.2.2.2.2.2.1 hAc (fun hz m1 A6 r12 hA1 g30 f1 => ⟨rfl, ?_⟩) (fun hz m1 A6 A9 A7 A8 r12 r13 hA1 g30 f1 => ⟨rfl, ?_⟩)
  · refine c_123a (d := d + 1) hWF hI hz ha (hQ.fr f1 (by decide)) (hS.fr f1 (by decide) (F12.fr f1 (by decide))) (hPR.fr f1 (by decide)) r12 hA1 A6 (fun m2 hH h14 r12' f2 => ?_)
    have hA2 := hA1.fr f2 (by decide) (by decide) (by decide) (by decide)
    have fr : Fr S19b m m2 := (f1.mono (by decide)).trans (f2.mono (by decide))
    have hS2 : SR m2 e.2 := hS.fr fr (by decide) (F12.fr fr (by decide))
    refine k m2 (by unfold hitE; rw [if_pos hz]; exact hH) (by unfold rdE; rw [if_pos hz]; exact h14) (fun m3 S d K f3 hs hK => ?_) hA2 fr
    refine sp_122 (sp_121 ?_)
    rw [show m3.F 12 6 = -1 from by rw [f3.f (dj_no hs (by decide)), hS2.1 6 rfl, hz]; rfl, if_pos rfl]
    refine ⟨_, rfl, ?_⟩
    rw [if_pos rfl, f3.r (dj_no hs (by decide)), r12']
    refine ⟨Or.inl rfl, ?_⟩
    rw [((A6.fr f2 (by decide)).fr f3 (dj_no hs (by decide))).1]
    unfold plE at hK
    rw [if_pos hz] at hK
    exact hK
  · obtain ⟨n6, hn6⟩ : ∃ n, e.2.1 6 = n + 1 := ⟨e.2.1 6 - 1, by omega⟩
    have hn63 : n6 < 3 := by
      have h := hf1
      unfold tq at h
      rw [if_neg (by omega)] at h
      omega
    have go : ∀ (ao ai o : Nat), o < 2 → oE D e = o → acc ao → acc ai → m1.R 30 12 = ao → m1.R 30 13 = ai → m1.F ao 2 = nI o → m1.F ai 2 = nI (1 - o) → Ac m1 ao (aF D e o 0) → Ac m1 ai (aF D e (1 - o) (o + 1)) → plE D e = (aF D e o 0).1 + 4 * (aF D e (1 - o) (o + 1)).1 + 16 * o → WP (d + 6) 123 [.ref 30] m1 K := by
      intro ao ai o ho hoe hao hai r12 r13 hFo hFi hAo hAi hpl
      refine c_123b (d := d) hWF hI hz ha ho hao hai (hQ.fr f1 (by decide)) (hS.fr f1 (by decide) (F12.fr f1 (by decide))) (hPR.fr f1 (by decide)) r12 r13 hFo hFi hAo hAi (fun m2 hH h14 r12' r13' f2 => ?_)
      have hA2 := hA1.fr f2 (by decide) (by decide) (by decide) (by decide)
      have fr : Fr S19b m m2 := (f1.mono (by decide)).trans (f2.mono (by decide))
      have hS2 : SR m2 e.2 := hS.fr fr (by decide) (F12.fr fr (by decide))
      refine k m2 (by unfold hitE; rw [if_neg hz, hoe]; exact hH) (by unfold rdE; rw [if_neg hz, hoe]; exact h14) (fun m3 S d K f3 hs hK => ?_) hA2 fr
      have n12 := dj_no hs (show 12 ∈ [12, 30, 36, 37, 38, 39] by decide)
      have n30 := dj_no hs (show 30 ∈ [12, 30, 36, 37, 38, 39] by decide)
      refine sp_122 (sp_121 ?_)
      rw [if_neg (by rw [f3.f n12, hS2.1 6 rfl, hn6]; exact fun z => by have z : nI n6 = -1 := z; rw [m1_eq (by omega)] at z; exact z)]
      refine ⟨_, rfl, ?_⟩
      rw [if_neg (by decide), f3.r n30, f3.r n30, r12', r13']
      refine ⟨hao, hai, hao, ?_⟩
      have no3 : ao ∉ S := dj_no hs (by rcases hao with z | z | z | z <;> rw [z] <;> decide)
      have ni3 : ai ∉ S := dj_no hs (by rcases hai with z | z | z | z <;> rw [z] <;> decide)
      have no := acc_no hao (S := S23) (by decide)
      have ni := acc_no hai (S := S23) (by decide)
      rw [((hAo.fr f2 no).fr f3 no3).1, ((hAi.fr f2 ni).fr f3 ni3).1, f3.f no3, f2.f no, hFo, mul4_nI (by have := aF_kd (D := D) (e := e) (1 - o) (o + 1); omega), nI_add]
      rw [hpl] at hK
      rcases (by omega : o = 0 ∨ o = 1) with z | z <;> subst z
      · rw [if_neg (by decide), nI_add]; exact hK
      · rw [if_pos rfl, nI_add]; exact hK
    by_cases hc : crs D e = true
    · rw [if_pos hc] at r12 r13
      exact go 37 38 1 (by decide) (if_pos hc) (Or.inr (Or.inl rfl)) (Or.inr (Or.inr (Or.inl rfl))) r12 r13 hA1.2.1.1 hA1.2.2.1.1 A7 A8 (by unfold plE; rw [if_neg hz, if_pos hc])
    · rw [if_neg hc] at r12 r13
      exact go 36 39 0 (by decide) (if_neg hc) (Or.inl rfl) (Or.inr (Or.inr (Or.inr rfl))) r12 r13 hA1.1.1 hA1.2.2.2.1 A6 A9 (by unfold plE; rw [if_neg hz, if_neg hc]; rfl)
/-- the reference's reads and plan -/
theorem c_fetch {P : Nat → List (List Int64)} {f : Nat → Nat} (hWF : WF e) (hI : DI D) (ha : e.1.2.1.all (okSb D e) = true) (hz : e.2.1 6 ≠ 0) (hab : tq e 0 ≠ tq e 1) (hQ : RQ m (rs_ D e) (tq e) D P e.1.2.2) (h0 : (m.A 50).getD 0 0 = nI (tq e 0)) (h1 : (m.A 50).getD 1 0 = nI (tq e 1)) (k : ∀ m', m'.F 42 56 = nI (rdE D e) → m'.F 42 57 = nI (plE D e) → Fq [56, 57, 58] [60, 61] m m' → K none m') : WP (d + 5) 178 [.ref 42] m K := by
  have hPt : ∀ p, p ∈ e.1.2.2 → okPt (rs_ D e) p := fun p hp => okPt_map (hWF.2.2.2.2.1 p hp)
  refine c_178 hQ hI hPt hab (fun x hx h3 => (rs_col ha hWF.1 x hx h3).2.2.1) h0 h1 (fun m' a1 a2 a3 => k m' ?_ ?_ a3)
  · rw [a1]
    have eo : oS D (tq e) (rs_ D e) e.1.2.2 = oE D e := rfl
    rw [eo, rd_eq hWF ha oE_lt]
    unfold rdE
    rw [if_neg hz]
  · rw [a2]
    unfold plE
    rw [if_neg hz]
    rfl
end R91
