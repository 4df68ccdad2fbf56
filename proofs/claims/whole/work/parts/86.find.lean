/-! WHAT IS FOUND in two tables, the class: outer side o, inner side 1 - o -/
theorem evs_congr {env env' : Evr} : ∀ (l : List Op) (st : List Int64), (∀ x, x ∈ l → x.1 = 3 → env x.2.2 x.2.1 = env' x.2.2 x.2.1) → evs env l st = evs env' l st
  | [], st, h => rfl
  | x :: l, st, h => by
    show evs env l (stp env x st) = evs env' l (stp env' x st)
    have e : stp env x st = stp env' x st := by
      unfold stp
      have el : evL env x = evL env' x := by
        unfold evL
        by_cases h3 : x.1 = 3
        · rw [if_pos h3, if_pos h3]; exact h x (List.mem_cons_self ..) h3
        · rw [if_neg h3, if_neg h3]
      rw [el]
    rw [e]
    exact evs_congr l _ (fun y hy => h y (List.mem_cons_of_mem _ hy))
theorem val_congr {env env' : Evr} {l : List Op} (h : ∀ x, x ∈ l → x.1 = 3 → env x.2.2 x.2.1 = env' x.2.2 x.2.1) : val env l = val env' l := by
  unfold val
  rw [evs_congr l [] h]
def iO (o a b : Nat) : Nat := if o = 0 then a else b
def jO (o a b : Nat) : Nat := if o = 0 then b else a
def envA (D : Db) (e : St) (o a : Nat) : Evr := envD D (tq e) (iO o a 0) (jO o a 0)
def oHB (D : Db) (e : St) (o a : Nat) : Bool := e.1.2.2.all (fun p => hasS (seg (rs_ D e) p.1 p.2.2) (1 - o) || decide (val (envA D e o a) (seg (rs_ D e) p.1 p.2.2) = 2))
def fo2 (D : Db) (e : St) (o : Nat) : List Nat := ftL (rw_ D (tq e o)) (ftR (rs_ D e) env0 (aF D e o 0))
def inL (D : Db) (e : St) (o a : Nat) : List Nat := ftL (rw_ D (tq e (1 - o))) (ftR (rs_ D e) (envA D e o a) (aF D e (1 - o) (o + 1)))
def hits2 (D : Db) (e : St) (o a : Nat) (l : List Nat) : List Hit := (l.filter (fun b => whB D e (iO o a b) (jO o a b))).map (fun b => hitD D e (iO o a b) (jO o a b))
def LL (D : Db) (e : St) (o : Nat) (l : List Nat) : List Hit := l.flatMap (fun a => if oHB D e o a = true then hits2 D e o a (inL D e o a) else [])
def rd2 (D : Db) (e : St) (o : Nat) (l : List Nat) : Nat := (l.map (fun a => if oHB D e o a = true then (inL D e o a).length else 0)).sum
theorem LL_snoc (D : Db) (e : St) (o : Nat) (l : List Nat) (a : Nat) : LL D e o (l ++ [a]) = LL D e o l ++ (if oHB D e o a = true then hits2 D e o a (inL D e o a) else []) := by
  unfold LL
  rw [List.flatMap_append]
  simp
theorem rd2_snoc (D : Db) (e : St) (o : Nat) (l : List Nat) (a : Nat) : rd2 D e o (l ++ [a]) = rd2 D e o l + (if oHB D e o a = true then (inL D e o a).length else 0) := by
  unfold rd2
  rw [List.map_append, List.sum_append]
  simp
theorem hits2_snoc (D : Db) (e : St) (o a : Nat) (l : List Nat) (b : Nat) : hits2 D e o a (l ++ [b]) = if whB D e (iO o a b) (jO o a b) = true then hits2 D e o a l ++ [hitD D e (iO o a b) (jO o a b)] else hits2 D e o a l := by
  unfold hits2
  by_cases h : whB D e (iO o a b) (jO o a b) = true
  · rw [if_pos h, List.filter_append, List.filter_cons_of_pos (p := fun b => whB D e (iO o a b) (jO o a b)) h, List.filter_nil, List.map_append]; rfl
  · rw [if_neg h, List.filter_append, List.filter_cons_of_neg (p := fun b => whB D e (iO o a b) (jO o a b)) h, List.filter_nil, List.append_nil]
theorem hits2_mem {D : Db} {e : St} {o a : Nat} {l : List Nat} {x : Hit} (h : x ∈ hits2 D e o a l) : ∃ b, b ∈ l ∧ x.2.1 = iO o a b ∧ x.2.2 = jO o a b := by
  unfold hits2 at h
  obtain ⟨b, hb, rfl⟩ := List.mem_map.mp h
  exact ⟨b, (List.mem_filter.mp hb).1, rfl, rfl⟩
theorem hits2_len (D : Db) (e : St) (o a : Nat) (l : List Nat) : (hits2 D e o a l).length ≤ l.length := by
  unfold hits2
  rw [List.length_map]
  exact List.length_filter_le _ _
theorem LL_mem {D : Db} {e : St} {o : Nat} {l : List Nat} {x : Hit} (h : x ∈ LL D e o l) : ∃ a b, a ∈ l ∧ x.2.1 = iO o a b ∧ x.2.2 = jO o a b := by
  unfold LL at h
  obtain ⟨a, ha, hx⟩ := List.mem_flatMap.mp h
  split at hx
  · obtain ⟨b, hb, h1, h2⟩ := hits2_mem hx
    exact ⟨a, b, ha, h1, h2⟩
  · cases hx
theorem LL_len {D : Db} {e : St} {o n : Nat} (hn : ∀ a, (inL D e o a).length ≤ n) : ∀ (l : List Nat), (LL D e o l).length ≤ l.length * n
  | [] => by show 0 ≤ _; omega
  | a :: l => by
    have ih := LL_len hn l
    have e1 : LL D e o (a :: l) = (if oHB D e o a = true then hits2 D e o a (inL D e o a) else []) ++ LL D e o l := by unfold LL; rw [List.flatMap_cons]
    rw [e1, List.length_append, List.length_cons, Nat.add_mul]
    have h1 : (if oHB D e o a = true then hits2 D e o a (inL D e o a) else []).length ≤ n := by
      split
      · have := hits2_len D e o a (inL D e o a)
        have := hn a
        omega
      · show 0 ≤ n; omega
    omega
theorem rd2_le {D : Db} {e : St} {o n : Nat} (hn : ∀ a, (inL D e o a).length ≤ n) : ∀ (l : List Nat), rd2 D e o l ≤ l.length * n
  | [] => by show 0 ≤ _; omega
  | a :: l => by
    have ih := rd2_le hn l
    have e1 : rd2 D e o (a :: l) = (if oHB D e o a = true then (inL D e o a).length else 0) + rd2 D e o l := by unfold rd2; rw [List.map_cons, List.sum_cons]
    rw [e1, List.length_cons, Nat.add_mul]
    have h1 : (if oHB D e o a = true then (inL D e o a).length else 0) ≤ n := by
      split
      · exact hn a
      · omega
    omega
theorem msk_bit {l : List Op} {s : Nat} (hs : s < 2) : (nI (msk l) &&& ((nI 1) <<< (nI s &&& 31)) = nI 0) = (hasS l s = false) := by
  unfold msk
  apply propext
  rcases (by omega : s = 0 ∨ s = 1) with rfl | rfl <;> cases hasS l 0 <;> cases hasS l 1 <;> decide
section F86
variable {d : Nat} {m m0 m1 : Mm} {K : Option Value → Mm → Prop} {D : Db} {e : St} {ps : List Pt} {i j o a : Nat}
/-- only the outer side's columns: the outer row tells the value -/
theorem val_out (ha : e.1.2.1.all (okSb D e) = true) (hok : okc e.1.2.1) (ho : o < 2) {b : Nat} {l : List Op} (hl : ∀ x, x ∈ l → x ∈ rs_ D e) (hn : hasS l (1 - o) = false) : val (envD D (tq e) (iO o a b) (jO o a b)) l = val (envA D e o a) l := by
  refine val_congr (fun x hx h3 => ?_)
  have hs := (rs_col ha hok x (hl x hx) h3).1
  have hne : x.2.2 ≠ 1 - o := by
    intro z
    have : hasS l (1 - o) = true := by
      unfold hasS
      rw [List.any_eq_true]
      exact ⟨x, hx, decide_eq_true ⟨h3, z⟩⟩
    rw [hn] at this; cases this
  unfold envA envD iO jO
  rcases (by omega : o = 0 ∨ o = 1) with rfl | rfl
  · have z : x.2.2 = 0 := by omega
    simp only [z, if_true]
  · have z : x.2.2 = 1 := by omega
    simp only [z, if_neg (show ¬ (1 = 0) by decide)]
theorem lp_125 (hWF : WF e) (hI : DI D) (h6 : e.2.1 6 ≠ 0) (ha : e.1.2.1.all (okSb D e) = true) (ho : o < 2) {b ai : Nat} (hai : acc ai) (hla : a < (rw_ D (tq e o)).length) : ∀ (n x : Nat) (m : Mm), x + n = e.1.2.2.length → CQ m (rs_ D e) (tq e) D e.1.2.2 → PR m (iO o a b) (jO o a b) → m.R 30 13 = ai → m.F ai 2 = nI (1 - o) → (∀ m', Fr [22] m m' → K (some (.int (bI ((e.1.2.2.drop x).all (fun p => hasS (seg (rs_ D e) p.1 p.2.2) (1 - o) || decide (val (envA D e o a) (seg (rs_ D e) p.1 p.2.2) = 2)) = true)))) m') → WH (d + 5) 125 2 [(0, .ref 30), (1, .int (nI x))] [] m K := by
  intro n
  induction n with
  | zero =>
    intro x m hx hQ hPR hR hF k
    have hPA := hQ.2.2.2.2.1
    have hpl := hQ.2.2.2.2.2.2.1
    refine sg_125_2 _ ?_
    rw [if_pos (by rw [hPA.1, nIle (by omega) (by omega)]; omega)]
    have := k m (Fr.refl _ m)
    rw [List.drop_eq_nil_of_le (by omega), List.all_nil, bI_t rfl] at this
    exact this
  | succ n ih =>
    intro x m hx hQ hPR hR hF k
    have hQ0 := hQ
    obtain ⟨hL, hC, h2, hD, hPA, hPs, hpl, hf0, hf1, hr0, hr1⟩ := hQ
    have l4 : (m.A 14).length = 80 := hL.a (by decide) rfl
    have l6 : (m.A 16).length = 80 := hL.a (by decide) rfl
    have hxl : x < e.1.2.2.length := by omega
    obtain ⟨q1, q2, q3⟩ := hPA.2 x hxl
    have hpm : e.1.2.2.getD x (0, 0, 0) ∈ e.1.2.2 := getD_in hxl
    have hpp := okPt_map (D := D) (hWF.2.2.2.2.1 _ hpm)
    have edr : e.1.2.2.drop x = e.1.2.2.getD x (0, 0, 0) :: e.1.2.2.drop (x + 1) := by
      rw [List.drop_eq_getElem_cons hxl, List.getD_eq_getElem?_getD, List.getElem?_eq_getElem hxl]; rfl
    rw [edr] at k
    have ho80 : ok 80 (nI x) := ok_nI (by omega) (by decide)
    generalize e.1.2.2.getD x (0, 0, 0) = p at *
    refine sg_125_2 _ ?_
    rw [if_neg (by rw [hPA.1, nIle (by omega) (by omega)]; omega), l4, l6, ix_nI (by omega), q1, q3]
    refine ⟨ho80, ho80, ?_⟩
    refine c_49 hL hC h2 (by have := hpp.1; omega) hpp.2.1 ⟨_, rfl, ?_⟩
    rw [hR, hF]
    refine ⟨hai, ?_⟩
    rw [nI_add]
    cases hh : hasS (seg (rs_ D e) p.1 p.2.2) (1 - o) with
    | true =>
      rw [if_neg (by rw [msk_bit (by omega), hh]; decide)]
      refine ih (x + 1) m (by omega) hQ0 hPR hR hF (fun m' f => ?_)
      have := k m' f
      rw [List.all_cons, hh, Bool.true_or, Bool.true_and] at this
      exact this
    | false =>
      rw [if_pos (by rw [msk_bit (by omega)]; exact hh)]
      have hPV : PV m (envD D (tq e) (iO o a b) (jO o a b)) (seg (rs_ D e) p.1 p.2.2) := by
        have hno : ∀ s, s = 1 - o → (∃ y, y ∈ seg (rs_ D e) p.1 p.2.2 ∧ y.1 = 3 ∧ y.2.2 = s) → False := by
          intro s hs ⟨y, hy, h3, hz⟩
          have : hasS (seg (rs_ D e) p.1 p.2.2) (1 - o) = true := by
            unfold hasS
            rw [List.any_eq_true]
            exact ⟨y, hy, decide_eq_true ⟨h3, by rw [hz, hs]⟩⟩
          rw [hh] at this; cases this
        refine PV_of hI hQ0 hPR ha hWF.1 (fun y hy => seg_mem hy) (fun hex => ?_) (fun hex => ?_)
        · rcases (by omega : o = 0 ∨ o = 1) with z | z
          · subst z; exact hla
          · exact (hno 0 (by omega) hex).elim
        · rcases (by omega : o = 0 ∨ o = 1) with z | z
          · exact (hno 1 (by omega) hex).elim
          · subst z; exact hla
      have hval := val_out (a := a) (b := b) ha hWF.1 ho (l := seg (rs_ D e) p.1 p.2.2) (fun y hy => seg_mem hy) hh
      refine c_51 (c := seg (rs_ D e) p.1 p.2.2) hL hC rfl (by have := hpp.1; omega) hpp.2.1 hPV hpp.2.2.1 (fun m1 f1 => ⟨_, rfl, ?_⟩)
      rw [hval]
      by_cases hv : val (envA D e o a) (seg (rs_ D e) p.1 p.2.2) = 2
      · rw [if_pos ((lg_k _ _).mpr hv)]
        refine ih (x + 1) m1 (by omega) (hQ0.fr f1 (by decide)) ⟨by rw [f1.a (by decide)]; exact hPR.1, by rw [f1.a (by decide)]; exact hPR.2⟩ (by rw [f1.r (by decide)]; exact hR) (by rw [f1.f (by rcases hai with z | z | z | z <;> rw [z] <;> decide)]; exact hF) (fun m' f => ?_)
        have := k m' (f1.trans f)
        rw [List.all_cons, hh, decide_eq_true hv, Bool.or_true, Bool.true_and] at this
        exact this
      · rw [if_neg (fun z => hv ((lg_k _ _).mp z))]
        have := k m1 f1
        rw [List.all_cons, hh, decide_eq_false hv, Bool.or_false, Bool.false_and, bI_f (by decide)] at this
        exact this
theorem c_125 (hWF : WF e) (hI : DI D) (h6 : e.2.1 6 ≠ 0) (ha : e.1.2.1.all (okSb D e) = true) (ho : o < 2) {b ai : Nat} (hai : acc ai) (hla : a < (rw_ D (tq e o)).length) (hQ : CQ m (rs_ D e) (tq e) D e.1.2.2) (hPR : PR m (iO o a b) (jO o a b)) (hR : m.R 30 13 = ai) (hF : m.F ai 2 = nI (1 - o)) (k : ∀ m', Fr [22] m m' → K (some (.int (bI (oHB D e o a = true)))) m') : WP (d + 5) 125 [.ref 30] m K := by
  refine sp_125 ?_
  exact lp_125 hWF hI h6 ha ho hai hla e.1.2.2.length 0 m (by omega) hQ hPR hR hF k
end F86
