/-! WHAT IS FOUND, in the order of the result: rank, row of side 0, row of side 1; the class's putInOrder -/
abbrev Hit : Type := Int64 × Nat × Nat
def hlt (x y : Hit) : Bool := if x.1 = y.1 then (if x.2.1 = y.2.1 then decide (x.2.2 < y.2.2) else decide (x.2.1 < y.2.1)) else decide (x.1 < y.1)
theorem hlt_irr (x : Hit) : hlt x x = false := by
  unfold hlt
  rw [if_pos rfl, if_pos rfl]
  exact decide_eq_false (Nat.lt_irrefl _)
theorem hlt_tr {x y z : Hit} (h : hlt x y = true) (k : hlt y z = true) : hlt x z = true := by
  unfold hlt at *
  by_cases a : x.1 = y.1
  · rw [if_pos a] at h
    by_cases b : y.1 = z.1
    · rw [if_pos b] at k
      rw [if_pos (a.trans b)]
      by_cases c : x.2.1 = y.2.1
      · rw [if_pos c] at h
        by_cases e : y.2.1 = z.2.1
        · rw [if_pos e] at k
          rw [if_pos (c.trans e)]
          rw [decide_eq_true_iff] at *
          omega
        · rw [if_neg e] at k
          rw [if_neg (by rw [c]; exact e), c]
          exact k
      · rw [if_neg c] at h
        by_cases e : y.2.1 = z.2.1
        · rw [if_pos e] at k
          rw [if_neg (by rw [← e]; exact c), ← e]
          exact h
        · rw [if_neg e] at k
          rw [decide_eq_true_iff] at h k
          rw [if_neg (by omega), decide_eq_true_iff]
          omega
    · rw [if_neg b] at k
      rw [if_neg (by rw [a]; exact b), a]
      exact k
  · rw [if_neg a] at h
    by_cases b : y.1 = z.1
    · rw [if_pos b] at k
      rw [if_neg (by rw [← b]; exact a), ← b]
      exact h
    · rw [if_neg b] at k
      rw [decide_eq_true_iff, Int64.lt_iff_toInt_lt] at h k
      have : x.1 ≠ z.1 := fun e => by rw [e] at h; omega
      rw [if_neg this, decide_eq_true_iff, Int64.lt_iff_toInt_lt]
      omega
theorem hlt_tot {x y : Hit} (h : x ≠ y) (k : hlt x y = false) : hlt y x = true := by
  unfold hlt at *
  by_cases a : x.1 = y.1
  · rw [if_pos a] at k
    rw [if_pos a.symm]
    by_cases c : x.2.1 = y.2.1
    · rw [if_pos c] at k
      rw [if_pos c.symm]
      rw [decide_eq_false_iff_not] at k
      rw [decide_eq_true_iff]
      have : x.2.2 ≠ y.2.2 := fun e => h (Prod.ext a (Prod.ext c e))
      omega
    · rw [if_neg c] at k
      rw [if_neg (fun e => c e.symm)]
      rw [decide_eq_false_iff_not] at k
      rw [decide_eq_true_iff]
      omega
  · rw [if_neg a] at k
    rw [if_neg (fun e => a e.symm)]
    rw [decide_eq_false_iff_not, Int64.lt_iff_toInt_lt] at k
    rw [decide_eq_true_iff, Int64.lt_iff_toInt_lt]
    have : x.1.toInt ≠ y.1.toInt := fun e => a (Int64.toInt_inj.mp e)
    omega
def insH (x : Hit) : List Hit → List Hit
  | [] => [x]
  | y :: l => if hlt x y = true then x :: y :: l else y :: insH x l
def srt (L : List Hit) : List Hit := L.foldl (fun acc x => insH x acc) []
theorem insH_perm (x : Hit) : ∀ l, (insH x l).Perm (x :: l)
  | [] => List.Perm.refl _
  | y :: l => by
    unfold insH
    split
    · exact List.Perm.refl _
    · exact ((insH_perm x l).cons y).trans (List.Perm.swap x y l)
def SrtH (l : List Hit) : Prop := l.Pairwise (fun a b => hlt a b = true)
theorem insH_srt {x : Hit} : ∀ {l : List Hit}, SrtH l → x ∉ l → SrtH (insH x l)
  | [], _, _ => List.pairwise_singleton _ _
  | y :: l, h, hx => by
    have h' := List.pairwise_cons.mp h
    unfold insH
    by_cases hc : hlt x y = true
    · rw [if_pos hc]
      refine List.pairwise_cons.mpr ⟨fun z hz => ?_, h⟩
      rcases List.mem_cons.mp hz with e | e
      · rw [e]; exact hc
      · exact hlt_tr hc (h'.1 z e)
    · rw [if_neg hc]
      have hxl : x ∉ l := fun z => hx (List.mem_cons_of_mem _ z)
      have hyx : hlt y x = true := hlt_tot (fun e => hx (by rw [e]; exact List.mem_cons_self ..)) (by simpa using hc)
      refine List.pairwise_cons.mpr ⟨fun z hz => ?_, insH_srt h'.2 hxl⟩
      rcases List.mem_cons.mp ((insH_perm x l).mem_iff.mp hz) with e | e
      · rw [e]; exact hyx
      · exact h'.1 z e
theorem srt_snoc (L : List Hit) (x : Hit) : srt (L ++ [x]) = insH x (srt L) := by
  unfold srt
  rw [List.foldl_append]; rfl
theorem srt_perm : ∀ (L : List Hit), (srt L).Perm L := by
  intro L
  generalize hn : L.length = n
  induction n generalizing L with
  | zero =>
    have : L = [] := List.length_eq_zero_iff.mp hn
    subst this
    exact List.Perm.refl _
  | succ n ih =>
    rcases List.eq_nil_or_concat L with e | ⟨V, x, e⟩
    · subst e; cases hn
    · rw [List.concat_eq_append] at e
      subst e
      rw [srt_snoc]
      have := ih V (by simpa using hn)
      exact (insH_perm x (srt V)).trans ((this.cons x).trans (List.perm_append_comm (l₁ := [x]) (l₂ := V)))
theorem srt_srt : ∀ (L : List Hit), L.Nodup → SrtH (srt L) := by
  intro L
  generalize hn : L.length = n
  induction n generalizing L with
  | zero =>
    have : L = [] := List.length_eq_zero_iff.mp hn
    subst this
    intro _
    exact List.Pairwise.nil
  | succ n ih =>
    intro hd
    rcases List.eq_nil_or_concat L with e | ⟨V, x, e⟩
    · subst e; cases hn
    · rw [List.concat_eq_append] at e
      subst e
      rw [srt_snoc]
      have hd' := List.nodup_append.mp hd
      refine insH_srt (ih V (by simpa using hn) hd'.1) (fun hx => ?_)
      have : x ∈ V := (srt_perm V).mem_iff.mp hx
      exact hd'.2.2 x this x (List.mem_singleton.mpr rfl) rfl
theorem srt_len (L : List Hit) : (srt L).length = L.length := (srt_perm L).length_eq
/-- in order, an order is told by its elements -/
theorem srt_uniq : ∀ {a b : List Hit}, SrtH a → SrtH b → a.Perm b → a = b
  | [], b, _, _, hp => (List.nil_perm.mp hp).symm
  | x :: a, [], _, _, hp => absurd hp.length_eq (by simp)
  | x :: a, y :: b, ha, hb, hp => by
    have ha' := List.pairwise_cons.mp ha
    have hb' := List.pairwise_cons.mp hb
    have hxy : x = y := by
      apply Classical.byContradiction
      intro hne
      have hx : x ∈ y :: b := hp.mem_iff.mp (List.mem_cons_self ..)
      have hy : y ∈ x :: a := hp.mem_iff.mpr (List.mem_cons_self ..)
      rcases List.mem_cons.mp hx with e | e
      · exact hne e
      · rcases List.mem_cons.mp hy with e2 | e2
        · exact hne e2.symm
        · have h1 := hb'.1 x e
          have h2 := ha'.1 y e2
          have := hlt_tr h1 h2
          rw [hlt_irr] at this
          cases this
    subst hxy
    rw [srt_uniq ha'.2 hb'.2 (List.perm_cons x |>.mp hp)]
theorem insH_at {x : Hit} : ∀ (l : List Hit) (n : Nat), n ≤ l.length → (∀ i, i < n → hlt x (l.getD i (0, 0, 0)) = false) → (∀ i, n ≤ i → i < l.length → hlt x (l.getD i (0, 0, 0)) = true) → insH x l = l.take n ++ [x] ++ l.drop n
  | [], n, hn, h1, h2 => by
    have : n = 0 := by simpa using hn
    subst this
    rfl
  | y :: l, 0, hn, h1, h2 => by
    have := h2 0 (Nat.le_refl _) (by rw [List.length_cons]; omega)
    show (if hlt x y = true then x :: y :: l else _) = _
    rw [if_pos (show hlt x y = true from this)]; rfl
  | y :: l, n + 1, hn, h1, h2 => by
    have h0 := h1 0 (by omega)
    show (if hlt x y = true then _ else y :: insH x l) = _
    rw [if_neg (by rw [show hlt x y = false from h0]; decide)]
    rw [insH_at l n (by rw [List.length_cons] at hn; omega) (fun i hi => h1 (i + 1) (by omega)) (fun i hi hl => h2 (i + 1) (by omega) (by rw [List.length_cons]; omega))]
    rfl
/-- the arrays hold the hits -/
def HA (m : Mm) (L : List Hit) : Prop := ∀ k, k < L.length → (m.B 33).getD k 0 = (L.getD k (0, 0, 0)).1 ∧ (m.A 34).getD k 0 = nI (L.getD k (0, 0, 0)).2.1 ∧ (m.A 35).getD k 0 = nI (L.getD k (0, 0, 0)).2.2
section H82
variable {d : Nat} {m m0 m1 : Mm} {K : Option Value → Mm → Prop} {L : List Hit}
theorem c_129 {x y : Hit} {k : Nat} (hL : Len m) (hk : k < 60) (hx : x.2.1 < 1000 ∧ x.2.2 < 1000) (hy : y.2.1 < 1000 ∧ y.2.2 < 1000) (h1 : (m.B 33).getD k 0 = y.1) (h2 : (m.A 34).getD k 0 = nI y.2.1) (h3 : (m.A 35).getD k 0 = nI y.2.2) (kk : K (some (.int (bI (hlt x y = true)))) m) : WP d 129 [.ref 30, .long x.1, .int (nI x.2.1), .int (nI x.2.2), .int (nI k)] m K := by
  have l1 : (m.B 33).length = 60 := hL.b (by decide) rfl
  have l2 : (m.A 34).length = 60 := hL.a (by decide) rfl
  have l3 : (m.A 35).length = 60 := hL.a (by decide) rfl
  have ho : ok 60 (nI k) := ok_nI (by omega) (by decide)
  have e1 : (nI 0 ≤ lg_cmp x.1 y.1) = (y.1 ≤ x.1) := propext (lg_cmp_ge x.1 y.1)
  refine sp_129 _ _ _ _ ?_
  rw [l1, l2, l3, ix_nI (by omega), h1, h2, h3]
  refine ⟨ho, ?_⟩
  unfold hlt at kk
  by_cases c1 : x.1 = y.1
  · rw [if_pos ((lg_k _ _).mpr c1)]
    rw [if_pos c1] at kk
    refine ⟨ho, ?_⟩
    by_cases c2 : x.2.1 = y.2.1
    · rw [if_pos (by rw [c2])]
      rw [if_pos c2] at kk
      refine ⟨ho, ?_⟩
      by_cases c3 : x.2.2 < y.2.2
      · rw [if_neg (by rw [nIle (by omega) (by omega)]; omega)]
        rw [bI_t (decide_eq_true c3)] at kk; exact kk
      · rw [if_pos (by rw [nIle (by omega) (by omega)]; omega)]
        rw [bI_f (by rw [decide_eq_true_iff]; exact c3)] at kk; exact kk
    · rw [if_neg (by rw [nIeq (by omega) (by omega)]; exact c2)]
      rw [if_neg c2] at kk
      refine ⟨ho, ?_⟩
      by_cases c3 : x.2.1 < y.2.1
      · rw [if_neg (by rw [nIle (by omega) (by omega)]; omega)]
        rw [bI_t (decide_eq_true c3)] at kk; exact kk
      · rw [if_pos (by rw [nIle (by omega) (by omega)]; omega)]
        rw [bI_f (by rw [decide_eq_true_iff]; exact c3)] at kk; exact kk
  · rw [if_neg (fun z => c1 ((lg_k _ _).mp z))]
    rw [if_neg c1] at kk
    refine ⟨ho, ?_⟩
    by_cases c3 : x.1 < y.1
    · rw [if_neg (by rw [e1, i64_lt]; exact fun z => z c3)]
      rw [bI_t (decide_eq_true c3)] at kk; exact kk
    · rw [if_pos (by rw [e1, i64_lt]; exact c3)]
      rw [bI_f (by rw [decide_eq_true_iff]; exact c3)] at kk; exact kk
/-- all rows' numbers are small -/
def smH (L : List Hit) : Prop := ∀ x, x ∈ L → x.2.1 < 1000 ∧ x.2.2 < 1000
theorem lp_128 {x : Hit} (hx : x.2.1 < 1000 ∧ x.2.2 < 1000) (hsm : smH L) (hs : SrtH L) (h60 : L.length < 60) : ∀ (n : Nat) (m : Mm), n ≤ L.length → Len m → (∀ k, k < n → (m.B 33).getD k 0 = (L.getD k (0, 0, 0)).1 ∧ (m.A 34).getD k 0 = nI (L.getD k (0, 0, 0)).2.1 ∧ (m.A 35).getD k 0 = nI (L.getD k (0, 0, 0)).2.2) → (∀ k, n < k → k ≤ L.length → (m.B 33).getD k 0 = (L.getD (k - 1) (0, 0, 0)).1 ∧ (m.A 34).getD k 0 = nI (L.getD (k - 1) (0, 0, 0)).2.1 ∧ (m.A 35).getD k 0 = nI (L.getD (k - 1) (0, 0, 0)).2.2) → (∀ i, n ≤ i → i < L.length → hlt x (L.getD i (0, 0, 0)) = true) → (∀ m', HA m' (insH x L) → Fr [33, 34, 35] m m' → K none m') → WH (d + 1) 128 6 [(0, .ref 30), (1, .long x.1), (3, .int (nI x.2.1)), (4, .int (nI x.2.2)), (5, .int (nI n))] [] m K := by
  intro n
  -- the hit is put at n
  have put : ∀ (n : Nat) (m : Mm), n ≤ L.length → Len m → (∀ k, k < n → (m.B 33).getD k 0 = (L.getD k (0, 0, 0)).1 ∧ (m.A 34).getD k 0 = nI (L.getD k (0, 0, 0)).2.1 ∧ (m.A 35).getD k 0 = nI (L.getD k (0, 0, 0)).2.2) → (∀ k, n < k → k ≤ L.length → (m.B 33).getD k 0 = (L.getD (k - 1) (0, 0, 0)).1 ∧ (m.A 34).getD k 0 = nI (L.getD (k - 1) (0, 0, 0)).2.1 ∧ (m.A 35).getD k 0 = nI (L.getD (k - 1) (0, 0, 0)).2.2) → (∀ i, n ≤ i → i < L.length → hlt x (L.getD i (0, 0, 0)) = true) → (∀ i, i < n → hlt x (L.getD i (0, 0, 0)) = false) → (∀ m', HA m' (insH x L) → Fr [33, 34, 35] m m' → K none m') → ok (m.B 33).length (nI n) ∧ ok (m.A 34).length (nI n) ∧ ok (m.A 35).length (nI n) ∧ K none (((m.uB 33 ((m.B 33).set (ix (nI n)) x.1)).uA 34 ((m.A 34).set (ix (nI n)) (nI x.2.1))).uA 35 ((m.A 35).set (ix (nI n)) (nI x.2.2))) := by
    intro n m hn hL h1 h2 h3 h4 k
    have l1 : (m.B 33).length = 60 := hL.b (by decide) rfl
    have l2 : (m.A 34).length = 60 := hL.a (by decide) rfl
    have l3 : (m.A 35).length = 60 := hL.a (by decide) rfl
    have ho : ok 60 (nI n) := ok_nI (by omega) (by decide)
    rw [l1, l2, l3, ix_nI (by omega)]
    refine ⟨ho, ho, ho, k _ (fun j hj => ?_) ?_⟩
    · rw [insH_at L n hn h4 h3] at hj ⊢
      rw [List.length_append, List.length_append, List.length_take, List.length_drop, List.length_cons, List.length_nil] at hj
      show ((m.uB 33 ((m.B 33).set n x.1)).B 33).getD j 0 = _ ∧ ((m.A 34).set n (nI x.2.1)).getD j 0 = _ ∧ ((m.A 35).set n (nI x.2.2)).getD j 0 = _
      have eg : (L.take n ++ [x] ++ L.drop n).getD j (0, 0, 0) = if j < n then L.getD j (0, 0, 0) else if j = n then x else L.getD (j - 1) (0, 0, 0) := by
        have lt : (L.take n).length = n := by rw [List.length_take]; omega
        rw [List.getD_eq_getElem?_getD, List.append_assoc]
        by_cases c1 : j < n
        · rw [if_pos c1, List.getElem?_append_left (by rw [lt]; exact c1), List.getElem?_take_of_lt c1, ← List.getD_eq_getElem?_getD]
        · rw [if_neg c1, List.getElem?_append_right (by rw [lt]; omega), lt]
          by_cases c2 : j = n
          · rw [if_pos c2, c2, Nat.sub_self]; rfl
          · rw [if_neg c2, List.getElem?_append_right (by simp; omega), List.length_cons, List.length_nil, List.getElem?_drop, show n + (j - n - (0 + 1)) = j - 1 by omega, ← List.getD_eq_getElem?_getD]
      rw [eg, mB_B, if_pos rfl, getD_set _ _ _ _ _ (by omega), getD_set _ _ _ _ _ (by omega), getD_set _ _ _ _ _ (by omega)]
      by_cases c2 : j = n
      · rw [if_pos c2, if_pos c2, if_pos c2, if_neg (by omega), if_pos c2]
        exact ⟨rfl, rfl, rfl⟩
      · simp only [if_neg c2]
        by_cases c1 : j < n
        · rw [if_pos c1]; exact h1 j c1
        · rw [if_neg c1]; exact h2 j (by omega) (by omega)
    · refine Fr.uA (Fr.uA (Fr.uB (Fr.refl _ m) (by decide) ?_) (by decide) ?_) (by decide) ?_
      · rw [List.length_set]
      · rw [List.length_set]; rfl
      · rw [List.length_set]; rfl
  induction n with
  | zero =>
    intro m hn hL h1 h2 h3 k
    refine sg_128_6 _ _ _ _ ?_
    rw [if_pos (by decide)]
    exact put 0 m hn hL h1 h2 h3 (fun i hi => by omega) k
  | succ n ih =>
    intro m hn hL h1 h2 h3 k
    have l1 : (m.B 33).length = 60 := hL.b (by decide) rfl
    have l2 : (m.A 34).length = 60 := hL.a (by decide) rfl
    have l3 : (m.A 35).length = 60 := hL.a (by decide) rfl
    obtain ⟨g1, g2, g3⟩ := h1 n (by omega)
    have hyn := hsm _ (getD_in (z := (0, 0, 0)) (show n < L.length by omega))
    refine sg_128_6 _ _ _ _ ?_
    rw [if_neg (by rw [nIle (by omega) (by omega)]; omega), nIsub (by omega), Nat.add_sub_cancel]
    refine c_129 hL (by omega) hx hyn g1 g2 g3 ⟨_, rfl, ?_⟩
    cases hc : hlt x (L.getD n (0, 0, 0)) with
    | false =>
      rw [bI_f (by decide), if_pos rfl]
      refine put (n + 1) m hn hL h1 h2 h3 (fun i hi => ?_) k
      by_cases e : i = n
      · rw [e]; exact hc
      · -- earlier ones are less than L[n]
        cases hz : hlt x (L.getD i (0, 0, 0)) with
        | false => rfl
        | true =>
          exfalso
          have hin : hlt (L.getD i (0, 0, 0)) (L.getD n (0, 0, 0)) = true := by
            have := List.pairwise_iff_getElem.mp hs i n (by omega) (by omega) (by omega)
            rw [List.getD_eq_getElem?_getD, List.getElem?_eq_getElem (show i < L.length by omega), List.getD_eq_getElem?_getD, List.getElem?_eq_getElem (show n < L.length by omega)]
            exact this
          have := hlt_tr hz hin
          rw [hc] at this; cases this
    | true =>
      rw [bI_t rfl, if_neg (by decide), l1, l2, l3, ix_nI (by omega), ix_nI (by omega), g1, g2, g3, nI_m1 (by omega), Nat.add_sub_cancel]
      have o1 : ok 60 (nI n) := ok_nI (by omega) (by decide)
      have o2 : ok 60 (nI (n + 1)) := ok_nI (by omega) (by decide)
      refine ⟨o1, o2, o1, o2, o1, o2, ?_⟩
      have f1 : Fr [33, 34, 35] m (((m.uB 33 ((m.B 33).set (n + 1) (L.getD n (0, 0, 0)).1)).uA 34 ((m.A 34).set (n + 1) (nI (L.getD n (0, 0, 0)).2.1))).uA 35 ((m.A 35).set (n + 1) (nI (L.getD n (0, 0, 0)).2.2))) := by
        refine Fr.uA (Fr.uA (Fr.uB (Fr.refl _ m) (by decide) ?_) (by decide) ?_) (by decide) ?_
        · rw [List.length_set]
        · rw [List.length_set]; rfl
        · rw [List.length_set]; rfl
      have gB : ∀ j, ((((m.uB 33 ((m.B 33).set (n + 1) (L.getD n (0, 0, 0)).1)).uA 34 ((m.A 34).set (n + 1) (nI (L.getD n (0, 0, 0)).2.1))).uA 35 ((m.A 35).set (n + 1) (nI (L.getD n (0, 0, 0)).2.2))).B 33).getD j 0 = if j = n + 1 then (L.getD n (0, 0, 0)).1 else (m.B 33).getD j 0 := by
        intro j
        show ((m.uB 33 ((m.B 33).set (n + 1) (L.getD n (0, 0, 0)).1)).B 33).getD j 0 = _
        rw [mB_B, if_pos rfl, getD_set _ _ _ _ _ (by omega)]
      have gA : ∀ j, ((((m.uB 33 ((m.B 33).set (n + 1) (L.getD n (0, 0, 0)).1)).uA 34 ((m.A 34).set (n + 1) (nI (L.getD n (0, 0, 0)).2.1))).uA 35 ((m.A 35).set (n + 1) (nI (L.getD n (0, 0, 0)).2.2))).A 34).getD j 0 = if j = n + 1 then nI (L.getD n (0, 0, 0)).2.1 else (m.A 34).getD j 0 := by
        intro j
        show ((m.A 34).set (n + 1) (nI (L.getD n (0, 0, 0)).2.1)).getD j 0 = _
        rw [getD_set _ _ _ _ _ (by omega)]
      have gA2 : ∀ j, ((((m.uB 33 ((m.B 33).set (n + 1) (L.getD n (0, 0, 0)).1)).uA 34 ((m.A 34).set (n + 1) (nI (L.getD n (0, 0, 0)).2.1))).uA 35 ((m.A 35).set (n + 1) (nI (L.getD n (0, 0, 0)).2.2))).A 35).getD j 0 = if j = n + 1 then nI (L.getD n (0, 0, 0)).2.2 else (m.A 35).getD j 0 := by
        intro j
        show ((m.A 35).set (n + 1) (nI (L.getD n (0, 0, 0)).2.2)).getD j 0 = _
        rw [getD_set _ _ _ _ _ (by omega)]
      refine ih _ (by omega) (hL.fr f1) (fun j hj => ?_) (fun j hj hjl => ?_) (fun i hi hil => ?_) (fun m' a f2 => k m' a (f1.trans f2))
      · rw [gB, gA, gA2, if_neg (by omega), if_neg (by omega), if_neg (by omega)]
        exact h1 j (by omega)
      · rw [gB, gA, gA2]
        by_cases e : j = n + 1
        · rw [if_pos e, if_pos e, if_pos e, e, Nat.add_sub_cancel]
          exact ⟨rfl, rfl, rfl⟩
        · rw [if_neg e, if_neg e, if_neg e]
          exact h2 j (by omega) hjl
      · by_cases e : i = n
        · rw [e]; exact hc
        · exact h3 i (by omega) hil
theorem c_128 {x : Hit} (hx : x.2.1 < 1000 ∧ x.2.2 < 1000) (hsm : smH L) (hs : SrtH L) (h60 : L.length < 60) (hL : Len m) (h15 : m.F 30 15 = nI L.length) (hA : HA m L) (k : ∀ m', HA m' (insH x L) → Fr [33, 34, 35] m m' → K none m') : WP (d + 1) 128 [.ref 30, .long x.1, .int (nI x.2.1), .int (nI x.2.2)] m K := by
  refine sp_128 _ _ _ ?_
  rw [h15]
  exact lp_128 hx hsm hs h60 L.length m (Nat.le_refl _) hL hA (fun k h1 h2 => by omega) (fun i h1 h2 => by omega) k
end H82
