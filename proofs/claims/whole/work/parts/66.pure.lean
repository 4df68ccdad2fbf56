/-! WHAT A STATEMENT'S STEPS ARE: each step fits; the whole statement -/
def okx (x : Op) : Prop := x.1 < 1000 ∧ (x.1 = 3 → x.2.1 < 4 ∧ x.2.2 ≤ 3) ∧ (x.1 = 2 → x.2.1 < 2 ^ 30)
def tvs (q : List Tk) : Prop := ∀ t, t ∈ q → tv t
theorem Tkn.tvs {q r : List Tk} (h : Tkn q r) (k : tvs q) : tvs r := by
  obtain ⟨p, e, _⟩ := h
  intro t ht
  exact k t (by rw [e]; exact List.mem_append.mpr (Or.inr ht))
theorem okx_opr {k : Nat} (h : k < 1000) : okx (opr k) := ⟨h, fun _ => ⟨(by decide : 0 < 4), (by decide : 0 ≤ 3)⟩, fun _ => (by decide : 0 < 2 ^ 30)⟩
def okc (c : List Op) : Prop := ∀ x, x ∈ c → okx x
theorem okc.app {a b : List Op} (h : okc a) (k : okc b) : okc (a ++ b) := fun x hx => by
  rcases List.mem_append.mp hx with z | z
  · exact h x z
  · exact k x z
theorem okc_one {x : Op} (h : okx x) : okc [x] := fun y hy => by rw [List.mem_singleton.mp hy]; exact h
def vP (f : Ps) : Prop := ∀ q c r, tvs q → f q = some (c, r) → okc c
def vM (g : Pm) : Prop := ∀ q c x r, tvs q → g q = some (c, x, r) → okc c
theorem vP_none : vP (fun _ => none) := fun _ _ _ _ h => by cases h
theorem vM_none : vM (fun _ => none) := fun _ _ _ _ _ h => by cases h
theorem tvs_tl {t : Tk} {r : List Tk} (h : tvs (t :: r)) : tvs r := fun x hx => h x (List.mem_cons_of_mem _ hx)
theorem v_loop {f : Ps} {p : Nat → Bool} (hf : vP f) (hn : nP f) (hp : ∀ k, p k = true → k < 1000) : ∀ (n : Nat) (acc : List Op) (q : List Tk) (c : List Op) (r : List Tk), tvs q → okc acc → pLoop f p n acc q = some (c, r) → okc c
  | 0, acc, q, c, r, hq, ha, h => by cases h; exact ha
  | n + 1, acc, [], c, r, hq, ha, h => by cases h; exact ha
  | n + 1, acc, t :: q, c, r, hq, ha, h => by
    unfold pLoop at h
    dsimp only at h
    split at h
    · next hk =>
      split at h
      · next c' r' e =>
        exact v_loop hf hn hp n _ _ _ _ ((hn _ _ _ e).tvs (tvs_tl hq)) ((ha.app (hf _ _ _ (tvs_tl hq) e)).app (okc_one (okx_opr (hp _ hk)))) h
      · cases h
    · cases h; exact ha
theorem mul1k (k : Nat) (h : isMul k = true) : k < 1000 := by have := (isMul_iff _).mp h; omega
theorem add1k (k : Nat) (h : isAdd k = true) : k < 1000 := by have := (isAdd_iff _).mp h; omega
theorem and1k (k : Nat) (h : isAnd k = true) : k < 1000 := by have := (isAnd_iff _).mp h; omega
theorem or1k (k : Nat) (h : isOr k = true) : k < 1000 := by have := (isOr_iff _).mp h; omega
theorem vP_prod {f : Ps} (hf : vP f) (hn : nP f) : vP (pProd f) := by
  intro q c r hq h
  unfold pProd at h
  split at h
  · next c' r' e => exact v_loop hf hn mul1k _ _ _ _ _ ((hn _ _ _ e).tvs hq) (hf _ _ _ hq e) h
  · cases h
theorem vP_exp {f : Ps} (hf : vP f) (hn : nP f) : vP (pExp f) := by
  intro q c r hq h
  unfold pExp at h
  split at h
  · next c' r' e => exact v_loop (vP_prod hf hn) (nP_prod hn) add1k _ _ _ _ _ ((nP_prod hn _ _ _ e).tvs hq) (vP_prod hf hn _ _ _ hq e) h
  · cases h
theorem tv_tab {t : Tk} (h : tv t) (h1 : t.1 = 1) : t.2 < 3 := by
  rcases h with z | z | z | z | z
  · exact z.2
  · omega
  · omega
  · omega
  · rw [isS_iff] at z; omega
theorem tv_num {t : Tk} (h : tv t) (h1 : t.1 = 2) : t.2 < 2 ^ 30 := by
  rcases h with z | z | z | z | z
  · omega
  · exact z.2
  · omega
  · omega
  · rw [isS_iff] at z; omega
theorem vP_col : vP pCol := by
  intro q c r hq h
  unfold pCol at h
  split at h
  · cases h
  · next t q' =>
    have ht := hq t (List.mem_cons_self ..)
    split at h
    · next h1 =>
      split at h
      · next a b r' =>
        have hb := hq b (by simp)
        split at h
        · next h2 =>
          cases h
          have e1 := tv_tab ht h1
          have e2 := tv_col hb h2.2
          exact okc_one ⟨(by decide : 3 < 1000), (fun _ => ⟨e2, (by omega : t.2 + 1 ≤ 3)⟩), (fun z => by cases z)⟩
        · cases h
      · cases h
    · split at h
      · next h3 =>
        cases h
        exact okc_one ⟨(by decide : 3 < 1000), (fun _ => ⟨tv_col ht h3, (by decide : 0 ≤ 3)⟩), (fun z => by cases z)⟩
      · cases h
theorem vP_facB {e f : Ps} (he : vP e) (hf : vP f) : vP (facB e f) := by
  intro q c r hq h
  unfold facB at h
  split at h
  · cases h
  · next t q' =>
    have ht := hq t (List.mem_cons_self ..)
    have hq' := tvs_tl hq
    split at h
    · obtain ⟨t2, e2, _⟩ := pTok_inv h
      exact he _ _ _ hq' e2
    · split at h
      · split at h
        · next c' r' e2 => cases h; exact (hf _ _ _ hq' e2).app (okc_one (okx_opr (by decide)))
        · cases h
      · split at h
        · next h2 =>
          cases h
          exact okc_one ⟨(by decide : 2 < 1000), (fun z => by cases z), fun _ => tv_num ht h2⟩
        · split at h
          · cases h
            exact okc_one ⟨(by decide : 15 < 1000), (fun z => by cases z), (fun z => by cases z)⟩
          · exact vP_col _ _ _ hq h
theorem vP_fac : ∀ l, vP (pFac l)
  | 0 => vP_facB vP_none vP_none
  | l + 1 => vP_facB (vP_exp (vP_fac l) (nP_fac l)) (vP_fac l)
theorem vP_ex (l : Nat) : vP (pEx l) := vP_exp (vP_fac l) (nP_fac l)
theorem vM_cmp (l : Nat) : vM (pCmp l) := by
  intro q c x r hq h
  unfold pCmp at h
  split at h
  · cases h
  · cases h
  · next c1 t r1 e =>
    have h1 := vP_ex l _ _ _ hq e
    have hr1 := tvs_tl ((nP_ex l _ _ _ e).tvs hq)
    split at h
    · cases h; exact h1.app (okc_one (okx_opr (by decide)))
    · split at h
      · next h61 =>
        split at h
        · next c2 r2 e2 => cases h; exact (h1.app (vP_ex l _ _ _ hr1 e2)).app (okc_one (okx_opr (by omega)))
        · cases h
      · cases h
theorem vP_drp {g : Pm} (hg : vM g) : vP (drp g) := by
  intro q c r hq h
  unfold drp at h
  split at h
  · next c' x r' e => cases h; exact hg _ _ _ _ hq e
  · cases h
theorem vP_con {g : Pm} (hg : vM g) (hn : nM g) : vP (pCon g) := by
  intro q c r hq h
  unfold pCon at h
  split at h
  · next c' r' e => exact v_loop (vP_drp hg) (nP_drp hn) and1k _ _ _ _ _ ((nP_drp hn _ _ _ e).tvs hq) (vP_drp hg _ _ _ hq e) h
  · cases h
theorem vP_cnd {g : Pm} (hg : vM g) (hn : nM g) : vP (pCnd g) := by
  intro q c r hq h
  unfold pCnd at h
  split at h
  · next c' r' e => exact v_loop (vP_con hg hn) (nP_con hn) or1k _ _ _ _ _ ((nP_con hn _ _ _ e).tvs hq) (vP_con hg hn _ _ _ hq e) h
  · cases h
theorem vM_negB {e : Ps} {f g : Pm} (he : vP e) (hf : vM f) (hg : vM g) : vM (negB e f g) := by
  intro q c x r hq h
  unfold negB at h
  split at h
  · exact hg _ _ _ _ hq h
  · next t q' =>
    have hq' := tvs_tl hq
    split at h
    · split at h
      · next c' r' e2 =>
        cases h
        obtain ⟨t2, e3, _⟩ := pTok_inv e2
        exact he _ _ _ hq' e3
      · cases h
    · split at h
      · split at h
        · next c' x' r' e2 => cases h; exact (hf _ _ _ _ hq' e2).app (okc_one (okx_opr (by decide)))
        · cases h
      · exact hg _ _ _ _ hq h
theorem vM_neg : ∀ l, vM (pNeg l)
  | 0 => vM_negB vP_none vM_none (vM_cmp 0)
  | l + 1 => vM_negB (vP_cnd (vM_neg l) (nM_neg l)) (vM_neg l) (vM_cmp (l + 1))
def vT (p : T3 → Option T3) : Prop := ∀ s s', tvs s.1 → okc s.2.1 → p s = some s' → okc s'.2.1
theorem vT_part : vT tPart := by
  intro s s' hq hc h
  unfold tPart at h
  split at h
  · next c x r e => cases h; exact hc.app (vM_neg 8 _ _ _ _ hq e)
  · cases h
theorem vT_loop {p : T3 → Option T3} {k : Nat} (hp : vT p) (hn : nT p) (hk : k ≠ 0) (h19 : k ≠ 19) (h1k : k < 1000) : ∀ (n : Nat) (s s' : T3), tvs s.1 → okc s.2.1 → tLoop p k n s = some s' → okc s'.2.1
  | 0, s, s', hq, hc, h => by cases h; exact hc
  | n + 1, s, s', hq, hc, h => by
    unfold tLoop at h
    split at h
    · next hh =>
      split at h
      · next s1 e =>
        have hq1 := (hdT hk h19 hh).tvs hq
        have h1 := hp (s.1.tail, s.2) s1 hq1 hc e
        exact vT_loop hp hn hk h19 h1k n (s1.1, s1.2.1 ++ [opr k], s1.2.2) s' ((hn _ _ e).tvs hq1) (h1.app (okc_one (okx_opr h1k))) h
      · cases h
    · cases h; exact hc
theorem vT_con : vT tCon := by
  intro s s' hq hc h
  unfold tCon at h
  split at h
  · next s1 e => exact vT_loop vT_part nT_part (by decide) (by decide) (by decide) _ _ _ ((nT_part _ _ e).tvs hq) (vT_part _ _ hq hc e) h
  · cases h
theorem vT_cnd : vT tCnd := by
  intro s s' hq hc h
  unfold tCnd at h
  split at h
  · next s1 e =>
    have h1 := vT_con _ _ hq hc e
    have hq1 := (nT_con _ _ e).tvs hq
    split at h
    · next s2 e2 =>
      have h2 := vT_loop vT_con nT_con (by decide) (by decide) (by decide) _ _ _ hq1 h1 e2
      split at h
      · cases h; exact h2
      · cases h; exact h2
    · cases h
  · cases h
/-- a statement that fits -/
def WF (s : St) : Prop :=
  okc s.1.2.1 ∧
  (∀ i, i < s.2.2.length → tmF s.2 i < s.2.2.getD i 0 ∧ s.2.2.getD i 0 ≤ s.1.2.1.length ∧ tyC false (seg s.1.2.1 (tmF s.2 i) (s.2.2.getD i 0))) ∧
  (s.2.1 11 ≠ 0 → s.2.1 10 < s.2.1 11 ∧ s.2.1 11 ≤ s.1.2.1.length ∧ tyC true (seg s.1.2.1 (s.2.1 10) (s.2.1 11))) ∧
  (s.2.1 13 ≠ 0 → s.2.1 12 < s.2.1 13 ∧ s.2.1 13 ≤ s.1.2.1.length ∧ tyC false (seg s.1.2.1 (s.2.1 12) (s.2.1 13))) ∧
  (∀ p, p ∈ s.1.2.2 → okPt s.1.2.1 p) ∧
  (∀ env, EnvOk env s.1.2.1 → s.2.1 11 ≠ 0 → val env (seg s.1.2.1 (s.2.1 10) (s.2.1 11)) = 2 → ∀ p, p ∈ s.1.2.2 → val env (seg s.1.2.1 p.1 p.2.2) = 2) ∧
  (s.2.1 11 = 0 → s.1.2.2 = [] ∧ s.2.1 10 = 0) ∧ (s.2.1 13 = 0 → s.2.1 12 = 0 ∧ s.2.1 14 = 0) ∧
  s.2.1 5 < 3 ∧ s.2.1 6 ≤ 3 ∧ s.2.1 7 < 4 ∧ s.2.1 8 < 2 ^ 30 ∧ s.2.1 15 ≤ 2 ^ 30 ∧ s.2.1 14 < 2
theorem WF.toks {s : St} {q : List Tk} (h : WF s) : WF ((q, s.1.2), s.2) := h
theorem WF.app {s : St} {q : List Tk} {ds : List Op} (h : WF s) (hd : okc ds) : WF ((q, s.1.2.1 ++ ds, s.1.2.2), s.2) := by
  obtain ⟨h1, h2, h3, h4, h5, h6, h7, h8, h9⟩ := h
  refine ⟨h1.app hd, fun i hi => ?_, fun hz => ?_, fun hz => ?_, fun p hp => (h5 p hp).app, fun env he hz hv p hp => ?_, h7, h8, h9⟩
  · obtain ⟨a, b, c⟩ := h2 i hi
    dsimp only
    refine ⟨a, by rw [List.length_append]; omega, ?_⟩
    rw [seg_app b]; exact c
  · obtain ⟨a, b, c⟩ := h3 hz
    dsimp only
    refine ⟨a, by rw [List.length_append]; omega, ?_⟩
    rw [seg_app b]; exact c
  · obtain ⟨a, b, c⟩ := h4 hz
    dsimp only
    refine ⟨a, by rw [List.length_append]; omega, ?_⟩
    rw [seg_app b]; exact c
  · obtain ⟨a, b, c⟩ := h3 hz
    dsimp only at he hv hp ⊢
    rw [seg_app b] at hv
    rw [seg_app (h5 p hp).2.1]
    exact h6 env he.l hz hv p hp
theorem WF.item {s e : St} (h : WF s) (hE : atE s) (hq : tvs s.1.1) (he : sItem s = some e) : WF e ∧ atE e ∧ e.2.1 = s.2.1 ∧ e.1.2.2 = s.1.2.2 ∧ e.2.2.length = s.2.2.length + 1 ∧ s.1.2.1.length < e.1.2.1.length := by
  unfold sItem sEx at he
  cases hx : pEx 8 s.1.1 with
  | none => rw [hx] at he; cases he
  | some y =>
    obtain ⟨c, r⟩ := y
    rw [hx] at he
    cases he
    have ht := tyP_ex 8 _ _ _ hx
    have hl := okP_ex 8 _ _ _ hx
    have hv := vP_ex 8 _ _ _ hq hx
    have ha := h.app (q := r) hv
    obtain ⟨h1, h2, h3, h4, h5, h6, h7, h8, h9⟩ := ha
    have e0 : (s.2.2 ++ [(s.1.2.1 ++ c).length]).length = s.2.2.length + 1 := by rw [List.length_append]; rfl
    have tmE : ∀ i, i ≤ s.2.2.length → tmF (s.2.1, s.2.2 ++ [(s.1.2.1 ++ c).length]) i = tmF s.2 i := by
      intro i hi
      unfold tmF
      by_cases hz : i = 0
      · rw [if_pos hz, if_pos hz]
      · rw [if_neg hz, if_neg hz]
        dsimp only
        rw [getD_snoc2, if_neg (by omega)]
    refine ⟨⟨h1, fun i hi => ?_, h3, h4, h5, h6, h7, h8, h9⟩, ?_, rfl, rfl, e0, ?_⟩
    · dsimp only at hi ⊢
      rw [e0] at hi
      rw [tmE i (by omega), getD_snoc2]
      by_cases hz : i = s.2.2.length
      · rw [if_pos hz, hz]
        have hE : s.1.2.1.length = tmF s.2 s.2.2.length := hE
        rw [← hE]
        refine ⟨by rw [List.length_append]; omega, Nat.le_refl _, ?_⟩
        rw [seg_end]; exact ht
      · rw [if_neg hz]
        exact h2 i (show i < s.2.2.length by omega)
    · show (s.1.2.1 ++ c).length = tmF _ (s.2.2 ++ [(s.1.2.1 ++ c).length]).length
      unfold tmF
      rw [e0, if_neg (by omega), Nat.add_sub_cancel]
      show _ = (s.2.2 ++ [(s.1.2.1 ++ c).length]).getD s.2.2.length 0
      rw [getD_snoc2, if_pos rfl]
    · dsimp only
      rw [List.length_append]; omega
theorem WF.list : ∀ (n : Nat) (s e : St), WF s → atE s → tvs s.1.1 → sList n s = some e → WF e ∧ atE e ∧ e.2.1 = s.2.1 ∧ e.1.2.2 = s.1.2.2 ∧ s.2.2.length < e.2.2.length ∧ tvs e.1.1
  | 0, s, e, h, hE, hq, he => by cases he
  | n + 1, s, e, h, hE, hq, he => by
    unfold sList at he
    cases hx : sItem s with
    | none => rw [hx] at he; cases he
    | some e1 =>
      rw [hx] at he
      dsimp only at he
      have h1 := h.item hE hq hx
      have hq1 := (nS_item _ _ hx).tvs hq
      split at he
      · next hh =>
        have hq2 := (hdT (by decide) (by decide) hh).tvs hq1
        have h2 := WF.list n ((e1.1.1.tail, e1.1.2), e1.2) e h1.1 h1.2.1 hq2 he
        refine ⟨h2.1, h2.2.1, h2.2.2.1.trans h1.2.2.1, h2.2.2.2.1.trans h1.2.2.2.1, ?_, h2.2.2.2.2.2⟩
        have := h2.2.2.2.2.1
        have := h1.2.2.2.2.1
        dsimp only at *
        omega
      · cases he
        exact ⟨h1.1, h1.2.1, h1.2.2.1, h1.2.2.2.1, by have := h1.2.2.2.2.1; omega, hq1⟩
theorem WF.whr {s e : St} (h : WF s) (h11 : s.2.1 11 = 0) (hq : tvs s.1.1) (he : sWhere s = some e) : WF e ∧ e.2.2 = s.2.2 ∧ (∀ f, f ≠ 10 → f ≠ 11 → e.2.1 f = s.2.1 f) ∧ tvs e.1.1 := by
  have hq' := (nS_where _ _ he).tvs hq
  unfold sWhere sOpt at he
  split at he
  · next hh =>
    dsimp only at he
    cases hx : tCnd (s.1.1.tail, s.1.2) with
    | none => rw [hx] at he; cases he
    | some e1 =>
      rw [hx] at he
      cases he
      have hps := (h.2.2.2.2.2.2.1 h11).1
      have hx0 := hx
      have es : s.1.2 = (s.1.2.1, []) := by rw [← hps]
      rw [es] at hx
      have hT := TI_cnd hx
      have hv := vT_cnd (s.1.1.tail, s.1.2) e1 ((hdT (by decide) (by decide) hh).tvs hq) h.1 hx0
      obtain ⟨code, c1, c2, c3, c4⟩ := hT
      have hpos : 0 < code.length := by
        cases code with
        | nil => have := c2 []; cases this
        | cons x code => rw [List.length_cons]; omega
      have hlen : s.1.2.1.length < e1.2.1.length := by rw [c1, List.length_append]; omega
      have hcode : okc code := fun x hx => hv x (by rw [c1]; exact List.mem_append.mpr (Or.inr hx))
      have ha := h.app (q := e1.1) hcode
      obtain ⟨h1, h2, h3, h4, h5, h6, h7, h8, h9⟩ := ha
      rw [← c1] at h2 h4
      have sf : ∀ f, f ≠ 10 → f ≠ 11 → (upS (upS s.2 10 s.1.2.1.length) 11 e1.2.1.length).1 f = s.2.1 f := fun f q1 q2 => by
        show (if f = 11 then _ else if f = 10 then _ else _) = _
        rw [if_neg q2, if_neg q1]
      refine ⟨⟨hv, h2, fun _ => ?_, ?_, c3, fun env heo _ hval p hp => ?_, fun hz => ?_, ?_, ?_⟩, rfl, sf, hq'⟩
      · show s.1.2.1.length < e1.2.1.length ∧ e1.2.1.length ≤ e1.2.1.length ∧ tyC true (seg e1.2.1 s.1.2.1.length e1.2.1.length)
        refine ⟨hlen, Nat.le_refl _, ?_⟩
        rw [c1, seg_end]; exact c2
      · rw [sf 12 (by decide) (by decide), sf 13 (by decide) (by decide)]; exact h4
      · have hval : val env (seg e1.2.1 s.1.2.1.length e1.2.1.length) = 2 := hval
        rw [c1, seg_end] at hval
        have heo : EnvOk env e1.2.1 := heo
        rw [c1] at heo
        exact c4 env heo.r hval p hp
      · exact absurd (show e1.2.1.length = 0 from hz) (by omega)
      · rw [sf 12 (by decide) (by decide), sf 13 (by decide) (by decide), sf 14 (by decide) (by decide)]; exact h8
      · rw [sf 5 (by decide) (by decide), sf 6 (by decide) (by decide), sf 7 (by decide) (by decide), sf 8 (by decide) (by decide), sf 15 (by decide) (by decide), sf 14 (by decide) (by decide)]
        exact h9
  · cases he
    exact ⟨h, rfl, fun _ _ _ => rfl, hq⟩
theorem WF.set {s e : St} {k f : Nat} {g : Nat → Nat} (h : WF s) (hq : tvs s.1.1) (hf : f = 5 ∨ f = 6 ∨ f = 7 ∨ f = 8 ∨ f = 15) (hv : ∀ t : Tk, tv t → t.1 = k → (f = 5 → g t.2 < 3) ∧ (f = 6 → g t.2 ≤ 3) ∧ (f = 7 → g t.2 < 4) ∧ (f = 8 → g t.2 < 2 ^ 30) ∧ (f = 15 → g t.2 ≤ 2 ^ 30)) (h19 : k ≠ 19) (he : sSet k f g s = some e) : WF e ∧ e.2.2 = s.2.2 ∧ e.1.2 = s.1.2 ∧ (∀ j, j ≠ f → e.2.1 j = s.2.1 j) ∧ tvs e.1.1 := by
  have hq' := (nS_set h19 _ _ he).tvs hq
  have nf : 10 ≠ f ∧ 11 ≠ f ∧ 12 ≠ f ∧ 13 ≠ f ∧ 14 ≠ f := by rcases hf with rfl | rfl | rfl | rfl | rfl <;> decide
  unfold sSet at he
  split at he
  · next t r et =>
    split at he
    · next ek =>
      cases he
      have htv := hq t (by rw [et]; exact List.mem_cons_self ..)
      have hb := hv t htv ek
      have sf : ∀ j, j ≠ f → (upS s.2 f (g t.2)).1 j = s.2.1 j := fun j hj => if_neg hj
      have si : ∀ j, j = f → (upS s.2 f (g t.2)).1 j = g t.2 := fun j hj => if_pos hj
      obtain ⟨h1, h2, h3, h4, h5, h6, h7, h8, h9, h10, h11, h12, h13, h14⟩ := h
      refine ⟨⟨h1, h2, ?_, ?_, h5, ?_, ?_, ?_, ?_, ?_, ?_, ?_, ?_, ?_⟩, rfl, rfl, sf, hq'⟩
      · rw [sf 10 nf.1, sf 11 nf.2.1]; exact h3
      · rw [sf 12 nf.2.2.1, sf 13 nf.2.2.2.1]; exact h4
      · rw [sf 10 nf.1, sf 11 nf.2.1]; exact h6
      · rw [sf 10 nf.1, sf 11 nf.2.1]; exact h7
      · rw [sf 12 nf.2.2.1, sf 13 nf.2.2.2.1, sf 14 nf.2.2.2.2]; exact h8
      · by_cases z : 5 = f
        · rw [si 5 z]; exact hb.1 z.symm
        · rw [sf 5 z]; exact h9
      · by_cases z : 6 = f
        · rw [si 6 z]; exact hb.2.1 z.symm
        · rw [sf 6 z]; exact h10
      · by_cases z : 7 = f
        · rw [si 7 z]; exact hb.2.2.1 z.symm
        · rw [sf 7 z]; exact h11
      · by_cases z : 8 = f
        · rw [si 8 z]; exact hb.2.2.2.1 z.symm
        · rw [sf 8 z]; exact h12
      · by_cases z : 15 = f
        · rw [si 15 z]; exact hb.2.2.2.2 z.symm
        · rw [sf 15 z]; exact h13
      · rw [sf 14 nf.2.2.2.2]; exact h14
    · cases he
  · cases he
theorem WF.ord {s e : St} (h : WF s) (h13 : s.2.1 13 = 0) (hq : tvs s.1.1) (he : sOrder s = some e) : WF e ∧ e.2.2 = s.2.2 ∧ (∀ f, f ≠ 12 → f ≠ 13 → f ≠ 14 → e.2.1 f = s.2.1 f) ∧ tvs e.1.1 := by
  have hq' := (nS_order _ _ he).tvs hq
  unfold sOrder sOpt at he
  split at he
  · next hh =>
    dsimp only at he
    unfold sEx at he
    dsimp only at he
    cases hx : pEx 8 s.1.1.tail with
    | none => rw [hx] at he; cases he
    | some y =>
      obtain ⟨c, r⟩ := y
      rw [hx] at he
      dsimp only at he
      have ht := tyP_ex 8 _ _ _ hx
      have hl := okP_ex 8 _ _ _ hx
      have hv := vP_ex 8 _ _ _ ((hdT (by decide) (by decide) hh).tvs hq) hx
      have main : ∀ (q : List Tk) (v : Nat), v < 2 → WF ((q, s.1.2.1 ++ c, s.1.2.2), upS (upS (upS s.2 12 s.1.2.1.length) 13 (s.1.2.1 ++ c).length) 14 v) ∧ ∀ f, f ≠ 12 → f ≠ 13 → f ≠ 14 → (upS (upS (upS s.2 12 s.1.2.1.length) 13 (s.1.2.1 ++ c).length) 14 v).1 f = s.2.1 f := by
        intro q v hv2
        have ha := h.app (q := q) hv
        obtain ⟨h1, h2, h3, h4, h5, h6, h7, h8, h9, h10, h11, h12, h13', h14⟩ := ha
        have sf : ∀ f, f ≠ 12 → f ≠ 13 → f ≠ 14 → (upS (upS (upS s.2 12 s.1.2.1.length) 13 (s.1.2.1 ++ c).length) 14 v).1 f = s.2.1 f := fun f q1 q2 q3 => by
          show (if f = 14 then _ else if f = 13 then _ else if f = 12 then _ else _) = _
          rw [if_neg q3, if_neg q2, if_neg q1]
        refine ⟨⟨h1, h2, ?_, fun _ => ?_, h5, ?_, ?_, fun hz => ?_, ?_, ?_, ?_, ?_, ?_, hv2⟩, sf⟩
        · rw [sf 10 (by decide) (by decide) (by decide), sf 11 (by decide) (by decide) (by decide)]; exact h3
        · show s.1.2.1.length < (s.1.2.1 ++ c).length ∧ (s.1.2.1 ++ c).length ≤ (s.1.2.1 ++ c).length ∧ tyC false (seg (s.1.2.1 ++ c) s.1.2.1.length (s.1.2.1 ++ c).length)
          refine ⟨by rw [List.length_append]; omega, Nat.le_refl _, ?_⟩
          rw [seg_end]; exact ht
        · rw [sf 10 (by decide) (by decide) (by decide), sf 11 (by decide) (by decide) (by decide)]; exact h6
        · rw [sf 10 (by decide) (by decide) (by decide), sf 11 (by decide) (by decide) (by decide)]; exact h7
        · exact absurd (show (s.1.2.1 ++ c).length = 0 from hz) (by rw [List.length_append]; omega)
        · rw [sf 5 (by decide) (by decide) (by decide)]; exact h9
        · rw [sf 6 (by decide) (by decide) (by decide)]; exact h10
        · rw [sf 7 (by decide) (by decide) (by decide)]; exact h11
        · rw [sf 8 (by decide) (by decide) (by decide)]; exact h12
        · rw [sf 15 (by decide) (by decide) (by decide)]; exact h13'
      split at he
      · cases he
        have := main r.tail 1 (by decide)
        exact ⟨this.1, rfl, this.2, hq'⟩
      · cases he
        have := main r 0 (by decide)
        exact ⟨this.1, rfl, this.2, hq'⟩
  · cases he
    exact ⟨h, rfl, fun _ _ _ _ => rfl, hq⟩
