/-! THE TEXT'S MEANING, the whole statement; the class's parser reads it so -/
def bnd (x : Option St) (f : St → Option St) : Option St := match x with | some s => f s | none => none
def idN (n : Nat) : Nat := n
def sWhole (s : St) : Option St :=
  let s0 : St := ((s.1.1.tail, s.1.2), upS s.2 4 (hd s.1.1))
  if hd s.1.1 = 4 then bnd (sSet 1 5 idN s0) (sSet 2 8 idN)
  else if hd s.1.1 = 5 then bnd (sSet 1 5 idN s0) (sSet 3 7 idN)
  else if hd s.1.1 = 6 then bnd (sSet 1 5 idN s0) (sList 80)
  else if hd s.1.1 = 7 then bnd (sSet 1 5 idN s0) (fun s => bnd (sSet 3 7 idN s) (fun s => bnd (sTok 61 s) (fun s => bnd (sItem s) sWhere)))
  else if hd s.1.1 = 8 then bnd (sSet 1 5 idN s0) sWhere
  else if hd s.1.1 = 9 then bnd (sList 80 s0) (fun s => if 3 < s.2.2.length then none else bnd (sTok 10 s) (fun s => bnd (sSet 1 5 idN s) (fun s => bnd (sTwo s) (fun s => bnd (sWhere s) (fun s => bnd (sOrder s) sLim)))))
  else none
section B
variable {d M N : Nat} {m m0 : Mm} {K : Option Value → Mm → Prop} {f g : St → Option St} {s : St} {G : Mm → Prop}
theorem b_bnd (hf : CSt d M f) (hR : R4 m N s) (f0 : Fr SZ m0 m) (k : SPost m0 N (bnd (f s) g) K) (h : ∀ m1 s1, R4 m1 N s1 → Fr SZ m0 m1 → SPost m0 N (g s1) K → G m1) : WP d M [.ref 25] m (fun v m1 => ∃ w, v = some (.int w) ∧ (if w = (nI 0) then K (some (.int (nI 0))) m1 else G m1)) := by
  refine hf m _ N s hR ?_
  cases hx : f s with
  | none =>
    rw [hx] at k
    exact fun m' f2 => ⟨_, rfl, by rw [if_pos rfl]; exact k m' (f0.trans f2)⟩
  | some s1 =>
    rw [hx] at k
    exact fun m' h1 f2 => ⟨_, rfl, by rw [if_neg (by decide)]; exact h m' s1 h1 (f0.trans f2) k⟩
theorem b_last (hf : CSt d M f) (hR : R4 m N s) (f0 : Fr SZ m0 m) (k : SPost m0 N (f s) K) : WP d M [.ref 25] m (fun v m1 => ∃ w, v = some (.int w) ∧ (if w = (nI 0) then K (some (.int (nI 0))) m1 else K (some (.int (nI 1))) m1)) := by
  refine hf m _ N s hR ?_
  cases hx : f s with
  | none =>
    rw [hx] at k
    exact fun m' f2 => ⟨_, rfl, by rw [if_pos rfl]; exact k m' (f0.trans f2)⟩
  | some s1 =>
    rw [hx] at k
    exact fun m' h1 f2 => ⟨_, rfl, by rw [if_neg (by decide)]; exact k m' h1 (f0.trans f2)⟩
theorem b_tok {n : Nat} (hn : 0 < n) (hn2 : n < 1000) (hR : R4 m N s) (f0 : Fr SZ m0 m) (k : SPost m0 N (bnd (sTok n s) g) K) (h : ∀ m1 s1, R4 m1 N s1 → Fr SZ m0 m1 → SPost m0 N (g s1) K → G m1) : WP d 71 [.ref 26, .int (nI n)] m (fun v m1 => ∃ w, v = some (.int w) ∧ (if w = (nI 0) then K (some (.int (nI 0))) m1 else G m1)) := by
  refine c_accN hR.1.1 hR.1.2.1 hn hn2 (fun t r e e1 m1 hT1 f1 a1 a2 a3 => ⟨_, rfl, ?_⟩) (fun e2 => ⟨_, rfl, ?_⟩)
  · rw [if_neg (by decide)]
    have e0 : sTok n s = some ((r, s.1.2), s.2) := by
      unfold sTok
      rw [if_pos (by rw [e]; exact e1), hd_tail e]
    rw [e0] at k
    exact h m1 _ (hR.fr26 e f1 hT1) (f0.trans (f1.mono (by decide))) k
  · rw [if_pos rfl]
    have e0 : sTok n s = none := if_neg e2
    rw [e0] at k
    exact k m f0
/-- one word of those that a statement begins with -/
theorem b_verb {n : Nat} {E G : Mm → Prop} (hn : 0 < n) (hn2 : n < 1000) (hR : R4 m N s) (f0 : Fr SZ m0 m) (h1 : hd s.1.1 = n → ∀ m1, R4 m1 N ((s.1.1.tail, s.1.2), s.2) → Fr SZ m0 m1 → G m1) (h2 : hd s.1.1 ≠ n → E m) : WP d 71 [.ref 26, .int (nI n)] m (fun v m1 => ∃ w, v = some (.int w) ∧ (if w = (nI 0) then E m1 else G m1)) := by
  refine c_accN hR.1.1 hR.1.2.1 hn hn2 (fun t r e e1 m1 hT1 f1 a1 a2 a3 => ⟨_, rfl, ?_⟩) (fun e2 => ⟨_, rfl, ?_⟩)
  · rw [if_neg (by decide)]
    refine h1 (by rw [e]; exact e1) m1 ?_ (f0.trans (f1.mono (by decide)))
    rw [hd_tail e]
    exact hR.fr26 e f1 hT1
  · rw [if_pos rfl]
    exact h2 e2
end B
theorem c_86 : CSt 47 86 sWhole := by
  intro m K N s hR k
  refine sp_86 ?_
  refine c_next hR.1.1 hR.1.2.1.2 ⟨_, rfl, ?_⟩
  have hR1 := hR.up (f := 4) (n := hd s.1.1) (x := nI (hd s.1.1)) rfl rfl
  have f1 : Fr SZ m (m.uF 12 4 (nI (hd s.1.1))) := Fr.uF (Fr.refl _ m) (by decide) _ _
  unfold sWhole at k
  dsimp only at k
  refine b_verb (by decide) (by decide) hR1 f1 (fun e m1 hR2 f2 => ?_) (fun e4 => ?_)
  · have e : hd s.1.1 = 4 := e
    rw [if_pos e] at k
    exact b_bnd c_87 hR2 f2 k (fun m3 s3 hR3 f3 k3 => b_last c_89 hR3 f3 k3)
  have e4 : hd s.1.1 ≠ 4 := e4
  rw [if_neg e4] at k
  refine b_verb (by decide) (by decide) hR1 f1 (fun e m1 hR2 f2 => ?_) (fun e5 => ?_)
  · have e : hd s.1.1 = 5 := e
    rw [if_pos e] at k
    exact b_bnd c_87 hR2 f2 k (fun m3 s3 hR3 f3 k3 => b_last c_90 hR3 f3 k3)
  have e5 : hd s.1.1 ≠ 5 := e5
  rw [if_neg e5] at k
  refine b_verb (by decide) (by decide) hR1 f1 (fun e m1 hR2 f2 => ?_) (fun e6 => ?_)
  · have e : hd s.1.1 = 6 := e
    rw [if_pos e] at k
    exact b_bnd c_87 hR2 f2 k (fun m3 s3 hR3 f3 k3 => b_last (c_91 (d := 44) (by omega)) hR3 f3 k3)
  have e6 : hd s.1.1 ≠ 6 := e6
  rw [if_neg e6] at k
  refine b_verb (by decide) (by decide) hR1 f1 (fun e m1 hR2 f2 => ?_) (fun e7 => ?_)
  · have e : hd s.1.1 = 7 := e
    rw [if_pos e] at k
    exact b_bnd c_87 hR2 f2 k (fun m3 s3 hR3 f3 k3 => b_bnd c_90 hR3 f3 k3 (fun m3 s3 hR3 f3 k3 => b_tok (by decide) (by decide) hR3 f3 k3 (fun m3 s3 hR3 f3 k3 => b_bnd (c_92 (d := 45) (by omega)) hR3 f3 k3 (fun m3 s3 hR3 f3 k3 => b_last (c_93 (d := 45) (by omega)) hR3 f3 k3))))
  have e7 : hd s.1.1 ≠ 7 := e7
  rw [if_neg e7] at k
  refine b_verb (by decide) (by decide) hR1 f1 (fun e m1 hR2 f2 => ?_) (fun e8 => ?_)
  · have e : hd s.1.1 = 8 := e
    rw [if_pos e] at k
    exact b_bnd c_87 hR2 f2 k (fun m3 s3 hR3 f3 k3 => b_last (c_93 (d := 45) (by omega)) hR3 f3 k3)
  have e8 : hd s.1.1 ≠ 8 := e8
  rw [if_neg e8] at k
  refine b_verb (by decide) (by decide) hR1 f1 (fun e m1 hR2 f2 => ?_) (fun e9 => ?_)
  · have e : hd s.1.1 = 9 := e
    rw [if_pos e] at k
    refine b_bnd (c_91 (d := 44) (by omega)) hR2 f2 k (fun m3 s3 hR3 f3 k3 => ?_)
    have h9 : m3.F 12 9 = nI s3.2.2.length := hR3.2.1.2.1
    have hN := hR3.1.2.1.le
    have hb := hR3.2.2
    simp (disch := omega) only [h9, nIlt]
    split
    · next q =>
      rw [if_pos q] at k3
      exact k3 m3 f3
    · next q =>
      rw [if_neg q] at k3
      exact b_tok (by decide) (by decide) hR3 f3 k3 (fun m3 s3 hR3 f3 k3 => b_bnd c_87 hR3 f3 k3 (fun m3 s3 hR3 f3 k3 => b_bnd c_88 hR3 f3 k3 (fun m3 s3 hR3 f3 k3 => b_bnd (c_93 (d := 45) (by omega)) hR3 f3 k3 (fun m3 s3 hR3 f3 k3 => b_bnd (c_94 (d := 45) (by omega)) hR3 f3 k3 (fun m3 s3 hR3 f3 k3 => b_last c_95 hR3 f3 k3)))))
  have e9 : hd s.1.1 ≠ 9 := e9
  rw [if_neg e9] at k
  exact k _ f1
