/-! THE REFERENCE: its tokens and steps (by program in part, wip/whole/gen40.py) -/
def Fq (G S : List Nat) (m m' : Mm) : Prop := Fr (42 :: S) m m' ∧ ∀ f, f ∉ G → m'.F 42 f = m.F 42 f
section FQ
variable {G S G' S' : List Nat} {m m1 m2 : Mm}
theorem Fq.refl (G S : List Nat) (m : Mm) : Fq G S m m := ⟨Fr.refl _ m, fun _ _ => rfl⟩
theorem Fq.trans (h1 : Fq G S m m1) (h2 : Fq G S m1 m2) : Fq G S m m2 := ⟨h1.1.trans h2.1, fun f hf => (h2.2 f hf).trans (h1.2 f hf)⟩
theorem Fq.mono (h : Fq G S m m1) (hg : ∀ c, c ∈ G → c ∈ G') (hs : ∀ c, c ∈ S → c ∈ S') : Fq G' S' m m1 := ⟨h.1.mono (fun c hc => by rcases List.mem_cons.mp hc with h | h; exact List.mem_cons.mpr (Or.inl h); exact List.mem_cons.mpr (Or.inr (hs c h))), fun f hf => h.2 f (fun q => hf (hg f q))⟩
theorem Fq.uF (h : Fq G S m m1) {f : Nat} (hf : f ∈ G) (v : Int32) : Fq G S m (m1.uF 42 f v) := ⟨h.1.uF List.mem_cons_self _ _, fun g hg => by rw [mF_F, if_neg (fun (q : 42 = 42 ∧ g = f) => hg (by rw [q.2]; exact hf))]; exact h.2 g hg⟩
theorem Fq.uA (h : Fq G S m m1) {c : Nat} (hc : c ∈ S) {l : List Int32} (hl : l.length = (m1.A c).length) : Fq G S m (m1.uA c l) := ⟨h.1.uA (List.mem_cons_of_mem _ hc) hl, h.2⟩
theorem Fq.uB (h : Fq G S m m1) {c : Nat} (hc : c ∈ S) {l : List Int64} (hl : l.length = (m1.B c).length) : Fq G S m (m1.uB c l) := ⟨h.1.uB (List.mem_cons_of_mem _ hc) hl, h.2⟩
theorem Fq.a (h : Fq G S m m1) {c : Nat} (hc : c ∉ (42 :: S)) : m1.A c = m.A c := h.1.a hc
theorem Fq.f (h : Fq G S m m1) {f : Nat} (hf : f ∉ G) : m1.F 42 f = m.F 42 f := h.2 f hf
theorem Len.fq (hL : Len m) (h : Fq G S m m1) : Len m1 := hL.fr h.1
end FQ
def wc (k : Nat) : Nat := if k = 4 then 119703173 else if k = 5 then 9900216 else if k = 6 then 317298260 else if k = 7 then 721553029 else if k = 8 then 139859589 else if k = 9 then 643175540 else if k = 10 then 215533 else if k = 11 then 24385093 else if k = 12 then 16322738 else if k = 13 then 136803 else if k = 14 then 12891444 else if k = 15 then 480652 else if k = 16 then 498 else if k = 17 then 1476 else if k = 18 then 14836 else 0
def eK (t : Tk) : Nat := if t.1 = 1 then 2 else if t.1 = 2 then 3 else if t.1 ≤ 19 then 1 else 4
def eW (t : Tk) : Nat := if t.1 = 1 ∨ t.1 = 2 then t.2 else if t.1 = 3 then t.2 + 1 else if t.1 ≤ 18 then wc t.1 else t.1
def unk (w : Int32) : Prop := (w < nI 1 ∨ nI 4 < w) ∧ ∀ k, 4 ≤ k → k ≤ 18 → w ≠ nI (wc k)
def wr (t : Tk) (w : Int32) : Prop := if t.1 = 19 then unk w else w = nI (eW t)
def tv (t : Tk) : Prop := (t.1 = 1 ∧ t.2 < 3) ∨ (t.1 = 2 ∧ t.2 < 2 ^ 30) ∨ (t.1 = 3 ∧ t.2 < 4) ∨ (4 ≤ t.1 ∧ t.1 ≤ 19) ∨ (isS t.1 = true)
def RT (m : Mm) (N : Nat) (q : List Tk) : Prop := m.F 42 5 = nI (N - q.length) ∧ m.F 42 2 = nI N ∧ q.length ≤ N ∧ N ≤ 80 ∧ (m.A 44).getD N 0 = nI 0 ∧ ∀ i, i < q.length → (m.A 44).getD (N - q.length + i) 0 = nI (eK (q.getD i (0, 0))) ∧ wr (q.getD i (0, 0)) ((m.A 45).getD (N - q.length + i) 0) ∧ tv (q.getD i (0, 0))
theorem isS_iff {c : Nat} : isS c = true ↔ ((40 ≤ c ∧ c ≤ 47) ∨ c = 91 ∨ c = 93 ∨ c = 61 ∨ c = 60 ∨ c = 62) := by
  unfold isS
  exact decide_eq_true_iff
theorem wc_inj {a b : Nat} (ha : 4 ≤ a) (ha2 : a ≤ 18) (hb : 4 ≤ b) (hb2 : b ≤ 18) (h : wc a = wc b) : a = b := by
  have F : ∀ a : Fin 19, ∀ b : Fin 19, 4 ≤ a.val → 4 ≤ b.val → wc a.val = wc b.val → a = b := by decide
  have := F ⟨a, by omega⟩ ⟨b, by omega⟩ ha hb h
  exact congrArg Fin.val this
theorem wc_big {a : Nat} (ha : 4 ≤ a) (ha2 : a ≤ 18) : 26 < wc a ∧ wc a < 2 ^ 31 := by
  have F : ∀ a : Fin 19, 4 ≤ a.val → 26 < wc a.val ∧ wc a.val < 2 ^ 31 := by decide
  exact F ⟨a, by omega⟩ ha
section RT
variable {d N : Nat} {m m1 : Mm} {K : Option Value → Mm → Prop} {q : List Tk}
theorem RT.fq {G S : List Nat} (h : RT m N q) (k : Fq G S m m1) (h1 : 5 ∉ G) (h2 : 2 ∉ G) (h3 : 44 ∉ (42 :: S)) (h4 : 45 ∉ (42 :: S)) : RT m1 N q := by
  obtain ⟨a, b, c, e, f, g⟩ := h
  refine ⟨by rw [k.f h1]; exact a, by rw [k.f h2]; exact b, c, e, ?_, ?_⟩
  · rw [k.a h3]; exact f
  · rw [k.a h3, k.a h4]; exact g
theorem RT.hd0 {t : Tk} {r : List Tk} (h : RT m N (t :: r)) : (m.A 44).getD (N - (r.length + 1)) 0 = nI (eK t) ∧ wr t ((m.A 45).getD (N - (r.length + 1)) 0) ∧ tv t := h.2.2.2.2.2 0 (Nat.succ_pos _)
theorem RT.nil0 (h : RT m N []) : (m.A 44).getD N 0 = nI 0 := h.2.2.2.2.1
theorem RT.next {t : Tk} {r : List Tk} (h : RT m N (t :: r)) : RT (m.uF 42 5 (nI (N - (r.length + 1) + 1))) N r := by
  obtain ⟨a, b, c, e, f, g⟩ := h
  simp only [List.length_cons] at a c g
  refine ⟨?_, ?_, by omega, e, f, fun i hi => ?_⟩
  · rw [mF_F, if_pos ⟨rfl, rfl⟩]; congr 1; omega
  · rw [mF_F, if_neg (by decide)]; exact b
  · have e1 := g (i + 1) (by omega)
    rw [show N - r.length + i = N - (r.length + 1) + (i + 1) by omega]
    exact e1
/-- the kind ahead -/
def kh (q : List Tk) : Nat := match q with | [] => 0 | t :: _ => eK t
theorem RT.kind (h : RT m N q) : (m.A 44).getD (N - q.length) 0 = nI (kh q) := by
  cases q with
  | nil => exact h.2.2.2.2.1
  | cons t r => exact h.hd0.1
theorem tv_lt {t : Tk} (h : tv t) : t.1 < 1000 ∧ t.2 + 1 < 2 ^ 31 ∨ 4 ≤ t.1 ∧ t.1 < 1000 := by
  rcases h with h | h | h | h | h
  · left; omega
  · left; omega
  · left; omega
  · right; omega
  · rw [isS_iff] at h; right; omega
theorem eW_lt {t : Tk} (h : tv t) (h19 : t.1 ≠ 19) : eW t < 2 ^ 31 := by
  unfold eW
  rcases h with h | h | h | h | h
  · rw [if_pos (Or.inl h.1)]; omega
  · rw [if_pos (Or.inr h.1)]; omega
  · rw [if_neg (by omega), if_pos h.1]; omega
  · rw [if_neg (by omega), if_neg (by omega), if_pos (by omega)]; exact (wc_big h.1 (by omega)).2
  · rw [isS_iff] at h
    rw [if_neg (by omega), if_neg (by omega), if_neg (by omega)]; omega
theorem c_isSign {c : Nat} (hc : isS c = true) (hL : Len m) (h : RT m N q) (k : K (some (.int (bI (hd q = c)))) m) : WP d 140 [.ref 42, .int (nI c)] m K := by
  have l1 : (m.A 44).length = 101 := hL.a (by decide) rfl
  have l2 : (m.A 45).length = 101 := hL.a (by decide) rfl
  have hk := h.kind
  have h0 := h.1
  have hN := h.2.2.2.1
  have hcc := isS_iff.mp hc
  have ho : ok 101 (nI (N - q.length)) := ok_nI (by omega) (by decide)
  refine sp_140 _ ?_
  simp (disch := omega) only [h0, l1, l2, ix_nI, hk]
  refine ⟨ho, ?_⟩
  cases q with
  | nil =>
    rw [if_neg (by decide)]
    rw [bI_f (by show ¬ 0 = c; omega)] at k
    exact k
  | cons t r =>
    obtain ⟨a1, a2, a3⟩ := h.hd0
    simp only [List.length_cons] at *
    show if nI (eK t) = nI 4 then _ else _
    by_cases hs : 20 ≤ t.1
    · have e4 : eK t = 4 := by
        unfold eK
        rw [if_neg (by omega), if_neg (by omega), if_neg (by omega)]
      unfold wr at a2
      rw [if_neg (by omega)] at a2
      have e5 : eW t = t.1 := by
        unfold eW
        rw [if_neg (by omega), if_neg (by omega), if_neg (by omega)]
      have ht : t.1 < 1000 := by rcases tv_lt a3 with z | z <;> omega
      rw [e4, if_pos rfl]
      refine ⟨ho, ?_⟩
      simp (disch := omega) only [a2, e5, nIeq]
      split
      · next z => rw [bI_t (show hd (t :: r) = c from z)] at k; exact k
      · next z => rw [bI_f (show ¬ hd (t :: r) = c from z)] at k; exact k
    · have e4 : eK t < 4 := by
        unfold eK
        split
        · omega
        · split
          · omega
          · rw [if_pos (by omega)]; omega
      simp (disch := omega) only [nIeq]
      rw [if_neg (by omega)]
      rw [bI_f (show ¬ hd (t :: r) = c from by show ¬ t.1 = c; omega)] at k
      exact k
theorem c_takeSign {c : Nat} (hc : isS c = true) (hL : Len m) (h : RT m N q) (k1 : ∀ t r, q = t :: r → t.1 = c → ∀ m', RT m' N r → Fq [5] [] m m' → K (some (.int (nI 1))) m') (k2 : hd q ≠ c → K (some (.int (nI 0))) m) : WP (d + 1) 141 [.ref 42, .int (nI c)] m K := by
  refine sp_141 _ ?_
  refine c_isSign hc hL h ⟨_, rfl, ?_⟩
  simp only [bI_0]
  by_cases e : hd q = c
  · rw [if_neg (fun z => z e)]
    cases q with
    | nil => exact absurd e (by have := isS_iff.mp hc; show ¬ 0 = c; omega)
    | cons t r =>
      refine ⟨bI_B, ?_⟩
      rw [bI_t e, h.1, nI_add]
      exact k1 t r rfl e _ h.next (Fq.uF (Fq.refl _ _ m) (by decide) _)
  · rw [if_pos e]
    refine ⟨bI_B, ?_⟩
    rw [bI_f e, uF_id]
    exact k2 e
theorem c_takeWord {n : Nat} (hn : 4 ≤ n) (hn2 : n ≤ 18) (hL : Len m) (h : RT m N q) (k1 : ∀ t r, q = t :: r → t.1 = n → ∀ m', RT m' N r → Fq [5] [] m m' → K (some (.int (nI 1))) m') (k2 : hd q ≠ n → K (some (.int (nI 0))) m) : WP d 142 [.ref 42, .int (nI (wc n))] m K := by
  have l1 : (m.A 44).length = 101 := hL.a (by decide) rfl
  have l2 : (m.A 45).length = 101 := hL.a (by decide) rfl
  have hk := h.kind
  have h0 := h.1
  have hN := h.2.2.2.1
  have hw := wc_big hn hn2
  have ho : ok 101 (nI (N - q.length)) := ok_nI (by omega) (by decide)
  refine sp_142 _ ?_
  have hid : m.uF 42 5 (nI (N - q.length)) = m := by rw [← h0]; exact uF_id _ _ _
  simp (disch := omega) only [h0, l1, l2, ix_nI, hk, nI_add, hid]
  refine ⟨ho, ?_⟩
  cases q with
  | nil =>
    rw [if_neg (by decide)]
    exact k2 (by show 0 ≠ n; omega)
  | cons t r =>
    obtain ⟨a1, a2, a3⟩ := h.hd0
    simp only [List.length_cons] at *
    show if nI (eK t) = nI 1 then _ else _
    by_cases hs : 3 ≤ t.1 ∧ t.1 ≤ 19
    · have e4 : eK t = 1 := by
        unfold eK
        rw [if_neg (by omega), if_neg (by omega), if_pos (by omega)]
      rw [e4, if_pos rfl]
      refine ⟨ho, ?_⟩
      unfold wr at a2
      by_cases h19 : t.1 = 19
      · rw [if_pos h19] at a2
        rw [if_neg (a2.2 n hn hn2)]
        exact k2 (by show t.1 ≠ n; omega)
      · rw [if_neg h19] at a2
        have hlt := eW_lt a3 h19
        simp (disch := omega) only [a2, nIeq]
        by_cases h3 : t.1 = 3
        · have e5 : eW t = t.2 + 1 := by
            unfold eW
            rw [if_neg (by omega), if_pos h3]
          have ht2 : t.2 < 4 := by
            rcases a3 with z | z | z | z | z
            · omega
            · omega
            · exact z.2
            · omega
            · rw [isS_iff] at z; omega
          rw [if_neg (by omega)]
          exact k2 (by show t.1 ≠ n; omega)
        · have e5 : eW t = wc t.1 := by
            unfold eW
            rw [if_neg (by omega), if_neg (by omega), if_pos (by omega)]
          rw [e5]
          split
          · next z => exact k1 t r rfl (wc_inj (by omega) (by omega) hn hn2 z) _ h.next (Fq.uF (Fq.refl _ _ m) (by decide) _)
          · next z => exact k2 (fun (y : t.1 = n) => z (by rw [y]))
    · have e4 : eK t ≠ 1 ∧ eK t < 5 := by
        unfold eK
        have := tv_lt a3
        split
        · omega
        · split
          · omega
          · rw [if_neg (by
              rcases a3 with z | z | z | z | z
              · omega
              · omega
              · omega
              · omega
              · rw [isS_iff] at z; omega)]; omega
      simp (disch := omega) only [nIeq]
      rw [if_neg e4.1]
      refine k2 (fun (y : t.1 = n) => hs (by omega))
end RT
theorem wrd_4 (h : sm_H) : sm_ex none 80 3 139 0 (lv_args 0 [.int 99, .int 114, .int 101, .int 97, .int 116, .int 101]) [] h = some (some (.int 119703173), h) := rfl
theorem c_wrd_4 {d : Nat} {m : Mm} {K : Option Value → Mm → Prop} (hd : 3 ≤ d) (k : K (some (.int (nI (wc 4)))) m) : WP d 139 [.int (nI 99), .int (nI 114), .int (nI 101), .int (nI 97), .int (nI 116), .int (nI 101)] m K := (WP_run ⟨80, wrd_4 (hp m)⟩ k).up hd
theorem wrd_5 (h : sm_H) : sm_ex none 80 3 139 0 (lv_args 0 [.int 105, .int 110, .int 100, .int 101, .int 120, .int 0]) [] h = some (some (.int 9900216), h) := rfl
theorem c_wrd_5 {d : Nat} {m : Mm} {K : Option Value → Mm → Prop} (hd : 3 ≤ d) (k : K (some (.int (nI (wc 5)))) m) : WP d 139 [.int (nI 105), .int (nI 110), .int (nI 100), .int (nI 101), .int (nI 120), .int (nI 0)] m K := (WP_run ⟨80, wrd_5 (hp m)⟩ k).up hd
theorem wrd_6 (h : sm_H) : sm_ex none 80 3 139 0 (lv_args 0 [.int 105, .int 110, .int 115, .int 101, .int 114, .int 116]) [] h = some (some (.int 317298260), h) := rfl
theorem c_wrd_6 {d : Nat} {m : Mm} {K : Option Value → Mm → Prop} (hd : 3 ≤ d) (k : K (some (.int (nI (wc 6)))) m) : WP d 139 [.int (nI 105), .int (nI 110), .int (nI 115), .int (nI 101), .int (nI 114), .int (nI 116)] m K := (WP_run ⟨80, wrd_6 (hp m)⟩ k).up hd
theorem wrd_7 (h : sm_H) : sm_ex none 80 3 139 0 (lv_args 0 [.int 117, .int 112, .int 100, .int 97, .int 116, .int 101]) [] h = some (some (.int 721553029), h) := rfl
theorem c_wrd_7 {d : Nat} {m : Mm} {K : Option Value → Mm → Prop} (hd : 3 ≤ d) (k : K (some (.int (nI (wc 7)))) m) : WP d 139 [.int (nI 117), .int (nI 112), .int (nI 100), .int (nI 97), .int (nI 116), .int (nI 101)] m K := (WP_run ⟨80, wrd_7 (hp m)⟩ k).up hd
theorem wrd_8 (h : sm_H) : sm_ex none 80 3 139 0 (lv_args 0 [.int 100, .int 101, .int 108, .int 101, .int 116, .int 101]) [] h = some (some (.int 139859589), h) := rfl
theorem c_wrd_8 {d : Nat} {m : Mm} {K : Option Value → Mm → Prop} (hd : 3 ≤ d) (k : K (some (.int (nI (wc 8)))) m) : WP d 139 [.int (nI 100), .int (nI 101), .int (nI 108), .int (nI 101), .int (nI 116), .int (nI 101)] m K := (WP_run ⟨80, wrd_8 (hp m)⟩ k).up hd
theorem wrd_9 (h : sm_H) : sm_ex none 80 3 139 0 (lv_args 0 [.int 115, .int 101, .int 108, .int 101, .int 99, .int 116]) [] h = some (some (.int 643175540), h) := rfl
theorem c_wrd_9 {d : Nat} {m : Mm} {K : Option Value → Mm → Prop} (hd : 3 ≤ d) (k : K (some (.int (nI (wc 9)))) m) : WP d 139 [.int (nI 115), .int (nI 101), .int (nI 108), .int (nI 101), .int (nI 99), .int (nI 116)] m K := (WP_run ⟨80, wrd_9 (hp m)⟩ k).up hd
theorem wrd_10 (h : sm_H) : sm_ex none 80 3 139 0 (lv_args 0 [.int 102, .int 114, .int 111, .int 109, .int 0, .int 0]) [] h = some (some (.int 215533), h) := rfl
theorem c_wrd_10 {d : Nat} {m : Mm} {K : Option Value → Mm → Prop} (hd : 3 ≤ d) (k : K (some (.int (nI (wc 10)))) m) : WP d 139 [.int (nI 102), .int (nI 114), .int (nI 111), .int (nI 109), .int (nI 0), .int (nI 0)] m K := (WP_run ⟨80, wrd_10 (hp m)⟩ k).up hd
theorem wrd_11 (h : sm_H) : sm_ex none 80 3 139 0 (lv_args 0 [.int 119, .int 104, .int 101, .int 114, .int 101, .int 0]) [] h = some (some (.int 24385093), h) := rfl
theorem c_wrd_11 {d : Nat} {m : Mm} {K : Option Value → Mm → Prop} (hd : 3 ≤ d) (k : K (some (.int (nI (wc 11)))) m) : WP d 139 [.int (nI 119), .int (nI 104), .int (nI 101), .int (nI 114), .int (nI 101), .int (nI 0)] m K := (WP_run ⟨80, wrd_11 (hp m)⟩ k).up hd
theorem wrd_12 (h : sm_H) : sm_ex none 80 3 139 0 (lv_args 0 [.int 111, .int 114, .int 100, .int 101, .int 114, .int 0]) [] h = some (some (.int 16322738), h) := rfl
theorem c_wrd_12 {d : Nat} {m : Mm} {K : Option Value → Mm → Prop} (hd : 3 ≤ d) (k : K (some (.int (nI (wc 12)))) m) : WP d 139 [.int (nI 111), .int (nI 114), .int (nI 100), .int (nI 101), .int (nI 114), .int (nI 0)] m K := (WP_run ⟨80, wrd_12 (hp m)⟩ k).up hd
theorem wrd_13 (h : sm_H) : sm_ex none 80 3 139 0 (lv_args 0 [.int 100, .int 101, .int 115, .int 99, .int 0, .int 0]) [] h = some (some (.int 136803), h) := rfl
theorem c_wrd_13 {d : Nat} {m : Mm} {K : Option Value → Mm → Prop} (hd : 3 ≤ d) (k : K (some (.int (nI (wc 13)))) m) : WP d 139 [.int (nI 100), .int (nI 101), .int (nI 115), .int (nI 99), .int (nI 0), .int (nI 0)] m K := (WP_run ⟨80, wrd_13 (hp m)⟩ k).up hd
theorem wrd_14 (h : sm_H) : sm_ex none 80 3 139 0 (lv_args 0 [.int 108, .int 105, .int 109, .int 105, .int 116, .int 0]) [] h = some (some (.int 12891444), h) := rfl
theorem c_wrd_14 {d : Nat} {m : Mm} {K : Option Value → Mm → Prop} (hd : 3 ≤ d) (k : K (some (.int (nI (wc 14)))) m) : WP d 139 [.int (nI 108), .int (nI 105), .int (nI 109), .int (nI 105), .int (nI 116), .int (nI 0)] m K := (WP_run ⟨80, wrd_14 (hp m)⟩ k).up hd
theorem wrd_15 (h : sm_H) : sm_ex none 80 3 139 0 (lv_args 0 [.int 110, .int 117, .int 108, .int 108, .int 0, .int 0]) [] h = some (some (.int 480652), h) := rfl
theorem c_wrd_15 {d : Nat} {m : Mm} {K : Option Value → Mm → Prop} (hd : 3 ≤ d) (k : K (some (.int (nI (wc 15)))) m) : WP d 139 [.int (nI 110), .int (nI 117), .int (nI 108), .int (nI 108), .int (nI 0), .int (nI 0)] m K := (WP_run ⟨80, wrd_15 (hp m)⟩ k).up hd
theorem wrd_16 (h : sm_H) : sm_ex none 80 3 139 0 (lv_args 0 [.int 111, .int 114, .int 0, .int 0, .int 0, .int 0]) [] h = some (some (.int 498), h) := rfl
theorem c_wrd_16 {d : Nat} {m : Mm} {K : Option Value → Mm → Prop} (hd : 3 ≤ d) (k : K (some (.int (nI (wc 16)))) m) : WP d 139 [.int (nI 111), .int (nI 114), .int (nI 0), .int (nI 0), .int (nI 0), .int (nI 0)] m K := (WP_run ⟨80, wrd_16 (hp m)⟩ k).up hd
theorem wrd_17 (h : sm_H) : sm_ex none 80 3 139 0 (lv_args 0 [.int 97, .int 110, .int 100, .int 0, .int 0, .int 0]) [] h = some (some (.int 1476), h) := rfl
theorem c_wrd_17 {d : Nat} {m : Mm} {K : Option Value → Mm → Prop} (hd : 3 ≤ d) (k : K (some (.int (nI (wc 17)))) m) : WP d 139 [.int (nI 97), .int (nI 110), .int (nI 100), .int (nI 0), .int (nI 0), .int (nI 0)] m K := (WP_run ⟨80, wrd_17 (hp m)⟩ k).up hd
theorem wrd_18 (h : sm_H) : sm_ex none 80 3 139 0 (lv_args 0 [.int 110, .int 111, .int 116, .int 0, .int 0, .int 0]) [] h = some (some (.int 14836), h) := rfl
theorem c_wrd_18 {d : Nat} {m : Mm} {K : Option Value → Mm → Prop} (hd : 3 ≤ d) (k : K (some (.int (nI (wc 18)))) m) : WP d 139 [.int (nI 110), .int (nI 111), .int (nI 116), .int (nI 0), .int (nI 0), .int (nI 0)] m K := (WP_run ⟨80, wrd_18 (hp m)⟩ k).up hd
