/-! THE REFERENCE: test() -/
theorem H_split (W : List Nat) : ∃ W0 k, W = W0 ++ List.replicate k 13 ∧ topW W0 ≠ 13 := by
  generalize hn : W.length = n
  induction n generalizing W with
  | zero =>
    have e : W = [] := List.length_eq_zero_iff.mp hn
    exact ⟨[], 0, by rw [e]; rfl, by decide⟩
  | succ n ih =>
    rcases List.eq_nil_or_concat W with e | ⟨V, x, e⟩
    · subst e; cases hn
    · have e : W = V ++ [x] := by rw [e, List.concat_eq_append]
      subst e
      rw [List.length_append, List.length_cons, List.length_nil] at hn
      by_cases h8 : x = 13
      · obtain ⟨W0, k, e1, e2⟩ := ih V (by omega)
        refine ⟨W0, k + 1, ?_, e2⟩
        rw [h8, e1, List.append_assoc, List.replicate_succ']
      · exact ⟨V ++ [x], 0, by rw [List.replicate_zero, List.append_nil], by rw [topW_snoc]; exact h8⟩
/-- a configuration of the reference's condition -/
def RK (m : Mm) (N b : Nat) (q : List Tk) (cs : List Op) (H : List Nat) (ps : List Pt) (e bg w : Nat) : Prop := Len m ∧ RT m N q ∧ RC m cs ∧ RH m H ∧ RP m ps ∧ m.F 42 15 = nI (nsh H) ∧ m.F 42 34 = nI e ∧ m.F 42 6 = nI 0 ∧ (0 < nsh H → m.F 42 38 = nI bg) ∧ (w = 0 → 0 < nsh H → m.F 42 39 = -1) ∧ cs.length + H.length + q.length ≤ b ∧ 2 * ps.length + H.length + q.length ≤ N ∧ b ≤ N ∧ e < 2 ∧ nsh H ≤ 8
/-- a bad end of it -/
def RJk (m0 : Mm) (N b : Nat) (m : Mm) : Prop := Fq GW SWr m0 m ∧ m.F 42 6 = nI 1 ∧ (∃ q, RT m N q) ∧ ∃ c h, c + h ≤ b + 2 ∧ m.F 42 7 = nI c ∧ m.F 42 13 = nI h
theorem pCmp_len {l : Nat} {q : List Tk} {c : List Op} {mq : Option Nat} {r : List Tk} (h : pCmp l q = some (c, mq, r)) : r.length + 2 ≤ q.length := by
  unfold pCmp at h
  split at h
  · cases h
  · cases h
  · next c1 t r1 e =>
    have h1 := okP_ex l _ _ _ e
    rw [List.length_cons] at h1
    split at h
    · cases h; omega
    · split at h
      · split at h
        · next c2 r2 e2 =>
          have h2 := okP_ex l _ _ _ e2
          cases h; omega
        · cases h
      · cases h
theorem pCmp_nil {l : Nat} {q : List Tk} {c : List Op} (h : pEx l q = some (c, [])) : pCmp l q = none := by
  unfold pCmp; rw [h]
theorem pCmp_none {l : Nat} {q : List Tk} (h : pEx l q = none) : pCmp l q = none := by
  unfold pCmp; rw [h]
theorem pCmp_cons {l : Nat} {q : List Tk} {c : List Op} {t : Tk} {r : List Tk} (h : pEx l q = some (c, t :: r)) : pCmp l q = if t.1 = 15 then some (c ++ [opr 31], none, r) else if t.1 = 61 ∨ t.1 = 60 ∨ t.1 = 62 then (match pEx l r with | some (c', r') => some (c ++ c' ++ [opr t.1], if t.1 = 61 then some c.length else none, r') | none => none) else none := by
  unfold pCmp; rw [h]; rfl
section R51
variable {d N b : Nat} {m m0 m1 : Mm} {K : Option Value → Mm → Prop} {q : List Tk} {cs : List Op} {H : List Nat} {ps : List Pt} {e bg : Nat}
/-- a not or a [ -/
theorem c_155n {x : Nat} {x1 : Int32} {r : List Tk} (hX : RK m N b q cs H ps e bg 1) (h38 : m.F 42 38 = nI bg) (hT : RT m1 N r) (f1 : Fq [5] [] m m1) (hr : r.length < q.length) (hx : (x1 = nI 0 ∧ x = 16) ∨ (x1 = nI 1 ∧ x = 13)) (k1 : nsh H ≤ 7 → ∀ m', RK m' N b r cs (H ++ [x]) ps e bg 1 → m'.F 42 16 = nI 1 → Fq GW SWr m m' → K none m') (k2 : 7 < nsh H → ∀ m', RJk m N b m' → K none m') : WH (d + 1) 155 30 [(0, .ref 42), (1, .int x1)] [] m1 K := by
  obtain ⟨hL, hT0, hC, hR, hP, h15, h34, h6, hbg, hmd, hb1, hb2, hb3, he, hn8⟩ := hX
  have hN := hT0.2.2.2.1
  have g6 : m1.F 42 6 = nI 0 := by rw [f1.f (by decide)]; exact h6
  have g15 : m1.F 42 15 = nI (nsh H) := by rw [f1.f (by decide)]; exact h15
  have hsx : nsh (H ++ [x]) = nsh H + 1 := by
    rw [nsh_app]
    rcases hx with z | z <;> rw [z.2] <;> rfl
  have key : ∀ v : Nat, (v = 0 → nsh H ≤ 7) → (v = 1 → 7 < nsh H) → v < 2 → WP d 153 [.ref 42, .int (nI x)] (m1.uF 42 6 (nI v)) (fun v m7 => v = none ∧ K none ((m7.uF 42 15 ((m7.F 42 15) + (nI 1))).uF 42 16 (nI 1))) := by
    intro v hv0 hv1 hv
    have f2 : Fq [5, 6] [] m (m1.uF 42 6 (nI v)) := Fq.uF (f1.mono (by decide) (by decide)) (by decide) _
    refine c_153 (hL.fq f2) (hR.fq f2 (by decide) (by decide)) (by omega) (by omega) (fun m3 hR3 f3 => ⟨rfl, ?_⟩)
    have e15 : m3.F 42 15 = nI (nsh H) := by rw [f3.f (by decide), f2.f (by decide)]; exact h15
    rw [e15, nI_add]
    have f4 : Fq [15, 16] [] m3 ((m3.uF 42 15 (nI (nsh H + 1))).uF 42 16 (nI 1)) := Fq.uF (Fq.uF (Fq.refl _ _ _) (by decide) _) (by decide) _
    have f5 : Fq GW SWr m ((m3.uF 42 15 (nI (nsh H + 1))).uF 42 16 (nI 1)) := ((f2.mono (by decide) (by decide)).trans (f3.mono (by decide) (by decide))).trans (f4.mono (by decide) (by decide))
    have hT5 : RT ((m3.uF 42 15 (nI (nsh H + 1))).uF 42 16 (nI 1)) N r := ((hT.bad (v := nI v)).fq f3 (by decide) (by decide) (by decide) (by decide)).fq f4 (by decide) (by decide) (by decide) (by decide)
    have hC5 := ((hC.fq f2 (by decide) (by decide) (by decide)).fq f3 (by decide) (by decide) (by decide)).fq f4 (by decide) (by decide) (by decide)
    have hR5 := hR3.fq f4 (by decide) (by decide)
    have e6 : ((m3.uF 42 15 (nI (nsh H + 1))).uF 42 16 (nI 1)).F 42 6 = nI v := by rw [f4.f (by decide), f3.f (by decide)]; rfl
    by_cases hv2 : v = 0
    · subst hv2
      refine k1 (hv0 rfl) _ ⟨hL.fq f5, hT5, hC5, hR5, ?_, ?_, ?_, e6, ?_, fun z => by omega, ?_, ?_, hb3, he, ?_⟩ rfl f5
      · exact ((hP.fq f2 (by decide) (by decide) (by decide) (by decide)).fq f3 (by decide) (by decide) (by decide) (by decide)).fq f4 (by decide) (by decide) (by decide) (by decide)
      · rw [hsx]; rfl
      · rw [f4.f (by decide), f3.f (by decide), f2.f (by decide)]; exact h34
      · intro _; rw [f4.f (by decide), f3.f (by decide), f2.f (by decide)]; exact h38
      · rw [List.length_append, List.length_cons, List.length_nil]; omega
      · rw [List.length_append, List.length_cons, List.length_nil]; omega
      · have := hv0 rfl; rw [hsx]; omega
    · have hv3 : v = 1 := by omega
      subst hv3
      refine k2 (hv1 rfl) _ ⟨f5, e6, ⟨r, hT5⟩, cs.length, H.length + 1, by omega, hC5.1, ?_⟩
      rw [hR5.1, List.length_append]; rfl
  refine sg_155_30 _ ?_
  rw [if_pos g6]
  simp (disch := omega) only [g15, nIle]
  by_cases h7 : nsh H ≤ 7
  · rw [if_pos h7]
    rcases hx with ⟨z1, z2⟩ | ⟨z1, z2⟩
    · rw [if_pos z1]; subst z2; exact key 0 (fun _ => h7) (fun z => by omega) (by omega)
    · rw [if_neg (by rw [z1]; decide)]; subst z2; exact key 0 (fun _ => h7) (fun z => by omega) (by omega)
  · rw [if_neg h7]
    rcases hx with ⟨z1, z2⟩ | ⟨z1, z2⟩
    · rw [if_pos z1]; subst z2; exact key 1 (fun z => by omega) (fun _ => by omega) (by omega)
    · rw [if_neg (by rw [z1]; decide)]; subst z2; exact key 1 (fun z => by omega) (fun _ => by omega) (by omega)
theorem c_155 {k0 : Nat} (hX : RK m N b q cs (H ++ List.replicate k0 13) ps e bg 1) (h38 : m.F 42 38 = nI bg) (hH : topW H ≠ 13)
    (k1 : ∀ t r, q = t :: r → (t.1 = 18 ∨ t.1 = 91) → nsh (H ++ List.replicate k0 13) ≤ 7 → ∀ m', RK m' N b r cs (H ++ List.replicate k0 13 ++ [if t.1 = 18 then 13 else 16]) ps e bg 1 → m'.F 42 16 = nI 1 → Fq GW SWr m m' → K none m')
    (k2 : (hd q = 18 ∨ hd q = 91) → 7 < nsh (H ++ List.replicate k0 13) → ∀ m', RJk m N b m' → K none m')
    (k3 : hd q ≠ 18 → hd q ≠ 91 → ∀ c mq r, pCmp (8 - nsh (H ++ List.replicate k0 13)) q = some (c, mq, r) → ∀ m', RK m' N b r (cs ++ c ++ List.replicate k0 (opr 18)) H (psA H ps bg (if nsh (H ++ List.replicate k0 13) = 0 then mide cs.length mq else 0) (cs ++ c ++ List.replicate k0 (opr 18)).length) e bg 0 → m'.F 42 16 = nI 0 → Fq GW SWr m m' → K none m')
    (k4 : hd q ≠ 18 → hd q ≠ 91 → pCmp (8 - nsh (H ++ List.replicate k0 13)) q = none → ∀ m', RJk m N b m' → K none m') : WP (d + 6) 155 [.ref 42] m K := by
  have hX0 := hX
  obtain ⟨hL, hT0, hC, hR, hP, h15, h34, h6, hbg, hmd, hb1, hb2, hb3, he, hn8⟩ := hX
  have hN := hT0.2.2.2.1
  generalize hHH : H ++ List.replicate k0 13 = HH at *
  refine sp_155 ?_
  refine c_wrd_18 (by omega) ⟨_, rfl, ?_⟩
  refine c_takeWord (n := 18) (by decide) (by decide) hL hT0 (fun t r eq et m' a1 a2 => ⟨_, rfl, ?_⟩) (fun h18 => ⟨_, rfl, ?_⟩)
  · rw [if_neg (by decide)]
    subst eq
    refine c_155n hX0 h38 a1 a2 (by rw [List.length_cons]; omega) (Or.inr ⟨rfl, rfl⟩) (fun h m2 x => ?_) (fun h m2 j => k2 (Or.inl et) h m2 j)
    have := k1 t r rfl (Or.inl et) h m2
    rw [if_pos et] at this
    exact this x
  · rw [if_pos rfl]
    refine c_takeSign (c := 91) rfl hL hT0 (fun t r eq et m' a1 a2 => ⟨_, rfl, ?_⟩) (fun h91 => ⟨_, rfl, ?_⟩)
    · rw [if_neg (by decide)]
      subst eq
      refine c_155n hX0 h38 a1 a2 (by rw [List.length_cons]; omega) (Or.inl ⟨rfl, rfl⟩) (fun h m2 x => ?_) (fun h m2 j => k2 (Or.inr et) h m2 j)
      have := k1 t r rfl (Or.inr et) h m2
      rw [if_neg (by omega)] at this
      exact this x
    · rw [if_pos rfl]
      replace k3 := k3 h18 h91
      replace k4 := k4 h18 h91
      -- the bad ends
      have J1 : pCmp (8 - nsh HH) q = none → ∀ m' c q', RT m' N q' → m'.F 42 6 = nI 1 → m'.F 42 7 = nI c → c + HH.length ≤ b + 2 → Fq GW SWr m m' → m'.F 42 13 = nI HH.length → WH (d + 6) 155 229 [(0, .ref 42)] [] m' K := by
        intro hN m' c q' t1 t2 t3 t4 t5 t6
        refine sg_155_229 ?_
        rw [if_neg (by rw [t2]; decide)]
        refine sg_155_245 (k4 hN _ ⟨Fq.uF t5 (by decide) _, t2, ⟨q', t1.fq (Fq.uF (Fq.refl [16] [] _) (by decide) _) (by decide) (by decide) (by decide) (by decide)⟩, c, HH.length, t4, t3, t6⟩)
      have J2 : pCmp (8 - nsh HH) q = none → ∀ m' c q' x, RT m' N q' → m'.F 42 6 = nI 1 → m'.F 42 7 = nI c → c + HH.length ≤ b + 1 → Fq GW SWr m m' → m'.F 42 13 = nI HH.length → WP (d + 5) 145 [.ref 42, .int x, .int (nI 0)] m' (fun v m43 => v = none ∧ WH (d + 6) 155 229 [(0, .ref 42)] [] m43 K) := by
        intro hN m' c q' x t1 t2 t3 t4 t5 t6
        refine c_emitJ (c := c) (hL.fq t5) t3 (by omega) (fun m2 a1 a2 a3 f2 => ⟨rfl, J1 hN m2 (c + 1) q' (t1.fq f2 (by decide) (by decide) (by decide) (by decide)) ?_ a1 (by omega) (t5.trans (f2.mono (by decide) (by decide))) ?_⟩)
        · rw [f2.f (by decide)]; exact t2
        · rw [f2.f (by decide)]; exact t6
      have J3 : pCmp (8 - nsh HH) q = none → ∀ m' c q' x, RT m' N q' → m'.F 42 6 = nI 1 → m'.F 42 7 = nI c → c + HH.length ≤ b + 1 → Fq GW SWr m m' → m'.F 42 13 = nI HH.length → WP (d + 5) 151 [.ref 42] m' (fun v m42 => v = none ∧ WP (d + 5) 145 [.ref 42, .int x, .int (nI 0)] m42 (fun v m43 => v = none ∧ WH (d + 6) 155 229 [(0, .ref 42)] [] m43 K)) := by
        intro hN m' c q' x t1 t2 t3 t4 t5 t6
        refine c_151b t2 (fun m2 f2 => ⟨rfl, J2 hN m2 c q' x (t1.fq f2 (by decide) (by decide) (by decide) (by decide)) ?_ ?_ t4 (t5.trans (f2.mono (by decide) (by decide))) ?_⟩)
        · rw [f2.f (by decide)]; exact t2
        · rw [f2.f (by decide)]; exact t3
        · rw [f2.f (by decide)]; exact t6
      -- the good end
      have Y1 : ∀ c mq r, pCmp (8 - nsh HH) q = some (c, mq, r) → ∀ m', RT m' N r → RC m' (cs ++ c) → m'.F 42 6 = nI 0 → Fq [5, 6, 7, 10, 12, 16, 39] [46, 47, 48] m m' → m'.F 42 39 = ow (if nsh HH = 0 then mide cs.length mq else 0) → c.length + r.length ≤ q.length → WH (d + 6) 155 229 [(0, .ref 42)] [] m' K := by
        intro c mq r hc m' t1 t2 t3 t4 t5 t6
        have hlen := pCmp_len hc
        refine sg_155_229 ?_
        rw [if_pos t3]
        have f1 : Fq [16] [] m' (m'.uF 42 16 (nI 0)) := Fq.uF (Fq.refl _ _ _) (by decide) _
        have f2 : Fq [5, 6, 7, 10, 12, 16, 39] [46, 47, 48] m (m'.uF 42 16 (nI 0)) := t4.trans (f1.mono (by decide) (by decide))
        have hb4 : 2 * ps.length + 2 ≤ N := by omega
        refine sp_154 ?_
        have hR2 := hR.fq f2 (by decide) (by decide)
        have hP2 := hP.fq f2 (by decide) (by decide) (by decide) (by decide)
        rw [← hHH] at hR2
        refine c_154 (bg := bg) (md := if nsh HH = 0 then mide cs.length mq else 0) hH k0 _ (cs ++ c) (hL.fq f2) (t2.fq f1 (by decide) (by decide) (by decide)) hR2 hP2 (by rw [f2.f (by decide), hHH]; exact h15) ?_ (fun h0 => ⟨?_, ?_, by omega⟩) (fun m2 a1 a2 a3 a4 f3 => ⟨rfl, sg_155_245 (k3 c mq r hc m2 ⟨?_, ?_, a1, a2, a4, a3, ?_, ?_, ?_, ?_, ?_, ?_, hb3, he, ?_⟩ ?_ ?_)⟩)
        · rw [hHH, List.length_append]; omega
        · rw [f2.f (by decide)]; exact h38
        · exact t5
        · exact (hL.fq f2).fq f3
        · exact (t1.fq f1 (by decide) (by decide) (by decide) (by decide)).fq f3 (by decide) (by decide) (by decide) (by decide)
        · rw [f3.f (by decide), f2.f (by decide)]; exact h34
        · rw [f3.f (by decide)]; exact t3
        · intro _; rw [f3.f (by decide), f2.f (by decide)]; exact h38
        · intro _ hh
          have hne : nsh HH ≠ 0 := by rw [← hHH, nsh_app]; omega
          rw [if_neg hne] at t5
          rw [f3.f (by decide)]; exact t5
        · have e5 : HH.length = H.length + k0 := by rw [← hHH, List.length_append, List.length_replicate]
          simp only [List.length_append, List.length_replicate]; omega
        · have e5 : HH.length = H.length + k0 := by rw [← hHH, List.length_append, List.length_replicate]
          have e6 : (psA H ps bg (if nsh HH = 0 then mide cs.length mq else 0) (cs ++ c ++ List.replicate k0 (opr 18)).length).length ≤ ps.length + 1 := by
            unfold psA
            split
            · rw [List.length_append]; exact Nat.le_refl _
            · omega
          omega
        · rw [← hHH, nsh_app] at hn8; omega
        · rw [f3.f (by decide)]; rfl
        · exact (f2.mono (by decide) (by decide)).trans (f3.mono (by decide) (by decide))
      -- the second expression
      have Y2 : ∀ c1 t r (x : Nat) (w : Int32), pEx (8 - nsh HH) q = some (c1, t :: r) → t.1 ≠ 15 → (t.1 = 61 ∨ t.1 = 60 ∨ t.1 = 62) → x = rop t.1 → w = ow (if nsh HH = 0 then mide cs.length (if t.1 = 61 then some c1.length else none) else 0) → ∀ m', RT m' N (t :: r) → RC m' (cs ++ c1) → m'.F 42 6 = nI 0 → Fq GX SXr m m' → WP (d + 5) 151 [.ref 42] ((m'.uF 42 39 w).uF 42 5 ((m'.F 42 5) + (nI 1))) (fun v m42 => v = none ∧ WP (d + 5) 145 [.ref 42, .int (nI x), .int (nI 0)] m42 (fun v m43 => v = none ∧ WH (d + 6) 155 229 [(0, .ref 42)] [] m43 K)) := by
        intro c1 t r x w hc1 ht15 ht hx hw m' t1 t2 t3 t4
        have ec := pCmp_cons hc1
        rw [if_neg ht15, if_pos ht] at ec
        have hl1 := okP_ex _ _ _ _ hc1
        rw [List.length_cons] at hl1
        have h5 := t1.1
        rw [List.length_cons] at h5
        rw [h5, nI_add]
        have f1 : Fq [39] [] m' (m'.uF 42 39 w) := Fq.uF (Fq.refl _ _ _) (by decide) _
        have f2 : Fq [5, 39] [] m' ((m'.uF 42 39 w).uF 42 5 (nI (N - (r.length + 1) + 1))) := Fq.uF (f1.mono (by decide) (by decide)) (by decide) _
        have f3 : Fq [5, 6, 7, 10, 12, 16, 39] [46, 47, 48] m ((m'.uF 42 39 w).uF 42 5 (nI (N - (r.length + 1) + 1))) := (t4.mono (by decide) (by decide)).trans (f2.mono (by decide) (by decide))
        refine c_151 (o := nsh HH) (b := b - HH.length) (hL.fq f3) (t1.fq f1 (by decide) (by decide) (by decide) (by decide)).next (t2.fq f2 (by decide) (by decide) (by decide)) (by rw [f3.f (by decide)]; exact h15) hn8 t3 (by rw [List.length_append]; omega) (by omega) (fun c2 r2 e2 m2 u1 u2 u3 u4 => ⟨rfl, ?_⟩) (fun e2 m2 c2 q2 u1 u2 u3 u4 u5 => ⟨rfl, ?_⟩)
        · rw [e2] at ec
          dsimp only at ec
          have hl2 := okP_ex _ _ _ _ e2
          have f4 := f3.trans (u4.mono (by decide) (by decide))
          refine c_emit (x := opr t.1) (hL.fq f4) u2 (by simp only [List.length_append]; omega) (by rw [hx]; rfl) ?_ (fun m3 v1 f5 => ⟨rfl, ?_⟩)
          · rcases ht with z | z | z <;> rw [z] <;> rfl
          · refine Y1 _ _ _ ec m3 (u1.fq f5 (by decide) (by decide) (by decide) (by decide)) ?_ ?_ (f4.trans (f5.mono (by decide) (by decide))) ?_ ?_
            · simp only [List.append_assoc] at v1 ⊢; exact v1
            · rw [f5.f (by decide)]; exact u3
            · rw [f5.f (by decide), u4.f (by decide)]; exact hw
            · simp only [List.length_append, List.length_cons, List.length_nil]; omega
        · rw [e2] at ec
          dsimp only at ec
          have f4 := f3.trans (u5.mono (by decide) (by decide))
          refine J2 ec m2 c2 q2 _ u1 u2 u3 (by omega) (f4.mono (by decide) (by decide)) ?_
          rw [f4.f (by decide)]; exact hR.1
      refine c_151 (o := nsh HH) (b := b - HH.length) hL hT0 hC h15 hn8 h6 (by omega) (by omega) (fun c1 r1 e1 m1 u1 u2 u3 u4 => ⟨rfl, ?_⟩) (fun e1 m1 c1 q1 u1 u2 u3 u4 u5 => ⟨rfl, ?_⟩)
      · have hL1 := hL.fq u4
        have hl1 := okP_ex _ _ _ _ e1
        refine c_isSign (c := 61) rfl hL1 u1 ⟨_, rfl, ?_⟩
        simp only [bI_0]
        by_cases h61 : hd r1 = 61
        · rw [if_neg (fun z => z h61)]
          cases r1 with
          | nil => cases h61
          | cons t r =>
            have et : t.1 = 61 := h61
            have e15 : m1.F 42 15 = nI (nsh HH) := by rw [u4.f (by decide)]; exact h15
            by_cases h0 : nsh HH = 0
            · rw [if_pos (by rw [e15, h0])]
              refine Y2 c1 t r 9 (m1.F 42 7) e1 (by omega) (Or.inl et) (by rw [et]; rfl) ?_ m1 u1 u2 u3 u4
              rw [u2.1, if_pos h0, if_pos et, List.length_append]; rfl
            · have c0 : ¬ m1.F 42 15 = nI 0 := by rw [e15, nIeq (by omega) (by omega)]; exact h0
              rw [if_neg c0]
              refine Y2 c1 t r 9 (-1) e1 (by omega) (Or.inl et) (by rw [et]; rfl) ?_ m1 u1 u2 u3 u4
              rw [if_neg h0]; rfl
        · rw [if_pos h61]
          refine c_isSign (c := 60) rfl hL1 u1 ⟨_, rfl, ?_⟩
          simp only [bI_0]
          by_cases h60 : hd r1 = 60
          · rw [if_neg (fun z => z h60)]
            cases r1 with
            | nil => cases h60
            | cons t r =>
              have et : t.1 = 60 := h60
              refine Y2 c1 t r 10 (-1) e1 (by omega) (Or.inr (Or.inl et)) (by rw [et]; rfl) ?_ m1 u1 u2 u3 u4
              rw [if_neg (show ¬ t.1 = 61 by omega)]
              split <;> rfl
          · rw [if_pos h60]
            refine c_isSign (c := 62) rfl hL1 u1 ⟨_, rfl, ?_⟩
            simp only [bI_0]
            by_cases h62 : hd r1 = 62
            · rw [if_neg (fun z => z h62)]
              cases r1 with
              | nil => cases h62
              | cons t r =>
                have et : t.1 = 62 := h62
                refine Y2 c1 t r 11 (-1) e1 (by omega) (Or.inr (Or.inr et)) (by rw [et]; rfl) ?_ m1 u1 u2 u3 u4
                rw [if_neg (show ¬ t.1 = 61 by omega)]
                split <;> rfl
            · rw [if_pos h62, if_pos u3]
              have f1 : Fq [39] [] m1 (m1.uF 42 39 (-1)) := Fq.uF (Fq.refl _ _ _) (by decide) _
              have f2 : Fq [5, 6, 7, 10, 12, 16, 39] [46, 47, 48] m (m1.uF 42 39 (-1)) := (u4.mono (by decide) (by decide)).trans (f1.mono (by decide) (by decide))
              have hT2 := u1.fq f1 (by decide) (by decide) (by decide) (by decide)
              refine c_wrd_15 (by omega) ⟨_, rfl, ?_⟩
              refine c_takeWord (n := 15) (by decide) (by decide) (hL.fq f2) hT2 (fun t r eq et m3 a1 a2 => ⟨_, rfl, ?_⟩) (fun h15' => ⟨_, rfl, ?_⟩)
              · rw [if_neg (by decide)]
                subst eq
                have ec := pCmp_cons e1
                rw [if_pos et] at ec
                rw [List.length_cons] at hl1
                have f3 : Fq [5, 6] [] (m1.uF 42 39 (-1)) (m3.uF 42 6 (nI 0)) := Fq.uF (a2.mono (by decide) (by decide)) (by decide) _
                have f4 := f2.trans (f3.mono (by decide) (by decide))
                have hC4 : RC (m3.uF 42 6 (nI 0)) (cs ++ c1) := (u2.fq f1 (by decide) (by decide) (by decide)).fq f3 (by decide) (by decide) (by decide)
                refine c_emit (x := opr 31) (hL.fq f4) hC4 (by rw [List.length_append]; omega) rfl rfl (fun m4 v1 f5 => ⟨rfl, ?_⟩)
                refine Y1 _ _ _ ec m4 (a1.bad.fq f5 (by decide) (by decide) (by decide) (by decide)) ?_ ?_ (f4.trans (f5.mono (by decide) (by decide))) ?_ ?_
                · rw [List.append_assoc] at v1; exact v1
                · rw [f5.f (by decide)]; rfl
                · rw [f5.f (by decide), f3.f (by decide)]
                  split <;> rfl
                · simp only [List.length_append, List.length_cons, List.length_nil]; omega
              · rw [if_pos rfl]
                have f3 : Fq [5, 6] [] (m1.uF 42 39 (-1)) ((m1.uF 42 39 (-1)).uF 42 6 (nI 1)) := Fq.uF (Fq.refl _ _ _) (by decide) _
                have f4 := f2.trans (f3.mono (by decide) (by decide))
                refine J2 ?_ _ (cs ++ c1).length r1 _ hT2.bad rfl (u2.1) (by rw [List.length_append]; omega) (f4.mono (by decide) (by decide)) ?_
                · cases r1 with
                  | nil => exact pCmp_nil e1
                  | cons t r =>
                    have z1 : t.1 ≠ 61 := h61
                    have z2 : t.1 ≠ 60 := h60
                    have z3 : t.1 ≠ 62 := h62
                    have z4 : t.1 ≠ 15 := h15'
                    rw [pCmp_cons e1, if_neg z4, if_neg (by omega)]
                · rw [f4.f (by decide)]; exact hR.1
      · have ec := pCmp_none e1
        have hL1 := hL.fq u5
        have u13 : m1.F 42 13 = nI HH.length := by rw [u5.f (by decide)]; exact hR.1
        have nx : ∀ w, ∀ t r, q1 = t :: r → RT ((m1.uF 42 39 w).uF 42 5 ((m1.F 42 5) + (nI 1))) N r := by
          intro w t r eq
          subst eq
          have h5 := u1.1
          rw [List.length_cons] at h5
          rw [h5, nI_add]
          exact (u1.fq (Fq.uF (Fq.refl [39] [] _) (by decide) _) (by decide) (by decide) (by decide) (by decide)).next
        have fx : ∀ w v, Fq GW SWr m ((m1.uF 42 39 w).uF 42 5 v) := fun w v => Fq.uF (Fq.uF (u5.mono (by decide) (by decide)) (by decide) _) (by decide) _
        have step : ∀ w x c, hd q1 = c → c ≠ 0 → WP (d + 5) 151 [.ref 42] ((m1.uF 42 39 w).uF 42 5 ((m1.F 42 5) + (nI 1))) (fun v m42 => v = none ∧ WP (d + 5) 145 [.ref 42, .int x, .int (nI 0)] m42 (fun v m43 => v = none ∧ WH (d + 6) 155 229 [(0, .ref 42)] [] m43 K)) := by
          intro w x c hc hc0
          cases q1 with
          | nil => exact absurd hc.symm hc0
          | cons t r => exact J3 ec _ c1 r x (nx w t r rfl) u2 u3 (by omega) (fx _ _) u13
        refine c_isSign (c := 61) rfl hL1 u1 ⟨_, rfl, ?_⟩
        simp only [bI_0]
        by_cases h61 : hd q1 = 61
        · rw [if_neg (fun z => z h61)]
          split
          · exact step _ _ _ h61 (by decide)
          · exact step _ _ _ h61 (by decide)
        · rw [if_pos h61]
          refine c_isSign (c := 60) rfl hL1 u1 ⟨_, rfl, ?_⟩
          simp only [bI_0]
          by_cases h60 : hd q1 = 60
          · rw [if_neg (fun z => z h60)]
            exact step _ _ _ h60 (by decide)
          · rw [if_pos h60]
            refine c_isSign (c := 62) rfl hL1 u1 ⟨_, rfl, ?_⟩
            simp only [bI_0]
            by_cases h62 : hd q1 = 62
            · rw [if_neg (fun z => z h62)]
              exact step _ _ _ h62 (by decide)
            · rw [if_pos h62, if_neg (by rw [u2]; decide)]
              refine J2 ec _ c1 q1 _ ?_ rfl u3 (by omega) ?_ u13
              · exact (u1.fq (Fq.uF (Fq.refl [39] [] _) (by decide) _) (by decide) (by decide) (by decide) (by decide)).bad
              · exact Fq.uF (Fq.uF (u5.mono (by decide) (by decide)) (by decide) _) (by decide) _
end R51
