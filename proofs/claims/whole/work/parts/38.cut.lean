/-! LEXING, the class: one token, the whole text (by program in part, wip/whole/gen38.py) -/
theorem c_ix {d : Nat} {m : Mm} {K : Option Value → Mm → Prop} {c : Nat} (hd : 10 ≤ d) (h1 : 32 ≤ c) (h2 : c ≤ 126) (k1 : isS c = true → ∀ x : Int32, ¬ x < nI 0 → K (some (.int x)) m) (k2 : isS c = false → K (some (.int (-1))) m) : WP d 200 [.float 31, .int (nI c)] m K := by
  refine WP.up (d := 10) ?_ hd
  rcases (by omega : c = 32 ∨ c = 33 ∨ c = 34 ∨ c = 35 ∨ c = 36 ∨ c = 37 ∨ c = 38 ∨ c = 39 ∨ c = 40 ∨ c = 41 ∨ c = 42 ∨ c = 43 ∨ c = 44 ∨ c = 45 ∨ c = 46 ∨ c = 47 ∨ c = 48 ∨ c = 49 ∨ c = 50 ∨ c = 51 ∨ c = 52 ∨ c = 53 ∨ c = 54 ∨ c = 55 ∨ c = 56 ∨ c = 57 ∨ c = 58 ∨ c = 59 ∨ c = 60 ∨ c = 61 ∨ c = 62 ∨ c = 63 ∨ c = 64 ∨ c = 65 ∨ c = 66 ∨ c = 67 ∨ c = 68 ∨ c = 69 ∨ c = 70 ∨ c = 71 ∨ c = 72 ∨ c = 73 ∨ c = 74 ∨ c = 75 ∨ c = 76 ∨ c = 77 ∨ c = 78 ∨ c = 79 ∨ c = 80 ∨ c = 81 ∨ c = 82 ∨ c = 83 ∨ c = 84 ∨ c = 85 ∨ c = 86 ∨ c = 87 ∨ c = 88 ∨ c = 89 ∨ c = 90 ∨ c = 91 ∨ c = 92 ∨ c = 93 ∨ c = 94 ∨ c = 95 ∨ c = 96 ∨ c = 97 ∨ c = 98 ∨ c = 99 ∨ c = 100 ∨ c = 101 ∨ c = 102 ∨ c = 103 ∨ c = 104 ∨ c = 105 ∨ c = 106 ∨ c = 107 ∨ c = 108 ∨ c = 109 ∨ c = 110 ∨ c = 111 ∨ c = 112 ∨ c = 113 ∨ c = 114 ∨ c = 115 ∨ c = 116 ∨ c = 117 ∨ c = 118 ∨ c = 119 ∨ c = 120 ∨ c = 121 ∨ c = 122 ∨ c = 123 ∨ c = 124 ∨ c = 125 ∨ c = 126) with rfl | rfl | rfl | rfl | rfl | rfl | rfl | rfl | rfl | rfl | rfl | rfl | rfl | rfl | rfl | rfl | rfl | rfl | rfl | rfl | rfl | rfl | rfl | rfl | rfl | rfl | rfl | rfl | rfl | rfl | rfl | rfl | rfl | rfl | rfl | rfl | rfl | rfl | rfl | rfl | rfl | rfl | rfl | rfl | rfl | rfl | rfl | rfl | rfl | rfl | rfl | rfl | rfl | rfl | rfl | rfl | rfl | rfl | rfl | rfl | rfl | rfl | rfl | rfl | rfl | rfl | rfl | rfl | rfl | rfl | rfl | rfl | rfl | rfl | rfl | rfl | rfl | rfl | rfl | rfl | rfl | rfl | rfl | rfl | rfl | rfl | rfl | rfl | rfl | rfl | rfl | rfl | rfl | rfl | rfl
  · exact WP_run ⟨300, ixf_32 (hp m)⟩ (k2 rfl)
  · exact WP_run ⟨300, ixf_33 (hp m)⟩ (k2 rfl)
  · exact WP_run ⟨300, ixf_34 (hp m)⟩ (k2 rfl)
  · exact WP_run ⟨300, ixf_35 (hp m)⟩ (k2 rfl)
  · exact WP_run ⟨300, ixf_36 (hp m)⟩ (k2 rfl)
  · exact WP_run ⟨300, ixf_37 (hp m)⟩ (k2 rfl)
  · exact WP_run ⟨300, ixf_38 (hp m)⟩ (k2 rfl)
  · exact WP_run ⟨300, ixf_39 (hp m)⟩ (k2 rfl)
  · exact WP_run ⟨300, ixf_40 (hp m)⟩ (k1 rfl _ (by decide))
  · exact WP_run ⟨300, ixf_41 (hp m)⟩ (k1 rfl _ (by decide))
  · exact WP_run ⟨300, ixf_42 (hp m)⟩ (k1 rfl _ (by decide))
  · exact WP_run ⟨300, ixf_43 (hp m)⟩ (k1 rfl _ (by decide))
  · exact WP_run ⟨300, ixf_44 (hp m)⟩ (k1 rfl _ (by decide))
  · exact WP_run ⟨300, ixf_45 (hp m)⟩ (k1 rfl _ (by decide))
  · exact WP_run ⟨300, ixf_46 (hp m)⟩ (k1 rfl _ (by decide))
  · exact WP_run ⟨300, ixf_47 (hp m)⟩ (k1 rfl _ (by decide))
  · exact WP_run ⟨300, ixf_48 (hp m)⟩ (k2 rfl)
  · exact WP_run ⟨300, ixf_49 (hp m)⟩ (k2 rfl)
  · exact WP_run ⟨300, ixf_50 (hp m)⟩ (k2 rfl)
  · exact WP_run ⟨300, ixf_51 (hp m)⟩ (k2 rfl)
  · exact WP_run ⟨300, ixf_52 (hp m)⟩ (k2 rfl)
  · exact WP_run ⟨300, ixf_53 (hp m)⟩ (k2 rfl)
  · exact WP_run ⟨300, ixf_54 (hp m)⟩ (k2 rfl)
  · exact WP_run ⟨300, ixf_55 (hp m)⟩ (k2 rfl)
  · exact WP_run ⟨300, ixf_56 (hp m)⟩ (k2 rfl)
  · exact WP_run ⟨300, ixf_57 (hp m)⟩ (k2 rfl)
  · exact WP_run ⟨300, ixf_58 (hp m)⟩ (k2 rfl)
  · exact WP_run ⟨300, ixf_59 (hp m)⟩ (k2 rfl)
  · exact WP_run ⟨300, ixf_60 (hp m)⟩ (k1 rfl _ (by decide))
  · exact WP_run ⟨300, ixf_61 (hp m)⟩ (k1 rfl _ (by decide))
  · exact WP_run ⟨300, ixf_62 (hp m)⟩ (k1 rfl _ (by decide))
  · exact WP_run ⟨300, ixf_63 (hp m)⟩ (k2 rfl)
  · exact WP_run ⟨300, ixf_64 (hp m)⟩ (k2 rfl)
  · exact WP_run ⟨300, ixf_65 (hp m)⟩ (k2 rfl)
  · exact WP_run ⟨300, ixf_66 (hp m)⟩ (k2 rfl)
  · exact WP_run ⟨300, ixf_67 (hp m)⟩ (k2 rfl)
  · exact WP_run ⟨300, ixf_68 (hp m)⟩ (k2 rfl)
  · exact WP_run ⟨300, ixf_69 (hp m)⟩ (k2 rfl)
  · exact WP_run ⟨300, ixf_70 (hp m)⟩ (k2 rfl)
  · exact WP_run ⟨300, ixf_71 (hp m)⟩ (k2 rfl)
  · exact WP_run ⟨300, ixf_72 (hp m)⟩ (k2 rfl)
  · exact WP_run ⟨300, ixf_73 (hp m)⟩ (k2 rfl)
  · exact WP_run ⟨300, ixf_74 (hp m)⟩ (k2 rfl)
  · exact WP_run ⟨300, ixf_75 (hp m)⟩ (k2 rfl)
  · exact WP_run ⟨300, ixf_76 (hp m)⟩ (k2 rfl)
  · exact WP_run ⟨300, ixf_77 (hp m)⟩ (k2 rfl)
  · exact WP_run ⟨300, ixf_78 (hp m)⟩ (k2 rfl)
  · exact WP_run ⟨300, ixf_79 (hp m)⟩ (k2 rfl)
  · exact WP_run ⟨300, ixf_80 (hp m)⟩ (k2 rfl)
  · exact WP_run ⟨300, ixf_81 (hp m)⟩ (k2 rfl)
  · exact WP_run ⟨300, ixf_82 (hp m)⟩ (k2 rfl)
  · exact WP_run ⟨300, ixf_83 (hp m)⟩ (k2 rfl)
  · exact WP_run ⟨300, ixf_84 (hp m)⟩ (k2 rfl)
  · exact WP_run ⟨300, ixf_85 (hp m)⟩ (k2 rfl)
  · exact WP_run ⟨300, ixf_86 (hp m)⟩ (k2 rfl)
  · exact WP_run ⟨300, ixf_87 (hp m)⟩ (k2 rfl)
  · exact WP_run ⟨300, ixf_88 (hp m)⟩ (k2 rfl)
  · exact WP_run ⟨300, ixf_89 (hp m)⟩ (k2 rfl)
  · exact WP_run ⟨300, ixf_90 (hp m)⟩ (k2 rfl)
  · exact WP_run ⟨300, ixf_91 (hp m)⟩ (k1 rfl _ (by decide))
  · exact WP_run ⟨300, ixf_92 (hp m)⟩ (k2 rfl)
  · exact WP_run ⟨300, ixf_93 (hp m)⟩ (k1 rfl _ (by decide))
  · exact WP_run ⟨300, ixf_94 (hp m)⟩ (k2 rfl)
  · exact WP_run ⟨300, ixf_95 (hp m)⟩ (k2 rfl)
  · exact WP_run ⟨300, ixf_96 (hp m)⟩ (k2 rfl)
  · exact WP_run ⟨300, ixf_97 (hp m)⟩ (k2 rfl)
  · exact WP_run ⟨300, ixf_98 (hp m)⟩ (k2 rfl)
  · exact WP_run ⟨300, ixf_99 (hp m)⟩ (k2 rfl)
  · exact WP_run ⟨300, ixf_100 (hp m)⟩ (k2 rfl)
  · exact WP_run ⟨300, ixf_101 (hp m)⟩ (k2 rfl)
  · exact WP_run ⟨300, ixf_102 (hp m)⟩ (k2 rfl)
  · exact WP_run ⟨300, ixf_103 (hp m)⟩ (k2 rfl)
  · exact WP_run ⟨300, ixf_104 (hp m)⟩ (k2 rfl)
  · exact WP_run ⟨300, ixf_105 (hp m)⟩ (k2 rfl)
  · exact WP_run ⟨300, ixf_106 (hp m)⟩ (k2 rfl)
  · exact WP_run ⟨300, ixf_107 (hp m)⟩ (k2 rfl)
  · exact WP_run ⟨300, ixf_108 (hp m)⟩ (k2 rfl)
  · exact WP_run ⟨300, ixf_109 (hp m)⟩ (k2 rfl)
  · exact WP_run ⟨300, ixf_110 (hp m)⟩ (k2 rfl)
  · exact WP_run ⟨300, ixf_111 (hp m)⟩ (k2 rfl)
  · exact WP_run ⟨300, ixf_112 (hp m)⟩ (k2 rfl)
  · exact WP_run ⟨300, ixf_113 (hp m)⟩ (k2 rfl)
  · exact WP_run ⟨300, ixf_114 (hp m)⟩ (k2 rfl)
  · exact WP_run ⟨300, ixf_115 (hp m)⟩ (k2 rfl)
  · exact WP_run ⟨300, ixf_116 (hp m)⟩ (k2 rfl)
  · exact WP_run ⟨300, ixf_117 (hp m)⟩ (k2 rfl)
  · exact WP_run ⟨300, ixf_118 (hp m)⟩ (k2 rfl)
  · exact WP_run ⟨300, ixf_119 (hp m)⟩ (k2 rfl)
  · exact WP_run ⟨300, ixf_120 (hp m)⟩ (k2 rfl)
  · exact WP_run ⟨300, ixf_121 (hp m)⟩ (k2 rfl)
  · exact WP_run ⟨300, ixf_122 (hp m)⟩ (k2 rfl)
  · exact WP_run ⟨300, ixf_123 (hp m)⟩ (k2 rfl)
  · exact WP_run ⟨300, ixf_124 (hp m)⟩ (k2 rfl)
  · exact WP_run ⟨300, ixf_125 (hp m)⟩ (k2 rfl)
  · exact WP_run ⟨300, ixf_126 (hp m)⟩ (k2 rfl)
theorem KPost.imp {m : Mm} {ts : List Tk} {x : Option Tk} {K K' : Option Value → Mm → Prop} (h : KPost m ts x K) (h1 : ∀ m', K (some (.int (nI 1))) m' → K' (some (.int (nI 1))) m') (h0 : ∀ m', K (some (.int (nI 0))) m' → K' (some (.int (nI 0))) m') : KPost m ts x K' := by
  cases x with
  | none => exact h0 _ h
  | some t => exact fun m' a b => h1 m' (h m' a b)
theorem c_76 {d : Nat} {m : Mm} {K : Option Value → Mm → Prop} {cl r : List Nat} {ts : List Tk} {f c : Nat} (hd : 12 ≤ d) (hL : Len m) (hX : TX 1 m cl) (hB : TB m ts) (hl : ts.length < 80) (hs : cl.drop f = c :: r) (k : KPost m ts (tokC (c :: r)) K) : WP (d + 1) 76 [.ref 26, .ref 1, .int (nI f), .int (nI cl.length)] m K := by
  have l1 : (m.A 1).length = 80 := hL.a (by decide) rfl
  have hcl := hX.1
  obtain ⟨hf, hcf, _, _⟩ := drop_cons hs
  obtain ⟨b1, b2, b3⟩ := hX.at hs
  obtain ⟨d, rfl⟩ : ∃ d0, d = d0 + 1 := ⟨d - 1, by omega⟩
  refine sp_76 _ _ ?_
  simp (disch := omega) only [ix_nI, l1, b1]
  refine ⟨ok_nI (by omega) (by decide), c_let (by omega) ⟨_, rfl, ?_⟩⟩
  simp only [bI_0]
  cases hcL : isL c with
  | true =>
    rw [if_neg (by decide)]
    exact c_78 (by omega) hL hX hB hl hs hcL (k.imp (fun m' h => ⟨_, rfl, isB_1, h⟩) (fun m' h => ⟨_, rfl, isB_0, h⟩))
  | false =>
    rw [if_pos (by decide)]
    refine c_dig (by omega) ⟨_, rfl, ?_⟩
    simp only [bI_0]
    cases hcD : isD c with
    | true =>
      rw [if_neg (by decide)]
      refine c_77 hL hX hB hl hs (by omega) ?_
      have e0 : tokC (c :: r) = if ((c :: r).takeWhile isD).length ≤ 9 then some (2, dvl 0 ((c :: r).takeWhile isD)) else none := by
        have a0 : tokA (c :: r) = if ((c :: r).takeWhile isD).length ≤ 9 then some (2, dvl 0 ((c :: r).takeWhile isD)) else none := by
          unfold tokA
          simp only [hcL, hcD, Bool.false_eq_true, if_false, if_true]
        unfold tokC
        rw [a0]
        by_cases h9 : ((c :: r).takeWhile isD).length ≤ 9
        · rw [if_pos h9]; rfl
        · rw [if_neg h9]
      rw [← e0]
      exact k.imp (fun m' h => ⟨_, rfl, isB_1, h⟩) (fun m' h => ⟨_, rfl, isB_0, h⟩)
    | false =>
      rw [if_pos (by decide)]
      simp (disch := omega) only [nIlt]
      have S : ¬ (65 ≤ c ∧ c ≤ 67) → WP (d + 1) 200 [.float 31, .int (nI c)] m (fun v m16 => ∃ w17, v = some (.int w17) ∧ (if w17 < (nI 0) then K (some (.int (nI 0))) m16 else WP (d + 1) 79 [.ref 26, .int (nI c), .int (nI 0)] m16 (fun v m19 => ∃ w20, v = some (.int w20) ∧ (if w20 = (nI 0) then K (some (.int (nI 0))) m19 else K (some (.int (nI 1))) m19)))) := by
        intro hAC
        have e0 : tokC (c :: r) = if isS c = true then some (c, 0) else none := by
          have a0 : tokA (c :: r) = if isS c = true then some (c, 0) else none := by
            unfold tokA
            simp only [hcL, hcD, Bool.false_eq_true, if_false, if_neg hAC]
          unfold tokC
          rw [a0]
          by_cases hS : isS c = true
          · rw [if_pos hS]
            exact if_neg (show c ≠ 19 by omega)
          · rw [if_neg hS]
        rw [e0] at k
        refine c_ix (by omega) b2 b3 (fun hS x hx => ⟨_, rfl, ?_⟩) (fun hS => ⟨_, rfl, ?_⟩)
        · rw [if_neg hx]
          rw [hS, if_pos rfl] at k
          refine c_keep hL hB hl (by omega) (by omega) (by decide) (fun m' g1 g2 => ⟨_, rfl, ?_⟩)
          rw [if_neg (by decide)]
          exact k m' g1 g2
        · rw [if_pos (by decide)]
          rw [hS, if_neg (by decide)] at k
          exact k
      split
      · exact S (by omega)
      · split
        · exact S (by omega)
        · next q1 q2 =>
          have e0 : tokC (c :: r) = some (1, c - 65) := by
            unfold tokC tokA
            simp only [hcL, hcD, if_pos (show 65 ≤ c ∧ c ≤ 67 by omega)]
            rfl
          rw [e0] at k
          rw [nIsub (by omega)]
          exact c_keep hL hB hl (by decide) (by decide) (by omega) (fun m' g1 g2 => ⟨_, rfl, isB_1, k m' g1 g2⟩)
/-- behind the cutting -/
def LPost (m : Mm) (ts : List Tk) (x : Option (List Tk)) (K : Option Value → Mm → Prop) : Prop := match x with
  | some us => ∀ m', TB m' (ts ++ us) → Fr SK m m' → K (some (.int (nI 1))) m'
  | none => ∀ m', Fr SK m m' → K (some (.int (nI 0))) m'
theorem LPost.fr {m m1 : Mm} {ts : List Tk} {x : Option (List Tk)} {K : Option Value → Mm → Prop} (h : LPost m ts x K) (k : Fr SK m m1) : LPost m1 ts x K := by
  cases x with
  | none => exact fun m' f => h m' (k.trans f)
  | some us => exact fun m' a f => h m' a (k.trans f)
theorem TX.fr {q : Nat} {S : List Nat} {m m1 : Mm} {cl : List Nat} (h : TX q m cl) (k : Fr S m m1) (h1 : q ∉ S) : TX q m1 cl := by
  refine ⟨h.1, ?_, h.2.2⟩
  rw [k.a h1]; exact h.2.1
def prv (cl : List Nat) (i : Nat) : Nat := match i with | 0 => 32 | n + 1 => cl.getD n 0
theorem lp_69 {d : Nat} (hd : 13 ≤ d) {cl : List Nat} {K : Option Value → Mm → Prop} : ∀ (s : List Nat) (i : Nat) (m : Mm) (ts : List Tk), cl.drop i = s → i ≤ cl.length → Len m → TX 1 m cl → TB m ts → ts.length ≤ i → LPost m ts (lxW tokC (prv cl i) s) K → WH (d + 1) 69 12 [(0, .ref 26), (1, .ref 1), (2, .int (nI cl.length)), (3, .int (nI i))] [] m K := by
  intro s
  induction s with
  | nil =>
    intro i m ts h1 h2 hL hX hB hl k
    have hcl := hX.1
    have h3 := drop_nil h1 h2
    refine sg_69_12 _ _ ?_
    simp (disch := omega) only [nIle]
    rw [if_pos (by omega)]
    exact k m (by rw [List.append_nil]; exact hB) (Fr.refl _ m)
  | cons c r ih =>
    intro i m ts h1 h2 hL hX hB hl k
    have hcl := hX.1
    have l1 : (m.A 1).length = 80 := hL.a (by decide) rfl
    obtain ⟨g1, g2, g3, g4⟩ := drop_cons h1
    obtain ⟨b1, b2, b3⟩ := hX.at h1
    obtain ⟨d, rfl⟩ : ∃ d0, d = d0 + 1 := ⟨d - 1, by omega⟩
    refine sg_69_12 _ _ ?_
    simp (disch := omega) only [nIle, ix_nI, l1, b1, nIeq, nI_add]
    rw [if_neg (by omega)]
    refine ⟨ok_nI (by omega) (by decide), ?_⟩
    have hpv : prv cl (i + 1) = c := g2
    unfold lxW at k
    by_cases h32 : c = 32
    · rw [if_pos h32]
      rw [if_pos (Or.inl h32)] at k
      refine ih (i + 1) m ts g3 (by omega) hL hX hB (by omega) ?_
      rw [hpv]; exact k
    · rw [if_neg h32]
      have G : WP (d + 1) 75 [.ref 1, .int (nI i)] m (fun v m' => v = some (.int (bI (goes (prv cl i) c = true))) ∧ m' = m) := by
        cases i with
        | zero =>
          refine sp_75 _ ?_
          rw [if_pos rfl]
          refine ⟨?_, rfl⟩
          rw [bI_f]
          unfold goes prv
          rw [show isL 32 = false from rfl, show isD 32 = false from rfl, Bool.and_false, Bool.and_false]
          decide
        | succ n => exact c_goes hL hX h1 rfl ⟨rfl, rfl⟩
      refine G.mono (fun v m' hq => ?_)
      obtain ⟨rfl, rfl⟩ := hq
      refine ⟨_, rfl, ?_⟩
      simp only [bI_0]
      by_cases hg : goes (prv cl i) c = true
      · rw [if_neg (fun z => z hg)]
        rw [if_pos (Or.inr hg)] at k
        refine ih (i + 1) m' ts g3 (by omega) hL hX hB (by omega) ?_
        rw [hpv]; exact k
      · rw [if_pos hg]
        rw [if_neg (fun z => by rcases z with z | z; exact h32 z; exact hg z)] at k
        refine c_76 (by omega) hL hX hB (by omega) h1 ?_
        cases hx : tokC (c :: r) with
        | none =>
          rw [hx] at k
          refine ⟨_, rfl, ?_⟩
          rw [if_pos rfl]
          exact k m' (Fr.refl _ m')
        | some t =>
          rw [hx] at k
          intro m1 hB1 f1
          refine ⟨_, rfl, ?_⟩
          rw [if_neg (by decide)]
          refine ih (i + 1) m1 (ts ++ [t]) g3 (by omega) (hL.fr f1) (hX.fr f1 (by decide)) hB1 (by rw [List.length_append]; exact Nat.succ_le_succ hl) ?_
          rw [hpv]
          dsimp only at k
          cases hy : lxW tokC c r with
          | none =>
            rw [hy] at k
            exact fun m2 f2 => k m2 (f1.trans f2)
          | some us =>
            rw [hy] at k
            intro m2 hB2 f2
            rw [List.append_assoc] at hB2
            exact k m2 hB2 (f1.trans f2)
theorem c_69 {d : Nat} (hd : 13 ≤ d) {m : Mm} {K : Option Value → Mm → Prop} {cl : List Nat} (hL : Len m) (hX : TX 1 m cl) (k : LPost m [] (lxW tokC 32 cl) K) : WP (d + 1) 69 [.ref 26, .ref 1, .int (nI cl.length)] m K := by
  refine sp_69 _ ?_
  have f1 : Fr SK m ((m.uF 26 2 (nI 0)).uF 26 3 (nI 0)) := Fr.uF (Fr.uF (Fr.refl _ m) (by decide) _ _) (by decide) _ _
  exact lp_69 hd cl 0 _ [] rfl (Nat.zero_le _) (hL.fr f1) (hX.fr f1 (by decide)) ⟨rfl, rfl, Nat.zero_le _, fun i hi => absurd hi (Nat.not_lt_zero i)⟩ (Nat.le_refl _) (k.fr f1)
/-! the beginning: nothing is noted yet -/
def sc0 : Sc := (fun f => 0, [])
def SB : List Nat := [12, 13, 14, 15, 16, 17, 18, 19, 20, 21, 25, 26, 27, 28]
/-- the whole reading: tokens, statement, nothing behind -/
def parse (cl : List Nat) : Option St := match lxW tokC 32 cl with
  | some ts => (match sWhole ((ts, [], []), sc0) with
    | some s => if hd s.1.1 = 0 then some s else none
    | none => none)
  | none => none
theorem c_84 {d : Nat} (hd : 14 ≤ d) {m : Mm} {K : Option Value → Mm → Prop} {cl : List Nat} (hL : Len m) (hX : TX 1 m cl) (k : match lxW tokC 32 cl with
    | some ts => ∀ m', R4 m' ts.length ((ts, [], []), sc0) → Fr SB m m' → K (some (.int (nI 1))) m'
    | none => ∀ m', Fr SB m m' → K (some (.int (nI 0))) m') : WP (d + 1) 84 [.ref 25, .ref 1, .int (nI cl.length)] m K := by
  obtain ⟨d, rfl⟩ : ∃ d0, d = d0 + 1 := ⟨d - 1, by omega⟩
  refine sp_84 _ ?_
  refine sp_59 ⟨rfl, ?_⟩
  refine sp_45 ⟨rfl, ?_⟩
  generalize hm1 : ((((((((((((((m.uF 12 4 (nI 0)).uF 12 5 (nI 0)).uF 12 6 (-1)).uF 12 7 (nI 0)).uF 12 8 (nI 0)).uF 12 9 (nI 0)).uF 12 10 (nI 0)).uF 12 11 (nI 0)).uF 12 12 (nI 0)).uF 12 13 (nI 0)).uF 12 14 (nI 0)).uF 12 15 (nI 2147483647)).uF 12 16 (nI 0)).uF 17 5 (nI 0)) = m1
  have f1 : Fr SB m m1 := by
    subst hm1
    iterate 14 refine Fr.uF ?_ (by decide) _ _
    exact Fr.refl _ m
  have hS : SR m1 sc0 := by
    subst hm1
    refine ⟨fun f hf => ?_, rfl, fun i hi => absurd hi (Nat.not_lt_zero i)⟩
    unfold sF at hf
    simp only [Bool.or_eq_true, beq_iff_eq] at hf
    rcases hf with ((((((((((rfl | rfl) | rfl) | rfl) | rfl) | rfl) | rfl) | rfl) | rfl) | rfl) | rfl) <;> rfl
  have hC : CD m1 [] := by
    subst hm1
    exact ⟨rfl, by decide, fun i hi => absurd hi (Nat.not_lt_zero i)⟩
  have hP : PA m1 [] := by
    subst hm1
    exact ⟨rfl, fun i hi => absurd hi (Nat.not_lt_zero i)⟩
  refine c_69 (by omega) (hL.fr f1) (hX.fr f1 (by decide)) ?_
  cases hx : lxW tokC 32 cl with
  | none =>
    rw [hx] at k
    exact fun m2 f2 => ⟨_, rfl, isB_0, k m2 (f1.trans (f2.mono (by decide)))⟩
  | some ts =>
    rw [hx] at k
    intro m2 hB2 f2
    refine ⟨_, rfl, isB_1, k m2 ⟨⟨(hL.fr f1).fr f2, TB.tn hB2, hC.fr f2 (by decide) (by decide) (by decide) (by decide), hP.fr f2 (by decide) (by decide) (by decide) (by decide), by show 0 + ts.length ≤ _; omega, by show 0 + ts.length ≤ _; omega⟩, hS.fr f2 (by decide) (F12.fr f2 (by decide)), by show 0 + ts.length ≤ _; omega⟩ (f1.trans (f2.mono (by decide)))⟩
