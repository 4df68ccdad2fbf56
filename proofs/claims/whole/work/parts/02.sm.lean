/-! THE SMALL MACHINE: an interpreter of the bytecode over a short heap, and (next parts) that the machine itself goes with it. A reference k stands for the cell number k that was made since the law began (address z + k); a float stands for the law's script. -/
abbrev sm_A : Type := List Int32 ⊕ List Int64 ⊕ List (Option Nat)
abbrev sm_E : Type := (Nat × sm_A) ⊕ (Nat × List Value)
/-- the law's script: its length, its ints -/
abbrev sm_X : Type := Option (Nat × (Nat → Int32))
abbrev sm_H : Type := List sm_E
abbrev sm_L : Type := List (Nat × Value)
abbrev sm_O : Type := Option (Option Value × sm_H)
def sm_rv (z : Nat) (b : UInt32 → Option Nat) : Value → Value
  | .ref k => .ref (z + k)
  | .float u => va_rf (b u)
  | v => v
/-- a float stands for what lay there before: 0 the law's script; 2 i + 1 the text i, 2 i + 2 its bytes; 1000 a formatter that nobody asks -/
def sm_sK (u : UInt32) : Option Nat := bif Nat.beq (u.toNat % 2) 1 && Nat.blt ((u.toNat - 1) / 2) sm_nS then some ((u.toNat - 1) / 2) else none
def sm_sV (u : UInt32) : Option Nat := bif Nat.beq (u.toNat % 2) 0 && Nat.blt 0 u.toNat && Nat.blt ((u.toNat - 2) / 2) sm_nS then some ((u.toNat - 2) / 2) else none
def sm_ia (z : Nat) : sm_A → vp_A
  | .inl f => (f.length, .inl (fun j => f.getD j 0))
  | .inr (.inl f) => (f.length, .inr (.inl (fun j => f.getD j 0)))
  | .inr (.inr f) => (f.length, .inr (.inr (.inr (.inr (fun j => (f.getD j none).map (fun k => z + k))))))
def sm_al : sm_A → Nat
  | .inl f => f.length
  | .inr (.inl f) => f.length
  | .inr (.inr f) => f.length
def sm_ic (z : Nat) (b : UInt32 → Option Nat) (cA : Nat → ClassId) : sm_E → va_E
  | .inl (t, x) => .inl (cA t, sm_ia z x)
  | .inr (ci, fs) => .inr (ci, fs.map (sm_rv z b))
def sm_sz : sm_E → Nat
  | .inl (_, x) => sm_al x
  | .inr (_, fs) => fs.length
def sm_ss (h : sm_H) : Nat := (h.map sm_sz).sum
def sm_lk : sm_L → Nat → Option Value
  | [], _ => none
  | q :: r, i => bif Nat.beq q.1 i then some q.2 else sm_lk r i
def sm_s1 (lv : sm_L) (i : Nat) (v : Value) : sm_L := (i, v) :: lv.filter (fun q => !(q.1 == i) && !(q.1 + 1 == i && q.2.category == 2))
def sm_s2 (lv : sm_L) (i : Nat) (v : Value) : sm_L := (i, v) :: lv.filter (fun q => !(q.1 == i) && (!(q.1 == i + 1) && !(q.1 + 1 == i && q.2.category == 2)))
def sm_find : List sm_row → Nat → Option (Instr × Nat × Nat)
  | [], _ => none
  | r :: rs, pc => bif Nat.beq r.1 pc then some r.2 else sm_find rs pc
def sm_ln : Instr → Nat
  | .bipush _ | .ldc _ | .iload _ | .lload _ | .aload _ | .istore _ | .lstore _ | .astore _ | .newarray _ => 2
  | .sipush _ | .getstatic _ | .ldc2_w _ | .iinc _ _ | .ifCond _ _ | .if_icmp _ _ | .goto _ | .getfield _ | .putfield _ | .new _ | .anewarray _ | .invokevirtual _ | .invokespecial _ | .invokestatic _ => 3
  | _ => 1
def sm_i {α : Type} (st : List Value) (f : Int32 → List Value → Option α) : Option α := match st with
  | .int x :: r => f x r
  | _ => none
def sm_ii {α : Type} (st : List Value) (f : Int32 → Int32 → List Value → Option α) : Option α := match st with
  | .int y :: .int x :: r => f x y r
  | _ => none
def sm_l {α : Type} (st : List Value) (f : Int64 → List Value → Option α) : Option α := match st with
  | .long x :: r => f x r
  | _ => none
def sm_ll {α : Type} (st : List Value) (f : Int64 → Int64 → List Value → Option α) : Option α := match st with
  | .long y :: .long x :: r => f x y r
  | _ => none
def sm_li {α : Type} (st : List Value) (f : Int64 → Int32 → List Value → Option α) : Option α := match st with
  | .int y :: .long x :: r => f x y r
  | _ => none
def sm_r {α : Type} (st : List Value) (f : Nat → List Value → Option α) : Option α := match st with
  | .ref q :: r => f q r
  | _ => none
def sm_v {α : Type} (st : List Value) (f : Value → List Value → Option α) : Option α := match st with
  | v :: r => f v r
  | _ => none
def sm_obj {α : Type} (h : sm_H) (q a : Nat) (f : List Value → Option α) : Option α := match h[q]? with
  | some (.inr (ci, fs)) => bif Nat.beq ci a then f fs else none
  | _ => none
def sm_arr {α : Type} (h : sm_H) (q : Nat) (f : Nat → sm_A → Option α) : Option α := match h[q]? with
  | some (.inl (t, x)) => f t x
  | _ => none
def sm_arI {α : Type} (h : sm_H) (q t0 : Nat) (i : Int32) (f : List Int32 → Option α) : Option α := match h[q]? with
  | some (.inl (t, .inl g)) => bif Nat.beq t t0 then (if i < 0 ∨ g.length ≤ i.toNatClampNeg then none else f g) else none
  | _ => none
def sm_arL {α : Type} (h : sm_H) (q : Nat) (i : Int32) (f : List Int64 → Option α) : Option α := match h[q]? with
  | some (.inl (t, .inr (.inl g))) => bif Nat.beq t 1 then (if i < 0 ∨ g.length ≤ i.toNatClampNeg then none else f g) else none
  | _ => none
def sm_arQ {α : Type} (h : sm_H) (q : Nat) (i : Int32) (f : List (Option Nat) → Option α) : Option α := match h[q]? with
  | some (.inl (t, .inr (.inr g))) => bif Nat.beq t 4 then (if i < 0 ∨ g.length ≤ i.toNatClampNeg then none else f g) else none
  | _ => none
def sm_ldI (lv : sm_L) (k : Nat) (f : Int32 → Option (Nat × sm_L × List Value)) : Option (Nat × sm_L × List Value) := match sm_lk lv k with
  | some (.int x) => f x
  | _ => none
def sm_ldL (lv : sm_L) (k : Nat) (f : Int64 → Option (Nat × sm_L × List Value)) : Option (Nat × sm_L × List Value) := match sm_lk lv k with
  | some (.long x) => f x
  | _ => none
def sm_ldA (lv : sm_L) (k : Nat) (f : Value → Option (Nat × sm_L × List Value)) : Option (Nat × sm_L × List Value) := match sm_lk lv k with
  | some (.ref x) => f (.ref x)
  | some (.float u) => f (.float u)
  | _ => none
def sm_stI (n : Nat) (lv : sm_L) (k pc : Nat) (st : List Value) : Option (Nat × sm_L × List Value) := sm_i st (fun x r => bif Nat.blt k n then some (pc, sm_s1 lv k (.int x), r) else none)
def sm_stL (n : Nat) (lv : sm_L) (k pc : Nat) (st : List Value) : Option (Nat × sm_L × List Value) := sm_l st (fun x r => bif Nat.blt (k + 1) n then some (pc, sm_s2 lv k (.long x), r) else none)
def sm_stA (n : Nat) (lv : sm_L) (k pc : Nat) (st : List Value) : Option (Nat × sm_L × List Value) := sm_r st (fun x r => bif Nat.blt k n then some (pc, sm_s1 lv k (.ref x), r) else none)
def sm_tgt (pc : Nat) (off : Int) (lv : sm_L) (st : List Value) : Option (Nat × sm_L × List Value) := if 0 ≤ (pc : Int) + off then some (((pc : Int) + off).toNat, lv, st) else none
/-- instructions that leave the heap as it is -/
def sm_p (sc : sm_X) (n pc : Nat) (i : Instr) (a b : Nat) (lv : sm_L) (st : List Value) (h : sm_H) : Option (Nat × sm_L × List Value) := match i with
  | .iconst k => some (pc + 1, lv, .int (Int32.ofInt k) :: st)
  | .bipush k => some (pc + 2, lv, .int (Int8.ofInt k).toInt32 :: st)
  | .sipush k => some (pc + 3, lv, .int (Int16.ofInt k).toInt32 :: st)
  | .lconst k => some (pc + 1, lv, .long (Int64.ofNat (k : Nat)) :: st)
  | .ldc _ => bif Nat.blt a 1000 then (match sm_kI[a]? with | some x => some (pc + 2, lv, .int x :: st) | none => none) else bif Nat.blt (a - 1000) sm_nS then some (pc + 2, lv, .float (UInt32.ofNat (2 * (a - 1000) + 1)) :: st) else none
  | .getstatic _ => bif Nat.beq a 1 then some (pc + 3, lv, .int 1 :: st) else bif Nat.beq a 2 then some (pc + 3, lv, .float 1000 :: st) else none
  | .i2b => sm_i st (fun x r => some (pc + 1, lv, .int x.toInt8.toInt32 :: r))
  | .ldc2_w _ => (match sm_kL[a]? with | some x => some (pc + 3, lv, .long x :: st) | none => none)
  | .iload_n k => sm_ldI lv k (fun x => some (pc + 1, lv, .int x :: st))
  | .iload k => sm_ldI lv k (fun x => some (pc + 2, lv, .int x :: st))
  | .lload_n k => sm_ldL lv k (fun x => some (pc + 1, lv, .long x :: st))
  | .lload k => sm_ldL lv k (fun x => some (pc + 2, lv, .long x :: st))
  | .aload_n k => sm_ldA lv k (fun x => some (pc + 1, lv, x :: st))
  | .aload k => sm_ldA lv k (fun x => some (pc + 2, lv, x :: st))
  | .istore_n k => sm_stI n lv k (pc + 1) st
  | .istore k => sm_stI n lv k (pc + 2) st
  | .lstore_n k => sm_stL n lv k (pc + 1) st
  | .lstore k => sm_stL n lv k (pc + 2) st
  | .astore_n k => sm_stA n lv k (pc + 1) st
  | .astore k => sm_stA n lv k (pc + 2) st
  | .iinc k d => sm_ldI lv k (fun x => bif Nat.blt k n then some (pc + 3, sm_s1 lv k (.int (x + Int32.ofInt d)), st) else none)
  | .iadd => sm_ii st (fun x y r => some (pc + 1, lv, .int (x + y) :: r))
  | .isub => sm_ii st (fun x y r => some (pc + 1, lv, .int (x - y) :: r))
  | .imul => sm_ii st (fun x y r => some (pc + 1, lv, .int (x * y) :: r))
  | .iand => sm_ii st (fun x y r => some (pc + 1, lv, .int (x &&& y) :: r))
  | .ior => sm_ii st (fun x y r => some (pc + 1, lv, .int (x ||| y) :: r))
  | .ixor => sm_ii st (fun x y r => some (pc + 1, lv, .int (x ^^^ y) :: r))
  | .idiv => sm_ii st (fun x y r => if y = 0 then none else some (pc + 1, lv, .int (x / y) :: r))
  | .irem => sm_ii st (fun x y r => if y = 0 then none else some (pc + 1, lv, .int (x - x / y * y) :: r))
  | .ishl => sm_ii st (fun x y r => some (pc + 1, lv, .int (x <<< (y &&& 31)) :: r))
  | .ishr => sm_ii st (fun x y r => some (pc + 1, lv, .int (x >>> (y &&& 31)) :: r))
  | .ineg => sm_i st (fun x r => some (pc + 1, lv, .int (-x) :: r))
  | .ladd => sm_ll st (fun x y r => some (pc + 1, lv, .long (x + y) :: r))
  | .lsub => sm_ll st (fun x y r => some (pc + 1, lv, .long (x - y) :: r))
  | .lmul => sm_ll st (fun x y r => some (pc + 1, lv, .long (x * y) :: r))
  | .land => sm_ll st (fun x y r => some (pc + 1, lv, .long (x &&& y) :: r))
  | .lor => sm_ll st (fun x y r => some (pc + 1, lv, .long (x ||| y) :: r))
  | .ldiv => sm_ll st (fun x y r => if y = 0 then none else some (pc + 1, lv, .long (x / y) :: r))
  | .lneg => sm_l st (fun x r => some (pc + 1, lv, .long (-x) :: r))
  | .lcmp => sm_ll st (fun x y r => some (pc + 1, lv, .int (lg_cmp x y) :: r))
  | .lshl => sm_li st (fun x y r => some (pc + 1, lv, .long (x <<< (y.toInt64 &&& 63)) :: r))
  | .i2l => sm_i st (fun x r => some (pc + 1, lv, .long x.toInt64 :: r))
  | .l2i => sm_l st (fun x r => some (pc + 1, lv, .int x.toInt32 :: r))
  | .i2c => sm_i st (fun x r => some (pc + 1, lv, .int (x.toUInt32 % 65536).toInt32 :: r))
  | .dup => sm_v st (fun v r => bif Nat.beq v.category 1 then some (pc + 1, lv, v :: v :: r) else none)
  | .dup2 => sm_v st (fun v r => sm_v r (fun u r => bif Nat.beq v.category 1 && Nat.beq u.category 1 then some (pc + 1, lv, v :: u :: v :: u :: r) else none))
  | .dup_x1 => sm_v st (fun v r => sm_v r (fun u r => bif Nat.beq v.category 1 && Nat.beq u.category 1 then some (pc + 1, lv, v :: u :: v :: r) else none))
  | .pop => sm_v st (fun v r => bif Nat.beq v.category 1 then some (pc + 1, lv, r) else none)
  | .ifCond .eq _ => sm_i st (fun x r => if x = 0 then some (a, lv, r) else some (pc + 3, lv, r))
  | .ifCond .ne _ => sm_i st (fun x r => if x = 0 then some (pc + 3, lv, r) else some (a, lv, r))
  | .ifCond .lt _ => sm_i st (fun x r => if x < 0 then some (a, lv, r) else some (pc + 3, lv, r))
  | .ifCond .ge _ => sm_i st (fun x r => if 0 ≤ x then some (a, lv, r) else some (pc + 3, lv, r))
  | .ifCond .gt _ => sm_i st (fun x r => if 0 < x then some (a, lv, r) else some (pc + 3, lv, r))
  | .ifCond .le _ => sm_i st (fun x r => if x ≤ 0 then some (a, lv, r) else some (pc + 3, lv, r))
  | .if_icmp .eq _ => sm_ii st (fun x y r => if x = y then some (a, lv, r) else some (pc + 3, lv, r))
  | .if_icmp .ne _ => sm_ii st (fun x y r => if x = y then some (pc + 3, lv, r) else some (a, lv, r))
  | .if_icmp .lt _ => sm_ii st (fun x y r => if x < y then some (a, lv, r) else some (pc + 3, lv, r))
  | .if_icmp .ge _ => sm_ii st (fun x y r => if y ≤ x then some (a, lv, r) else some (pc + 3, lv, r))
  | .if_icmp .gt _ => sm_ii st (fun x y r => if y < x then some (a, lv, r) else some (pc + 3, lv, r))
  | .if_icmp .le _ => sm_ii st (fun x y r => if x ≤ y then some (a, lv, r) else some (pc + 3, lv, r))
  | .goto _ => some (a, lv, st)
  | .tableswitch df lo hi offs => sm_i st (fun x r => if x.toInt < lo ∨ hi < x.toInt then sm_tgt pc df lv r else (match offs[(x.toInt - lo).toNat]? with | some off => sm_tgt pc off lv r | none => none))
  | .lookupswitch df ps => sm_i st (fun x r => sm_tgt pc (Op.lookupswitch.offset ps.toList df x.toInt) lv r)
  | .arraylength => sm_v st (fun v r => match v with
      | .ref q => sm_arr h q (fun t x => bif Nat.blt t 5 then some (pc + 1, lv, .int (Int32.ofNat (sm_al x)) :: r) else none)
      | .float u => bif Nat.beq u.toNat 0 then (match sc with | some y => some (pc + 1, lv, .int (Int32.ofNat y.1) :: r) | none => none) else (match sm_sV u with | some i => some (pc + 1, lv, .int (Int32.ofNat (sm_len.getD i 0)) :: r) | none => none)
      | _ => none)
  | .iaload => sm_i st (fun i r => sm_v r (fun v r => match v with
      | .ref q => sm_arI h q 0 i (fun g => some (pc + 1, lv, .int (g.getD i.toNatClampNeg 0) :: r))
      | .float u => bif Nat.beq u.toNat 0 then (match sc with | some y => if i < 0 ∨ y.1 ≤ i.toNatClampNeg then none else some (pc + 1, lv, .int (y.2 i.toNatClampNeg) :: r) | none => none) else none
      | _ => none))
  | .caload => sm_i st (fun i r => sm_r r (fun q r => sm_arI h q 2 i (fun g => some (pc + 1, lv, .int (g.getD i.toNatClampNeg 0) :: r))))
  | .baload => sm_i st (fun i r => sm_v r (fun v r => match v with
      | .ref q => sm_arI h q 3 i (fun g => some (pc + 1, lv, .int (g.getD i.toNatClampNeg 0) :: r))
      | .float u => (match sm_sV u with | some k => if i < 0 ∨ sm_len.getD k 0 ≤ i.toNatClampNeg then none else some (pc + 1, lv, .int ((sm_byt.getD k []).getD i.toNatClampNeg 0) :: r) | none => none)
      | _ => none))
  | .laload => sm_i st (fun i r => sm_r r (fun q r => sm_arL h q i (fun g => some (pc + 1, lv, .long (g.getD i.toNatClampNeg 0) :: r))))
  | .aaload => sm_i st (fun i r => sm_r r (fun q r => sm_arQ h q i (fun g => match g.getD i.toNatClampNeg none with | some k => some (pc + 1, lv, .ref k :: r) | none => none)))
  | .getfield _ => sm_v st (fun v r => match v with
      | .ref q => sm_obj h q a (fun fs => match fs[b]? with | some v => some (pc + 3, lv, v :: r) | none => none)
      | .float u => (match sm_sK u with | some i => bif Nat.beq a 100 then (bif Nat.beq b 0 then some (pc + 3, lv, .float (UInt32.ofNat (2 * i + 2)) :: r) else bif Nat.beq b 1 then some (pc + 3, lv, .int 0 :: r) else none) else none | none => none)
      | _ => none)
  | _ => none
def sm_fit (ty : FieldType) (v : Value) : Bool := match ty, v with
  | .int, .int _ => true
  | .long, .long _ => true
  | .boolean, .int x => x == 0 || x == 1
  | .object _, .ref _ => true
  | .array _, .ref _ => true
  | _, _ => false
/-- instructions that write a cell: the stack behind, the cell's number, the cell -/
def sm_w (i : Instr) (a b : Nat) (st : List Value) (h : sm_H) : Option (List Value × Nat × sm_E) := match i with
  | .putfield _ => sm_v st (fun v r => sm_r r (fun q r => sm_obj h q a (fun fs => bif Nat.blt b fs.length && sm_fit (sm_fty a b) v then some (r, q, .inr (a, fs.set b v)) else none)))
  | .iastore => sm_ii st (fun i x r => sm_r r (fun q r => sm_arI h q 0 i (fun g => some (r, q, .inl (0, .inl (g.set i.toNatClampNeg x))))))
  | .castore => sm_ii st (fun i x r => sm_r r (fun q r => sm_arI h q 2 i (fun g => some (r, q, .inl (2, .inl (g.set i.toNatClampNeg (vp_nar .char x)))))))
  | .bastore => sm_ii st (fun i x r => sm_r r (fun q r => sm_arI h q 3 i (fun g => some (r, q, .inl (3, .inl (g.set i.toNatClampNeg (vp_nar .boolean x)))))))
  | .lastore => sm_l st (fun x r => sm_i r (fun i r => sm_r r (fun q r => sm_arL h q i (fun g => some (r, q, .inl (1, .inr (.inl (g.set i.toNatClampNeg x))))))))
  | .aastore => sm_r st (fun k r => sm_i r (fun i r => sm_r r (fun q r => sm_arQ h q i (fun g => sm_obj h k sm_ct (fun _ => some (r, q, .inl (4, .inr (.inr (g.set i.toNatClampNeg (some k))))))))))
  | _ => none
def sm_ar0 (t n : Nat) : Option sm_A := match t with
  | 0 | 2 | 3 => some (.inl (List.replicate n 0))
  | 1 => some (.inr (.inl (List.replicate n 0)))
  | _ => none
/-- instructions that make a cell: the stack behind (without the new one), the cell -/
def sm_n (i : Instr) (a : Nat) (st : List Value) : Option (List Value × sm_E) := match i with
  | .new _ => (match sm_dfl[a]? with | some fs => some (st, .inr (a, fs)) | none => none)
  | .newarray _ => sm_i st (fun x r => if x < 0 ∨ 1000000 < x.toNatClampNeg then none else (match sm_ar0 a x.toNatClampNeg with | some y => some (r, .inl (a, y)) | none => none))
  | .anewarray _ => sm_i st (fun x r => if x < 0 ∨ 1000000 < x.toNatClampNeg then none else some (r, .inl (4, .inr (.inr (List.replicate x.toNatClampNeg none)))))
  | _ => none
def sm_pop : Nat → List Value → List Value → Option (List Value × List Value)
  | 0, st, A => some (A, st)
  | _ + 1, [], _ => none
  | n + 1, v :: st, A => sm_pop n st (v :: A)
def sm_cat (st : List Value) : Nat := (st.map fun v => v.category).sum
def sm_rc (M : Nat) (v : Value) (h : sm_H) : Bool := match v with
  | .ref k => (match h[k]? with | some (.inr (ci, _)) => Nat.beq ci (sm_cn M) | _ => false)
  | .float u => (match sm_sK u with | some _ => Nat.beq (sm_cn M) 100 | none => false)
  | _ => false
def sm_inv (inst : Bool) (M : Nat) (st : List Value) (h : sm_H) : Option (List Value × List Value) := match sm_pop (sm_np M) st [] with
  | none => none
  | some (As, r) => bif inst then sm_v r (fun v r => bif sm_rc M v h && Nat.ble (sm_cat r) 8 && Nat.ble (sm_cat (v :: As)) (sm_maxL M) then some (v :: As, r) else none)
    else bif Nat.ble (sm_cat r) 8 && Nat.ble (sm_cat As) (sm_maxL M) then some (As, r) else none
def sm_cl (ih : Nat → Nat → Nat → sm_L → List Value → sm_H → sm_O) (inst : Bool) (d M pc : Nat) (a : Nat) (lv : sm_L) (st : List Value) (h : sm_H) : sm_O := match d with
  | 0 => none
  | d + 1 => match sm_inv inst a st h with
    | none => none
    | some (As, r) => match ih d a 0 (lv_args 0 As) [] h with
      | none => none
      | some (v, h1) => ih (d + 1) M (pc + 3) lv (v.toList ++ r) h1
def sm_nr (ret : Option FieldType) (x : Int32) : Bool := match ret with
  | some .int => true
  | some .boolean => x == 0 || x == 1
  | some .char => x == (x.toUInt32 % 65536).toInt32
  | some .byte => x == x.toInt8.toInt32
  | _ => false
def sm_rt (M : Nat) (i : Instr) (st : List Value) (h : sm_H) : sm_O := match i with
  | .ireturn => (match st with | [.int x] => bif sm_nr (sm_ret M) x then some (some (.int x), h) else none | _ => none)
  | .lreturn => (match st with | [.long x] => (match sm_ret M with | some .long => some (some (.long x), h) | _ => none) | _ => none)
  | .areturn => (match st with | [.ref x] => (match sm_ret M with | some (.object _) => some (some (.ref x), h) | _ => none) | _ => none)
  | .return_ => (match st with | [] => (match sm_ret M with | none => some (none, h) | _ => none) | _ => none)
  | _ => none
def sm_oi (ih : Nat → Nat → Nat → sm_L → List Value → sm_H → sm_O) (d M pc : Nat) (lv : sm_L) (st : List Value) (h : sm_H) : sm_O := match d with
  | 0 => none
  | d + 1 => sm_r st (fun _ r => bif Nat.ble (sm_cat r) 8 then ih (d + 1) M (pc + 3) lv r h else none)
def sm_cpy (f g : List Int64) (sp dp n : Nat) : List Int64 := (List.range g.length).map (fun k => if dp ≤ k ∧ k < dp + n then f.getD (sp + (k - dp)) 0 else g.getD k 0)
def sm_aq (h : sm_H) (q : Nat) : Option (List Int64) := match h[q]? with
  | some (.inl (t, .inr (.inl g))) => bif Nat.beq t 1 then some g else none
  | _ => none
/-- System.arraycopy, of longs -/
def sm_ac (st : List Value) (h : sm_H) : Option (List Value × Nat × sm_E) := sm_ii st (fun dp n r => sm_r r (fun a r => sm_i r (fun sp r => sm_r r (fun a0 r => match sm_aq h a0, sm_aq h a with
  | some f, some g => if sp < 0 ∨ dp < 0 ∨ n < 0 ∨ f.length < sp.toNatClampNeg + n.toNatClampNeg ∨ g.length < dp.toNatClampNeg + n.toNatClampNeg ∨ 8 < sm_cat r then none else some (r, a, .inl (1, .inr (.inl (sm_cpy f g sp.toNatClampNeg dp.toNatClampNeg n.toNatClampNeg))))
  | _, _ => none))))
def sm_nc (ih : Nat → Nat → Nat → sm_L → List Value → sm_H → sm_O) (d M pc : Nat) (lv : sm_L) (st : List Value) (h : sm_H) : sm_O := match d with
  | 0 => none
  | d + 1 => match sm_ac st h with
    | some (r, q, x) => ih (d + 1) M (pc + 3) lv r (h.set q x)
    | none => none
/-- Math.min, Math.max: 3, 4 of ints, 5, 6 of longs -/
def sm_mt (b : Nat) (st : List Value) : Option (List Value) := match b with
  | 3 => sm_ii st (fun x y r => bif Nat.ble (sm_cat r) 8 then some (.int (if y < x then y else x) :: r) else none)
  | 4 => sm_ii st (fun x y r => bif Nat.ble (sm_cat r) 8 then some (.int (if x < y then y else x) :: r) else none)
  | 5 => sm_ll st (fun x y r => bif Nat.ble (sm_cat r) 8 then some (.long (if y < x then y else x) :: r) else none)
  | 6 => sm_ll st (fun x y r => bif Nat.ble (sm_cat r) 8 then some (.long (if y < x then x else y) :: r) else none)
  | _ => none
def sm_mm (ih : Nat → Nat → Nat → sm_L → List Value → sm_H → sm_O) (b d M pc : Nat) (lv : sm_L) (st : List Value) (h : sm_H) : sm_O := match d with
  | 0 => none
  | d + 1 => match sm_mt b st with
    | some r => ih (d + 1) M (pc + 3) lv r h
    | none => none
def sm_go (sc : sm_X) (ih : Nat → Nat → Nat → sm_L → List Value → sm_H → sm_O) (d M pc : Nat) (i : Instr) (a b : Nat) (lv : sm_L) (st : List Value) (h : sm_H) : sm_O := match i with
  | .ireturn | .lreturn | .areturn | .return_ => sm_rt M i st h
  | .invokevirtual _ => sm_cl ih true d M pc a lv st h
  | .invokestatic _ => bif Nat.beq b 9 then sm_nc ih d M pc lv st h else bif Nat.blt 2 b then sm_mm ih b d M pc lv st h else sm_cl ih false d M pc a lv st h
  | .invokespecial _ => bif Nat.beq b 2 then sm_oi ih d M pc lv st h else sm_cl ih true d M pc a lv st h
  | .putfield _ | .iastore | .castore | .bastore | .lastore | .aastore => (match sm_w i a b st h with
      | some (r, q, x) => ih d M (pc + sm_ln i) lv r (h.set q x)
      | none => none)
  | .new _ | .newarray _ | .anewarray _ => (match sm_n i a st with
      | some (r, x) => ih d M (pc + sm_ln i) lv (.ref h.length :: r) (h ++ [x])
      | none => none)
  | i => (match sm_p sc (sm_maxL M) pc i a b lv st h with
      | some (pc', lv', st') => ih d M pc' lv' st' h
      | none => none)
def sm_body (sc : sm_X) (ih : Nat → Nat → Nat → sm_L → List Value → sm_H → sm_O) (d M pc : Nat) (lv : sm_L) (st : List Value) (h : sm_H) : sm_O := match sm_find (sm_tab M) pc with
  | none => none
  | some (i, a, b) => sm_go sc ih d M pc i a b lv st h
/-- n: how many instructions a way may have; d: how many frames -/
noncomputable def sm_ex (sc : sm_X) (n : Nat) : Nat → Nat → Nat → sm_L → List Value → sm_H → sm_O := Nat.rec (fun _ _ _ _ _ _ => none) (fun _ ih => sm_body sc ih) n
theorem sm_ex_s (sc : sm_X) (n : Nat) : sm_ex sc (n + 1) = sm_body sc (sm_ex sc n) := rfl
