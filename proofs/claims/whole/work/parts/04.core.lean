/-! THE ABSTRACT MACHINE: memory of whole numbers by place and slot, shapes of the cells, a run by fuel -/
abbrev rn_Mem : Type := (Nat → Nat → Int32) × (Nat → Nat → Int64)
/-- tag, slots, and for objects the fields' kinds (0 int, 1 long, 2 boolean, 3 null, q + 4 the cell at place q), for arrays of references the cells (0 null, q + 1 the place q). Tags: 0 int[], 1 long[], 2 byte[], 3 and 4 arrays of references, ci + 5 an object of the class ci -/
abbrev rn_Sh : Type := Nat × Nat × List Nat
abbrev rn_H : Type := List rn_Sh × rn_Mem
abbrev rn_L : Type := List (Option Value)
def rn_in (i : Int32) (n : Nat) : Bool := decide (¬ (i < 0 ∨ n ≤ i.toNatClampNeg))
def rn_up (f : Nat → Nat → Int32) (p i : Nat) (x : Int32) : Nat → Nat → Int32 := fun q => if q = p then upd (f q) i x else f q
def rn_uq (f : Nat → Nat → Int64) (p i : Nat) (x : Int64) : Nat → Nat → Int64 := fun q => if q = p then vp_updL (f q) i x else f q
def rn_row (f : Nat → Nat → Int32) (p : Nat) (g : Nat → Int32) : Nat → Nat → Int32 := fun q => if q = p then g else f q
def rn_orders : List Int32 := [0, 1, 2, 1, 0, 2, 0, 2, 1, 2, 0, 1, 1, 2, 0, 2, 1, 0]
def rn_strict : List Int32 := [2, 0, 1]
def rn_ext (xs : List Int32) (q : Nat) : List Int32 := if q = 10000 then rn_orders else if q = 10001 then rn_strict else if q = 10002 then xs else []
def rn_fv (M : rn_Mem) (p k code : Nat) : Value := match code with
  | 0 => .int (M.1 p k)
  | 1 => .long (M.2 p k)
  | 2 => .int (M.1 p k)
  | 3 => .null
  | q + 4 => .ref q
def rn_len (i : Instr) (n : Nat) : Nat := match i with
  | .bipush _ | .ldc _ | .iload _ | .istore _ | .lload _ | .lstore _ | .aload _ | .astore _ | .newarray _ => 2
  | .sipush _ | .ldc_w _ | .ldc2_w _ | .iinc _ _ | .ifCond _ _ | .if_icmp _ _ | .goto _ | .getstatic _ | .getfield _ | .putfield _ | .invokevirtual _ | .invokespecial _ | .invokestatic _ | .new _ | .anewarray _ => 3
  | .tableswitch _ _ _ _ => n
  | .lookupswitch _ _ => n
  | _ => 1
def rn_ii (f : Int32 → Int32 → Int32) (L : rn_L) (S : List Value) : Option (rn_L × List Value) := match S with
  | .int y :: .int x :: T => some (L, .int (f x y) :: T)
  | _ => none
def rn_dd (f : Int32 → Int32 → Int32) (L : rn_L) (S : List Value) : Option (rn_L × List Value) := match S with
  | .int y :: .int x :: T => if y = 0 then none else some (L, .int (f x y) :: T)
  | _ => none
def rn_jj (f : Int64 → Int64 → Int64) (L : rn_L) (S : List Value) : Option (rn_L × List Value) := match S with
  | .long y :: .long x :: T => some (L, .long (f x y) :: T)
  | _ => none
def rn_ji (f : Int64 → Int32 → Int64) (L : rn_L) (S : List Value) : Option (rn_L × List Value) := match S with
  | .int y :: .long x :: T => some (L, .long (f x y) :: T)
  | _ => none
def rn_i1 (f : Int32 → Int32) (L : rn_L) (S : List Value) : Option (rn_L × List Value) := match S with
  | .int x :: T => some (L, .int (f x) :: T)
  | _ => none
def rn_li (k : Nat) (L : rn_L) (S : List Value) : Option (rn_L × List Value) := match L[k]? with
  | some (some (.int x)) => some (L, .int x :: S)
  | _ => none
def rn_ll (k : Nat) (L : rn_L) (S : List Value) : Option (rn_L × List Value) := match L[k]? with
  | some (some (.long x)) => some (L, .long x :: S)
  | _ => none
def rn_la (k : Nat) (L : rn_L) (S : List Value) : Option (rn_L × List Value) := match L[k]? with
  | some (some (.ref x)) => some (L, .ref x :: S)
  | _ => none
def rn_kill (L : rn_L) (k : Nat) : rn_L := match k with
  | 0 => L
  | j + 1 => match L[j]? with
    | some (some (.long _)) => L.set j none
    | some (some (.double _)) => L.set j none
    | _ => L
def rn_s1 (k : Nat) (v : Value) (L : rn_L) : rn_L := (rn_kill L k).set k (some v)
def rn_s2 (k : Nat) (v : Value) (L : rn_L) : rn_L := ((rn_kill L k).set k (some v)).set (k + 1) none
def rn_si (k : Nat) (L : rn_L) (S : List Value) : Option (rn_L × List Value) := match S with
  | .int x :: T => if k < L.length then some (rn_s1 k (.int x) L, T) else none
  | _ => none
def rn_sa (k : Nat) (L : rn_L) (S : List Value) : Option (rn_L × List Value) := match S with
  | .ref x :: T => if k < L.length then some (rn_s1 k (.ref x) L, T) else none
  | _ => none
def rn_sl (k : Nat) (L : rn_L) (S : List Value) : Option (rn_L × List Value) := match S with
  | .long x :: T => if k + 1 < L.length then some (rn_s2 k (.long x) L, T) else none
  | _ => none
/-- instructions that touch locals and stack alone -/
def rn_pure (a : Nat) (i : Instr) (L : rn_L) (S : List Value) : Option (rn_L × List Value) := match i with
  | .iconst n => some (L, .int (Int32.ofInt n) :: S)
  | .bipush n => some (L, .int (Int8.ofInt n).toInt32 :: S)
  | .sipush n => some (L, .int (Int16.ofInt n).toInt32 :: S)
  | .lconst n => some (L, .long (Int64.ofNat (n : Nat)) :: S)
  | .ldc _ => some (L, .int (Int32.ofNat a) :: S)
  | .ldc_w _ => some (L, .int (Int32.ofNat a) :: S)
  | .ldc2_w _ => some (L, .long (Int64.ofNat a) :: S)
  | .iload k => rn_li k L S
  | .iload_n k => rn_li k L S
  | .lload k => rn_ll k L S
  | .lload_n k => rn_ll k L S
  | .aload k => rn_la k L S
  | .aload_n k => rn_la k L S
  | .istore k => rn_si k L S
  | .istore_n k => rn_si k L S
  | .lstore k => rn_sl k L S
  | .lstore_n k => rn_sl k L S
  | .astore k => rn_sa k L S
  | .astore_n k => rn_sa k L S
  | .iinc k n => match L[k]? with
    | some (some (.int x)) => some (rn_s1 k (.int (x + Int32.ofInt n)) L, S)
    | _ => none
  | .iadd => rn_ii (fun x y => x + y) L S
  | .isub => rn_ii (fun x y => x - y) L S
  | .imul => rn_ii (fun x y => x * y) L S
  | .iand => rn_ii (fun x y => x &&& y) L S
  | .ior => rn_ii (fun x y => x ||| y) L S
  | .ixor => rn_ii (fun x y => x ^^^ y) L S
  | .idiv => rn_dd (fun x y => x / y) L S
  | .irem => rn_dd (fun x y => x - x / y * y) L S
  | .ishl => rn_ii (fun x y => x <<< (y &&& 31)) L S
  | .ishr => rn_ii (fun x y => x >>> (y &&& 31)) L S
  | .iushr => rn_ii (fun x y => (x.toUInt32 >>> (y.toUInt32 &&& Int32.toUInt32 31)).toInt32) L S
  | .ladd => rn_jj (fun x y => x + y) L S
  | .lmul => rn_jj (fun x y => x * y) L S
  | .land => rn_jj (fun x y => x &&& y) L S
  | .lor => rn_jj (fun x y => x ||| y) L S
  | .lshl => rn_ji (fun x y => x <<< (y.toInt64 &&& 63)) L S
  | .lshr => rn_ji (fun x y => x >>> (y.toInt64 &&& 63)) L S
  | .i2l => match S with
    | .int x :: T => some (L, .long x.toInt64 :: T)
    | _ => none
  | .l2i => match S with
    | .long x :: T => some (L, .int x.toInt32 :: T)
    | _ => none
  | .i2b => rn_i1 (fun x => x.toInt8.toInt32) L S
  | .i2s => rn_i1 (fun x => x.toInt16.toInt32) L S
  | .lcmp => match S with
    | .long y :: .long x :: T => some (L, .int (lg_cmp x y) :: T)
    | _ => none
  | .dup => match S with
    | .int x :: T => some (L, .int x :: .int x :: T)
    | .ref x :: T => some (L, .ref x :: .ref x :: T)
    | _ => none
  | .dup2 => match S with
    | .int x :: .ref y :: T => some (L, .int x :: .ref y :: .int x :: .ref y :: T)
    | .long x :: T => some (L, .long x :: .long x :: T)
    | _ => none
  | _ => none
def rn_cmp (c : ClassFile.Cond) (x y : Int32) : Bool := match c with
  | .eq => decide (x = y)
  | .ne => decide (¬ x = y)
  | .lt => decide (x < y)
  | .ge => decide (y ≤ x)
  | .gt => decide (y < x)
  | .le => decide (x ≤ y)
def rn_tg (pc : Nat) (off : Int) : Nat := ((pc : Int) + off).toNat
/-- jumps -/
def rn_br (i : Instr) (pc : Nat) (S : List Value) : Option (Nat × List Value) := match i with
  | .ifCond c off => match S with
    | .int x :: T => if 0 ≤ (pc : Int) + off then some (if rn_cmp c x 0 = true then rn_tg pc off else pc + 3, T) else none
    | _ => none
  | .if_icmp c off => match S with
    | .int y :: .int x :: T => if 0 ≤ (pc : Int) + off then some (if rn_cmp c x y = true then rn_tg pc off else pc + 3, T) else none
    | _ => none
  | .goto off => if 0 ≤ (pc : Int) + off then some (rn_tg pc off, S) else none
  | .tableswitch d lo hi offs => match S with
    | .int x :: T => if x.toInt < lo ∨ hi < x.toInt then (if 0 ≤ (pc : Int) + d then some (rn_tg pc d, T) else none) else match offs[(x.toInt - lo).toNat]? with
      | some off => if 0 ≤ (pc : Int) + off then some (rn_tg pc off, T) else none
      | none => none
    | _ => none
  | .lookupswitch d ps => match S with
    | .int x :: T => if (ps.toList.zip (ps.toList.drop 1)).all (fun (a, next) => a.1 < next.1) = true then (if 0 ≤ (pc : Int) + Op.lookupswitch.offset ps.toList d x.toInt then some (rn_tg pc (Op.lookupswitch.offset ps.toList d x.toInt), T) else none) else none
    | _ => none
  | _ => none
/-- what is read from the heap -/
def rn_rd (xs : List Int32) (a b : Nat) (i : Instr) (S : List Value) (σ : rn_H) : Option (List Value) := match i with
  | .getfield _ => match S with
    | .ref p :: T => match σ.1[p]? with
      | some (t, _, fs) => if t = a + 5 then match fs[b]? with
        | some code => some (rn_fv σ.2 p b code :: T)
        | none => none
        else none
      | none => none
    | _ => none
  | .getstatic _ => some (.ref (10000 + a) :: S)
  | .iaload => match S with
    | .int i :: .ref p :: T => if p < 10000 then match σ.1[p]? with
      | some (t, n, _) => if t = 0 then (if rn_in i n = true then some (.int (σ.2.1 p i.toNatClampNeg) :: T) else none) else none
      | none => none
      else if rn_in i (rn_ext xs p).length = true then some (.int ((rn_ext xs p).getD i.toNatClampNeg 0) :: T) else none
    | _ => none
  | .baload => match S with
    | .int i :: .ref p :: T => match σ.1[p]? with
      | some (t, n, _) => if t = 2 then (if rn_in i n = true then some (.int (σ.2.1 p i.toNatClampNeg) :: T) else none) else none
      | none => none
    | _ => none
  | .laload => match S with
    | .int i :: .ref p :: T => match σ.1[p]? with
      | some (t, n, _) => if t = 1 then (if rn_in i n = true then some (.long (σ.2.2 p i.toNatClampNeg) :: T) else none) else none
      | none => none
    | _ => none
  | .aaload => match S with
    | .int i :: .ref p :: T => match σ.1[p]? with
      | some (t, n, fs) => if t = 3 ∨ t = 4 then (if rn_in i n = true then match fs[i.toNatClampNeg]? with
        | some (q + 1) => some (.ref q :: T)
        | _ => none
        else none) else none
      | none => none
    | _ => none
  | .arraylength => match S with
    | .ref p :: T => if p < 10000 then match σ.1[p]? with
      | some (t, n, _) => if t < 5 then some (.int (Int32.ofNat n) :: T) else none
      | none => none
      else if p < 10003 then some (.int (Int32.ofNat (rn_ext xs p).length) :: T) else none
    | _ => none
  | _ => none
/-- what is written to the heap -/
def rn_wr (a b c : Nat) (i : Instr) (S : List Value) (σ : rn_H) : Option (List Value × rn_H) := match i with
  | .putfield _ => match S with
    | v :: .ref p :: T => match σ.1[p]? with
      | some (t, n, fs) => if t = a + 5 then match fs[b]?, v with
        | some 0, .int x => if c = 0 then some (T, σ.1, rn_up σ.2.1 p b x, σ.2.2) else none
        | some 1, .long x => if c = 1 then some (T, σ.1, σ.2.1, rn_uq σ.2.2 p b x) else none
        | some 2, .int x => if c = 2 ∧ (x = 0 ∨ x = 1) then some (T, σ.1, rn_up σ.2.1 p b x, σ.2.2) else none
        | some (_ + 3), .ref q => if c = 3 then some (T, σ.1.set p (t, n, fs.set b (q + 4)), σ.2) else none
        | _, _ => none
        else none
      | none => none
    | _ => none
  | .iastore => match S with
    | .int x :: .int i :: .ref p :: T => match σ.1[p]? with
      | some (t, n, _) => if t = 0 then (if rn_in i n = true then some (T, σ.1, rn_up σ.2.1 p i.toNatClampNeg x, σ.2.2) else none) else none
      | none => none
    | _ => none
  | .bastore => match S with
    | .int x :: .int i :: .ref p :: T => match σ.1[p]? with
      | some (t, n, _) => if t = 2 then (if rn_in i n = true then some (T, σ.1, rn_up σ.2.1 p i.toNatClampNeg (vp_nar .byte x), σ.2.2) else none) else none
      | none => none
    | _ => none
  | .lastore => match S with
    | .long x :: .int i :: .ref p :: T => match σ.1[p]? with
      | some (t, n, _) => if t = 1 then (if rn_in i n = true then some (T, σ.1, σ.2.1, rn_uq σ.2.2 p i.toNatClampNeg x) else none) else none
      | none => none
    | _ => none
  | .aastore => match S with
    | .ref q :: .int i :: .ref p :: T => match σ.1[p]?, σ.1[q]? with
      | some (t, n, fs), some (u, _, _) => if ((t = 3 ∧ u = 14) ∨ (t = 4 ∧ u = 10)) ∧ fs.length = n then (if rn_in i n = true then some (T, σ.1.set p (t, n, fs.set i.toNatClampNeg (q + 1)), σ.2) else none) else none
      | _, _ => none
    | _ => none
  | .invokestatic _ => if a = 998 then match S with
    | .int n :: .int dp :: .ref q :: .int sp :: .ref p :: T => match σ.1[p]?, σ.1[q]? with
      | some (t, n0, _), some (u, n1, _) => if t = 0 ∧ u = 0 ∧ ¬ sp < 0 ∧ ¬ dp < 0 ∧ ¬ n < 0 ∧ sp.toNatClampNeg + n.toNatClampNeg ≤ n0 ∧ dp.toNatClampNeg + n.toNatClampNeg ≤ n1 ∧ (T.map fun v => v.category).sum ≤ 8 then some (T, σ.1, rn_row σ.2.1 q (va_cpy (σ.2.1 p) (σ.2.1 q) sp.toNatClampNeg dp.toNatClampNeg n.toNatClampNeg), σ.2.2) else none
      | _, _ => none
    | _ => none
    else none
  | .invokespecial _ => if a = 999 then match S with
    | .ref _ :: T => if (T.map fun v => v.category).sum ≤ 8 then some (T, σ) else none
    | _ => none
    else none
  | _ => none
def rn_kd (t : FieldType) : Nat := match t with
  | .int => 0
  | .long => 1
  | .boolean => 2
  | _ => 3
def rn_kinds (ci : Nat) : List Nat := match rn_cl[ci]? with
  | some (_, _, N) => (List.range N).map fun k => rn_kd (rn_ft ci k)
  | none => []
def rn_z32 (f : Nat → Nat → Int32) (p : Nat) : Nat → Nat → Int32 := fun q => if q = p then (fun _ => 0) else f q
def rn_z64 (f : Nat → Nat → Int64) (p : Nat) : Nat → Nat → Int64 := fun q => if q = p then (fun _ => 0) else f q
def rn_push (sh : rn_Sh) (σ : rn_H) : rn_H := (σ.1 ++ [sh], rn_z32 σ.2.1 σ.1.length, rn_z64 σ.2.2 σ.1.length)
/-- what is made -/
def rn_nw (a : Nat) (i : Instr) (S : List Value) (σ : rn_H) : Option (List Value × rn_H) := if σ.1.length < 9000 then match i with
  | .new _ => some (.ref σ.1.length :: S, rn_push (a + 5, (rn_kinds a).length, rn_kinds a) σ)
  | .newarray t => match S with
    | .int n :: T => if n < 0 ∨ 1000 < n.toNatClampNeg then none else match t with
      | .int => some (.ref σ.1.length :: T, rn_push (0, n.toNatClampNeg, []) σ)
      | .long => some (.ref σ.1.length :: T, rn_push (1, n.toNatClampNeg, []) σ)
      | .byte => some (.ref σ.1.length :: T, rn_push (2, n.toNatClampNeg, []) σ)
      | _ => none
    | _ => none
  | .anewarray _ => match S with
    | .int n :: T => if n < 0 ∨ 1000 < n.toNatClampNeg ∨ ¬ (a = 3 ∨ a = 4) then none else some (.ref σ.1.length :: T, rn_push (a, n.toNatClampNeg, List.replicate n.toNatClampNeg 0) σ)
    | _ => none
  | _ => none
  else none
def rn_ret (rt : Option FieldType) (i : Instr) (S : List Value) : Option (Option Value) := match i, rt, S with
  | .ireturn, some .int, [.int x] => some (some (.int x))
  | .ireturn, some .boolean, [.int x] => if x = 0 ∨ x = 1 then some (some (.int x)) else none
  | .lreturn, some .long, [.long x] => some (some (.long x))
  | .return_, none, [] => some none
  | _, _, _ => none
def rn_op (y pc : Nat) : Option rn_Op := match rn_ms[y]? with
  | some M => M.2.2.2.2.2.lookup pc
  | none => none
/-- a method's locals at its entry -/
def rn_args : List Value → rn_L
  | [] => []
  | v :: vs => if v.category = 2 then some v :: none :: rn_args vs else some v :: rn_args vs
def rn_ent (maxL : Nat) (vs : List Value) : rn_L := rn_args vs ++ List.replicate (maxL - (rn_args vs).length) none
/-- the call at hand: the callee, and how many values it takes -/
def rn_cal (i : Instr) (a b : Nat) : Option (Nat × Nat) := match i with
  | .invokevirtual _ => some (a, b)
  | .invokestatic _ => if a = 998 then none else some (a, b)
  | .invokespecial _ => if a = 999 then none else some (a, b)
  | _ => none
def rn_isv (i : Instr) : Bool := match i with
  | .invokevirtual _ => true
  | _ => false
/-- the receiver is of the class ci -/
def rn_rcv (i : Instr) (ci : Nat) (vs : List Value) (σ : rn_H) : Bool := match i with
  | .invokevirtual _ => match vs with
    | .ref p :: _ => match σ.1[p]? with
      | some (t, _, _) => decide (t = ci + 5)
      | none => false
    | _ => false
  | .invokespecial _ => match vs with
    | .ref _ :: _ => true
    | _ => false
  | _ => true
def rn_run (xs : List Int32) : Nat → Nat → Nat → Nat → rn_L → List Value → rn_H → Option (Option Value × rn_H)
  | _, 0, _, _, _, _, _ => none
  | d, n + 1, y, pc, L, S, σ => match rn_op y pc with
    | none => none
    | some (i, len, a, b, c) => match rn_pure a i L S with
      | some (L2, S2) => rn_run xs d n y (pc + rn_len i len) L2 S2 σ
      | none => match rn_rd xs a b i S σ with
        | some S2 => rn_run xs d n y (pc + rn_len i len) L S2 σ
        | none => match rn_br i pc S with
          | some (pc2, S2) => rn_run xs d n y pc2 L S2 σ
          | none => match rn_wr a b c i S σ with
            | some (S2, σ2) => rn_run xs d n y (pc + rn_len i len) L S2 σ2
            | none => match rn_nw a i S σ with
              | some (S2, σ2) => rn_run xs d n y (pc + rn_len i len) L S2 σ2
              | none => match rn_cal i a b with
                | some (y2, k) => match d, rn_ms[y2]? with
                  | d2 + 1, some M2 => if y2 ≠ 0 ∧ (rn_args (S.take k).reverse).length ≤ M2.2.2.1 ∧ (S.take k).length = k ∧ ((S.drop k).map fun v => v.category).sum ≤ 8 ∧ rn_rcv i c (S.take k).reverse σ = true then match rn_run xs d2 n y2 0 (rn_ent M2.2.2.1 (S.take k).reverse) [] σ with
                    | some (r, σ2) => rn_run xs d n y (pc + 3) L (r.toList ++ S.drop k) σ2
                    | none => none
                    else none
                  | _, _ => none
                | none => match rn_ms[y]? with
                  | some M => match rn_ret M.2.2.2.1 i S with
                    | some r => some (r, σ)
                    | none => none
                  | none => none
