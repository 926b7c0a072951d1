/-! THE INTERPRETER: a heap is the cells' shapes (0: an object, by its kind; 1: a row of ints (0) or booleans (1); how many slots), what their references are (0: null), what their ints are. The cell k of the list is the reference k + 1; the reference 0 is the law's own script. -/
abbrev zFr : Type := Nat × List (Option Value) × List Value
abbrev zRl : Type := List (Nat × Nat × Nat)
abbrev zH : Type := List (Nat × Nat × Nat) × zRl × (Nat → Nat → Int32)
def zRg : zRl → Nat → Nat → Nat
  | [], _, _ => 0
  | (a, j, v) :: t, b, i => bif Nat.beq a b && Nat.beq j i then v else zRg t b i
def zRw (R : zRl) (a : Nat) : zRl := R.filter fun q => !(Nat.beq q.1 a)
abbrev zR : Type := Option (Option Value × zH)
abbrev zX : Type := Option (Nat × (Nat → Int32))
def zI1 (st : List Value) (k : Int32 → List Value → zR) : zR := match st with
  | .int x :: r => k x r
  | _ => none
def zI2 (st : List Value) (k : Int32 → Int32 → List Value → zR) : zR := match st with
  | .int y :: .int x :: r => k x y r
  | _ => none
def zJ1 (st : List Value) (k : Int64 → List Value → zR) : zR := match st with
  | .long x :: r => k x r
  | _ => none
def zJ2 (st : List Value) (k : Int64 → Int64 → List Value → zR) : zR := match st with
  | .long y :: .long x :: r => k x y r
  | _ => none
def zA1 (st : List Value) (k : Nat → List Value → zR) : zR := match st with
  | .ref a :: r => k a r
  | _ => none
def zTo (pc : Nat) (off : Int) (k : Nat → zR) : zR := match (pc : Int) + off with
  | .ofNat t => k t
  | _ => none
def zGo (b : Prop) [Decidable b] (k : zR) : zR := if b then k else none
def zSh (h : zH) (a : Nat) : Option (Nat × Nat × Nat) := match a with
  | 0 => none
  | k + 1 => h.1[k]?
def zRv (r : Nat) : Value := match r with
  | 0 => .null
  | k + 1 => .ref (k + 1)
def zUp {α : Type} (f : Nat → Nat → α) (a i : Nat) (v : α) : Nat → Nat → α := fun b j => if b = a then (if j = i then v else f b j) else f b j
def zRow {α : Type} (f : Nat → Nat → α) (a : Nat) (g : Nat → α) : Nat → Nat → α := fun b => if b = a then g else f b
def zClr (i : Nat) (L : List (Option Value)) : List (Option Value) := match i with
  | 0 => L
  | j + 1 => match L[j]? with
    | some (some v) => if v.category = 2 then L.set j none else L
    | _ => L
def zS1 (L : List (Option Value)) (i : Nat) (v : Value) : List (Option Value) := (zClr i L).set i (some v)
def zS2 (L : List (Option Value)) (i : Nat) (v : Value) : List (Option Value) := ((zClr i L).set i (some v)).set (i + 1) none
def zCnd (c : Jvm.ClassFile.Cond) (x y : Int32) (k1 k2 : zR) : zR := match c with
  | .eq => if x = y then k1 else k2
  | .ne => if x = y then k2 else k1
  | .lt => if x < y then k1 else k2
  | .ge => if y ≤ x then k1 else k2
  | .gt => if y < x then k1 else k2
  | .le => if x ≤ y then k1 else k2
def zLI (L : List (Option Value)) (i : Nat) (k : Int32 → zR) : zR := match L[i]? with
  | some (some (.int x)) => k x
  | _ => none
def zLJ (L : List (Option Value)) (i : Nat) (k : Int64 → zR) : zR := match L[i]? with
  | some (some (.long x)) => k x
  | _ => none
def zLA (L : List (Option Value)) (i : Nat) (k : Nat → zR) : zR := match L[i]? with
  | some (some (.ref x)) => k x
  | _ => none
def zCat (st : List Value) : Nat := (st.map fun v => v.category).sum
def zArgs (vs : List Value) : List (Option Value) := vs.flatMap fun v => if v.category = 2 then [some v, none] else [some v]
def zEnt (maxL : Nat) (vs : List Value) : zFr := (0, zArgs vs ++ List.replicate (maxL - (zArgs vs).length) none, [])
/-- a constant pool's row, of a kind -/
def zCp (o i kind : Nat) (k : Nat → Nat → Int → zR) : zR := match zcp o i with
  | some (q, a, b, c) => if q = kind then k a b c else none
  | none => none
def zFd (ci k : Nat) : Option (Nat × Bool) := (zfd[ci]?).bind fun l => l[k]?
def zFn (ci : Nat) : Nat := (zfd.getD ci []).length

/-- what is held is of cells that are there -/
def zVk (n : Nat) : Value → Bool
  | .ref (k + 1) => decide (k < n)
  | _ => true
def zVs (n : Nat) (L : List (Option Value)) (st : List Value) : Bool := (L.all fun o => match o with
  | some v => zVk n v
  | none => true) && st.all (zVk n)
def zHok (h : zH) : Bool := (List.range h.1.length).all fun k => match h.1[k]? with
  | some (0, ci, _) => (List.range (zFn ci)).all fun j => decide (zRg h.2.1 (k + 1) j ≤ h.1.length)
  | _ => true
def zNr : Option Value → Bool
  | some (.ref _) => false
  | _ => true
def zKeep (h h' : zH) (L : List (Option Value)) (st : List Value) (v : Option Value) (k : zR) : zR := zGo (zNr v = true) (if h'.1.length = h.1.length then k else zGo (zVs h.1.length L st = true) k)
/-- one instruction: K goes on, C calls a method; o: whose constant pool; M: the method; d: how many calls may stand open above this one -/
def zdo (xs : zX) (d o M : Nat) (K : zFr → zH → zR) (C : Nat → List Value → zH → (Option Value → zH → zR) → zR) (i : Instr) (len pc : Nat) (L : List (Option Value)) (st : List Value) (h : zH) : zR :=
  match i with
  | .iload_n k => zLI L k fun x => K (pc + 1, L, .int x :: st) h
  | .iload k => zLI L k fun x => K (pc + 2, L, .int x :: st) h
  | .lload_n k => zLJ L k fun x => K (pc + 1, L, .long x :: st) h
  | .lload k => zLJ L k fun x => K (pc + 2, L, .long x :: st) h
  | .aload_n k => zLA L k fun x => K (pc + 1, L, .ref x :: st) h
  | .aload k => zLA L k fun x => K (pc + 2, L, .ref x :: st) h
  | .iconst n => K (pc + 1, L, .int (Int32.ofInt n) :: st) h
  | .bipush n => K (pc + 2, L, .int (Int8.ofInt n).toInt32 :: st) h
  | .sipush n => K (pc + 3, L, .int (Int16.ofInt n).toInt32 :: st) h
  | .lconst n => K (pc + 1, L, .long (Int64.ofNat (n : Nat)) :: st) h
  | .ldc n => zCp o n 2 fun _ _ c => K (pc + 2, L, .int (Int32.ofInt c) :: st) h
  | .ldc_w n => zCp o n 2 fun _ _ c => K (pc + 3, L, .int (Int32.ofInt c) :: st) h
  | .ldc2_w n => zCp o n 3 fun _ _ c => K (pc + 3, L, .long (Int64.ofInt c) :: st) h
  | .istore_n k => zI1 st fun x r => zGo ((k : Nat) < L.length) (K (pc + 1, zS1 L k (.int x), r) h)
  | .istore k => zI1 st fun x r => zGo (k < L.length) (K (pc + 2, zS1 L k (.int x), r) h)
  | .astore_n k => zA1 st fun x r => zGo ((k : Nat) < L.length) (K (pc + 1, zS1 L k (.ref x), r) h)
  | .lstore_n k => zJ1 st fun x r => zGo ((k : Nat) + 1 < L.length) (K (pc + 1, zS2 L k (.long x), r) h)
  | .lstore k => zJ1 st fun x r => zGo (k + 1 < L.length) (K (pc + 2, zS2 L k (.long x), r) h)
  | .iinc k n => zLI L k fun x => K (pc + 3, zS1 L k (.int (x + Int32.ofInt n)), st) h
  | .goto off => zTo pc off fun t => K (t, L, st) h
  | .if_icmp c off => zI2 st fun x y r => zTo pc off fun t => zCnd c x y (K (t, L, r) h) (K (pc + 3, L, r) h)
  | .ifCond c off => zI1 st fun x r => zTo pc off fun t => zCnd c x 0 (K (t, L, r) h) (K (pc + 3, L, r) h)
  | .ifnull _ => zA1 st fun _ r => K (pc + 3, L, r) h
  | .ifnonnull off => zA1 st fun _ r => zTo pc off fun t => K (t, L, r) h
  | .tableswitch d lo hi offs => zI1 st fun x r => if x.toInt < lo ∨ hi < x.toInt then zTo pc d fun t => K (t, L, r) h
      else match offs[(x.toInt - lo).toNat]? with
        | some off => zTo pc off fun t => K (t, L, r) h
        | none => none
  | .lookupswitch d ps => zI1 st fun x r => zGo ((ps.toList.zip (ps.toList.drop 1)).all (fun (a, next) => a.1 < next.1) = true) (zTo pc (Op.lookupswitch.offset ps.toList d x.toInt) fun t => K (t, L, r) h)
  | .dup => match st with
    | v :: r => zGo (v.category = 1) (K (pc + 1, L, v :: v :: r) h)
    | _ => none
  | .dup2 => match st with
    | v :: w :: r => zGo (v.category = 1 ∧ w.category = 1) (K (pc + 1, L, v :: w :: v :: w :: r) h)
    | _ => none
  | .iadd => zI2 st fun x y r => K (pc + 1, L, .int (x + y) :: r) h
  | .isub => zI2 st fun x y r => K (pc + 1, L, .int (x - y) :: r) h
  | .imul => zI2 st fun x y r => K (pc + 1, L, .int (x * y) :: r) h
  | .iand => zI2 st fun x y r => K (pc + 1, L, .int (x &&& y) :: r) h
  | .ior => zI2 st fun x y r => K (pc + 1, L, .int (x ||| y) :: r) h
  | .ixor => zI2 st fun x y r => K (pc + 1, L, .int (x ^^^ y) :: r) h
  | .ishl => zI2 st fun x y r => K (pc + 1, L, .int (x <<< (y &&& 31)) :: r) h
  | .ishr => zI2 st fun x y r => K (pc + 1, L, .int (x >>> (y &&& 31)) :: r) h
  | .iushr => zI2 st fun x y r => K (pc + 1, L, .int (x.toUInt32 >>> (y.toUInt32 &&& Int32.toUInt32 31)).toInt32 :: r) h
  | .idiv => zI2 st fun x y r => zGo (¬ y = 0) (K (pc + 1, L, .int (x / y) :: r) h)
  | .irem => zI2 st fun x y r => zGo (¬ y = 0) (K (pc + 1, L, .int (x - x / y * y) :: r) h)
  | .ladd => zJ2 st fun x y r => K (pc + 1, L, .long (x + y) :: r) h
  | .lsub => zJ2 st fun x y r => K (pc + 1, L, .long (x - y) :: r) h
  | .lmul => zJ2 st fun x y r => K (pc + 1, L, .long (x * y) :: r) h
  | .lor => zJ2 st fun x y r => K (pc + 1, L, .long (x ||| y) :: r) h
  | .lxor => zJ2 st fun x y r => K (pc + 1, L, .long (x ^^^ y) :: r) h
  | .ldiv => zJ2 st fun x y r => zGo (¬ y = 0) (K (pc + 1, L, .long (x / y) :: r) h)
  | .lrem => zJ2 st fun x y r => zGo (¬ y = 0) (K (pc + 1, L, .long (x - x / y * y) :: r) h)
  | .lshl => zI1 st fun y r => zJ1 r fun x r => K (pc + 1, L, .long (x <<< (y.toInt64 &&& 63)) :: r) h
  | .lushr => zI1 st fun y r => zJ1 r fun x r => K (pc + 1, L, .long (x.toUInt64 >>> (y.toInt64.toUInt64 &&& Int64.toUInt64 63)).toInt64 :: r) h
  | .lcmp => zJ2 st fun x y r => K (pc + 1, L, .int (lg_cmp x y) :: r) h
  | .i2l => zI1 st fun x r => K (pc + 1, L, .long x.toInt64 :: r) h
  | .l2i => zJ1 st fun x r => K (pc + 1, L, .int x.toInt32 :: r) h
  | .getfield n => zA1 st fun a r => zCp o n 1 fun ci k _ => match zSh h a with
    | some (0, cj, _) => zGo (cj = ci) (match zFd ci k with
      | some (2, _) => K (pc + 3, L, zRv (zRg h.2.1 a k) :: r) h
      | some _ => K (pc + 3, L, .int (h.2.2 a k) :: r) h
      | none => none)
    | _ => none
  | .putfield n => match st with
    | .int x :: .ref a :: r => zCp o n 1 fun ci k nest => match zSh h a with
      | some (0, cj, _) => zGo (cj = ci ∧ nest = 0) (match zFd ci k with
        | some (0, false) => K (pc + 3, L, r) (h.1, h.2.1, zUp h.2.2 a k x)
        | some (1, false) => zGo (x = 0 ∨ x = 1) (K (pc + 3, L, r) (h.1, h.2.1, zUp h.2.2 a k x))
        | _ => none)
      | _ => none
    | .ref (q + 1) :: .ref a :: r => zCp o n 1 fun ci k nest => match zSh h a with
      | some (0, cj, _) => zGo (cj = ci ∧ nest = 0 ∧ q < h.1.length) (match zFd ci k with
        | some (2, true) => zGo (zKd M = 2 ∧ o = ci) (K (pc + 3, L, r) (h.1, (a, k, q + 1) :: h.2.1, h.2.2))
        | _ => none)
      | _ => none
    | _ => none
  | .iaload => zI1 st fun i r => zA1 r fun a r => match a, xs with
    | 0, some (n, f) => zGo (¬ (i < 0 ∨ n ≤ i.toNatClampNeg)) (K (pc + 1, L, .int (f i.toNatClampNeg) :: r) h)
    | 0, none => none
    | a + 1, _ => match zSh h (a + 1) with
      | some (1, 0, n) => zGo (¬ (i < 0 ∨ n ≤ i.toNatClampNeg)) (K (pc + 1, L, .int (h.2.2 (a + 1) i.toNatClampNeg) :: r) h)
      | _ => none
  | .baload => zI1 st fun i r => zA1 r fun a r => match zSh h a with
    | some (1, 1, n) => zGo (¬ (i < 0 ∨ n ≤ i.toNatClampNeg)) (K (pc + 1, L, .int (h.2.2 a i.toNatClampNeg) :: r) h)
    | _ => none
  | .iastore => zI2 st fun i x r => zA1 r fun a r => match zSh h a with
    | some (1, 0, n) => zGo (¬ (i < 0 ∨ n ≤ i.toNatClampNeg)) (K (pc + 1, L, r) (h.1, h.2.1, zUp h.2.2 a i.toNatClampNeg x))
    | _ => none
  | .bastore => zI2 st fun i x r => zA1 r fun a r => match zSh h a with
    | some (1, 1, n) => zGo (¬ (i < 0 ∨ n ≤ i.toNatClampNeg) ∧ (x = 0 ∨ x = 1)) (K (pc + 1, L, r) (h.1, h.2.1, zUp h.2.2 a i.toNatClampNeg x))
    | _ => none
  | .arraylength => zA1 st fun a r => match a, xs with
    | 0, some (n, _) => K (pc + 1, L, .int (Int32.ofNat n) :: r) h
    | 0, none => none
    | a + 1, _ => match zSh h (a + 1) with
      | some (1, _, n) => K (pc + 1, L, .int (Int32.ofNat n) :: r) h
      | _ => none
  | .newarray ty => zI1 st fun n r => match ty with
    | .int => zGo (¬ n < 0 ∧ n.toNatClampNeg ≤ 100000 ∧ zVs h.1.length L r = true ∧ zHok h = true) (K (pc + 2, L, .ref (h.1.length + 1) :: r) (h.1 ++ [(1, 0, n.toNatClampNeg)], h.2.1, zRow h.2.2 (h.1.length + 1) (fun _ => 0)))
    | .boolean => zGo (¬ n < 0 ∧ n.toNatClampNeg ≤ 100000 ∧ zVs h.1.length L r = true ∧ zHok h = true) (K (pc + 2, L, .ref (h.1.length + 1) :: r) (h.1 ++ [(1, 1, n.toNatClampNeg)], h.2.1, zRow h.2.2 (h.1.length + 1) (fun _ => 0)))
    | _ => none
  | .new n => zCp o n 4 fun ci _ _ => zGo (zVs h.1.length L st = true ∧ zHok h = true) (K (pc + 3, L, .ref (h.1.length + 1) :: st) (h.1 ++ [(0, ci, zFn ci)], zRw h.2.1 (h.1.length + 1), zRow h.2.2 (h.1.length + 1) (fun _ => 0)))
  | .invokestatic n => match zcp o n with
    | some (5, N, _, _) => zGo (zKd N = 1 ∧ zPn N ≤ st.length ∧ zCat (st.drop (zPn N)) ≤ 8) (C N (st.take (zPn N)).reverse h fun v h' => zKeep h h' L (st.drop (zPn N)) v (K (pc + 3, L, v.toList ++ st.drop (zPn N)) h'))
    | some (7, _, _, _) => match st with
      | .int n :: .int dp :: .ref a :: .int sp :: .ref a0 :: r => match zSh h a0, zSh h a with
        | some (1, 0, n0), some (1, 0, n1) => zGo (¬ sp < 0 ∧ ¬ dp < 0 ∧ ¬ n < 0 ∧ sp.toNatClampNeg + n.toNatClampNeg ≤ n0 ∧ dp.toNatClampNeg + n.toNatClampNeg ≤ n1 ∧ 0 < d ∧ zCat r ≤ 8) (K (pc + 3, L, r) (h.1, h.2.1, zRow h.2.2 a (va_cpy (h.2.2 a0) (h.2.2 a) sp.toNatClampNeg dp.toNatClampNeg n.toNatClampNeg)))
        | _, _ => none
      | _ => none
    | some (8, _, _, _) => zI2 st fun x y r => zGo (0 < d ∧ zCat r ≤ 8) (K (pc + 3, L, .int (if x < y then y else x) :: r) h)
    | some (9, _, _, _) => zI2 st fun x y r => zGo (0 < d ∧ zCat r ≤ 8) (K (pc + 3, L, .int (if y < x then y else x) :: r) h)
    | some (10, _, _, _) => zJ2 st fun x y r => zGo (0 < d ∧ zCat r ≤ 8) (K (pc + 3, L, .long (if y < x then x else y) :: r) h)
    | _ => none
  | .invokevirtual n => zCp o n 5 fun N _ _ => match st.drop (zPn N) with
    | .ref a :: r => match zSh h a with
      | some (0, cj, _) => zGo (zKd N = 0 ∧ cj = zOw N ∧ zPn N ≤ st.length ∧ zCat r ≤ 8) (C N (.ref a :: (st.take (zPn N)).reverse) h fun v h' => zKeep h h' L r v (K (pc + 3, L, v.toList ++ r) h'))
      | _ => none
    | _ => none
  | .invokespecial n => match zcp o n with
    | some (5, N, _, _) => match st.drop (zPn N) with
      | .ref a :: r => zGo (zKd N = 2 ∧ zPn N ≤ st.length ∧ zCat r ≤ 8) (C N (.ref a :: (st.take (zPn N)).reverse) h fun v h' => zKeep h h' L r v (K (pc + 3, L, v.toList ++ r) h'))
      | _ => none
    | some (6, _, _, _) => match st with
      | .ref _ :: r => zGo (0 < d ∧ zCat r ≤ 8) (K (pc + 3, L, r) h)
      | _ => none
    | _ => none
  | .ireturn => match st with
    | [.int x] => match zRt M with
      | some .int => some (some (.int x), h)
      | some .boolean => zGo (x = 0 ∨ x = 1) (some (some (.int x), h))
      | _ => none
    | _ => none
  | .lreturn => match st with
    | [.long x] => zGo (zRt M = some .long) (some (some (.long x), h))
    | _ => none
  | .return_ => match st with
    | [] => zGo (zRt M = none) (some (none, h))
    | _ => none
  | _ => none
def zin (M pc : Nat) : Option (Instr × Nat) := (zml[M]?).bind fun r => r.2.2.2.2.2.2.2.lookup pc
/-- n: how many instructions at the most; d: how many calls may stand open above this one -/
def zrun (xs : zX) : Nat → Nat → Nat → zFr → zH → zR
  | 0, _, _, _, _ => none
  | n + 1, d, M, f, h => match zin M f.1 with
    | none => none
    | some (i, len) => zdo xs d (zOw M) M (fun f h => zrun xs n d M f h) (fun N vs h k => match d with
      | 0 => none
      | d + 1 => zGo ((zArgs vs).length ≤ zMl N) (match zrun none n d N (zEnt (zMl N) vs) h with
        | some (v, h') => k v h'
        | none => none)) i len f.1 f.2.1 f.2.2 h
def zEv (xs : zX) (d M : Nat) (f : zFr) (h : zH) (v : Option Value) (h' : zH) : Prop := ∃ n, zrun xs n d M f h = some (v, h')
def zCall (d M : Nat) (vs : List Value) (h : zH) (v : Option Value) (h' : zH) : Prop := zEv none d M (zEnt (zMl M) vs) h v h'
