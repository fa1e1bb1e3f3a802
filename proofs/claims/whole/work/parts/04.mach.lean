/-! A SMALL MACHINE of whole numbers: what the walked methods do, as a function that computes. Ints and longs are whole numbers (kept in their range), references are numbers: 0 none, k + 1 the k-th cell that was made; and those of things outside: 0 the script, 1 a thing that nobody looks at, 10 + j the j-th text constant, 40 + j its bytes. -/
def w32 (x : Int) : Int := (x + 2147483648) % 4294967296 - 2147483648
def w64 (x : Int) : Int := (x + 9223372036854775808) % 18446744073709551616 - 9223372036854775808
def w16 (x : Int) : Int := (x + 32768) % 65536 - 32768
def iandI (x y : Int) : Int := (Int32.ofInt x &&& Int32.ofInt y).toInt
def iorI (x y : Int) : Int := (Int32.ofInt x ||| Int32.ofInt y).toInt
def ishlI (x y : Int) : Int := (Int32.ofInt x <<< (Int32.ofInt y &&& 31)).toInt
def ishrI (x y : Int) : Int := (Int32.ofInt x >>> (Int32.ofInt y &&& 31)).toInt
def iushrI (x y : Int) : Int := ((Int32.ofInt x).toUInt32 >>> ((Int32.ofInt y).toUInt32 &&& Int32.toUInt32 31)).toInt32.toInt
def lshlI (x y : Int) : Int := (Int64.ofInt x <<< ((Int32.ofInt y).toInt64 &&& 63)).toInt
def lorI (x y : Int) : Int := (Int64.ofInt x ||| Int64.ofInt y).toInt
def lcmpI (x y : Int) : Int := if x < y then -1 else if x = y then 0 else 1
abbrev AV : Type := Int ⊕ (Int ⊕ (Nat ⊕ Nat))
abbrev Mm : Type := (Nat → Nat → Int) × (Nat → Nat → Nat) × List (Nat × Nat)
abbrev Fr : Type := List (Option AV) × List AV × Mm
abbrev Xs : Type := Nat × (Nat → Int)
def sl {α : Type} : List α → Nat → α → List α
  | [], _, _ => []
  | _ :: l, 0, v => v :: l
  | a :: l, k + 1, v => a :: sl l k v
def up (V : Nat → Nat → Int) (a b : Nat) (x : Int) : Nat → Nat → Int := fun i j => if i = a then (if j = b then x else V i j) else V i j
def upG (V : Nat → Nat → Nat) (a b : Nat) (x : Nat) : Nat → Nat → Nat := fun i j => if i = a then (if j = b then x else V i j) else V i j
def zr (V : Nat → Nat → Int) (a : Nat) : Nat → Nat → Int := fun i j => if i = a then 0 else V i j
def zrG (V : Nat → Nat → Nat) (a : Nat) : Nat → Nat → Nat := fun i j => if i = a then 0 else V i j
def isL : AV → Bool
  | .inr (.inl _) => true
  | _ => false
def isLo : Option (Option AV) → Bool
  | some (some v) => isL v
  | _ => false
/-- a value of one word into place k: there is no long a place ahead -/
def st1 (L : List (Option AV)) (k : Nat) (v : AV) : Option (List (Option AV)) :=
  match k with
  | 0 => some (sl L 0 (some v))
  | j + 1 => match isLo (gl L j) with
    | true => none
    | false => some (sl L (j + 1) (some v))
def st2 (L : List (Option AV)) (k : Nat) (v : AV) : Option (List (Option AV)) :=
  match k with
  | 0 => some (sl (sl L 0 (some v)) 1 none)
  | j + 1 => match isLo (gl L j) with
    | true => none
    | false => some (sl (sl L (j + 1) (some v)) (j + 2) none)
def getf (c k a : Nat) (M : Mm) : Option AV :=
  match a with
  | 0 => none
  | id + 1 => match gl M.2.2 id with
    | none => none
    | some q => match Nat.beq q.1 c with
      | false => none
      | true => match fk c k with
        | none => none
        | some 3 => some (.inr (.inr (.inl (M.2.1 id k))))
        | some 2 => some (.inr (.inl (M.1 id k)))
        | some _ => some (.inl (M.1 id k))
def isB (x : Int) : Bool := x == 0 || x == 1
def putf (c k a : Nat) (v : AV) (M : Mm) : Option Mm :=
  match a with
  | 0 => none
  | id + 1 => match gl M.2.2 id with
    | none => none
    | some q => match Nat.beq q.1 c with
      | false => none
      | true => match fk c k, v with
        | some 3, .inr (.inr (.inl r)) => some (M.1, upG M.2.1 id k r, M.2.2)
        | some 2, .inr (.inl x) => some (up M.1 id k x, M.2.1, M.2.2)
        | some 1, .inl x => match isB x with
          | true => some (up M.1 id k x, M.2.1, M.2.2)
          | false => none
        | some 0, .inl x => some (up M.1 id k x, M.2.1, M.2.2)
        | _, _ => none
def alen (a : Nat) (M : Mm) : Option Int :=
  match a with
  | 0 => none
  | id + 1 => match gl M.2.2 id with
    | none => none
    | some q => if 100 ≤ q.1 then some (q.2 : Int) else none
def atK : ArrayType → Nat
  | .long => 101
  | .short => 102
  | .boolean => 103
  | .int => 100
  | _ => 0
def newO (c : Nat) (M : Mm) : Mm := (zr M.1 M.2.2.length, zrG M.2.1 M.2.2.length, M.2.2 ++ [(c, 0)])
def newA (k n : Nat) (M : Mm) : Mm := (zr M.1 M.2.2.length, zrG M.2.1 M.2.2.length, M.2.2 ++ [(k, n)])
/-- one instruction that goes on in its row -/
def op1 (X : Xs) (i : Instr) (L : List (Option AV)) (S : List AV) (M : Mm) : Option Fr :=
  match i with
  | .iconst v => some (L, .inl v :: S, M)
  | .jsr_w v => some (L, .inr (.inl v) :: S, M)
  | .ldc j => some (L, .inr (.inr (.inr (10 + j))) :: S, M)
  | .getstatic k => match k with
    | 0 => some (L, .inl 1 :: S, M)
    | _ => some (L, .inr (.inr (.inr 1)) :: S, M)
  | .iload k => match gl L k with
    | some (some (.inl x)) => some (L, .inl x :: S, M)
    | _ => none
  | .lload k => match gl L k with
    | some (some (.inr (.inl x))) => some (L, .inr (.inl x) :: S, M)
    | _ => none
  | .aload k => match gl L k with
    | some (some (.inr (.inr r))) => some (L, .inr (.inr r) :: S, M)
    | _ => none
  | .istore k => match S with
    | .inl x :: S => match st1 L k (.inl x) with
      | some L => some (L, S, M)
      | none => none
    | _ => none
  | .astore k => match S with
    | .inr (.inr r) :: S => match st1 L k (.inr (.inr r)) with
      | some L => some (L, S, M)
      | none => none
    | _ => none
  | .lstore k => match S with
    | .inr (.inl x) :: S => match st2 L k (.inr (.inl x)) with
      | some L => some (L, S, M)
      | none => none
    | _ => none
  | .iinc k n => match gl L k with
    | some (some (.inl x)) => match st1 L k (.inl (w32 (x + n))) with
      | some L => some (L, S, M)
      | none => none
    | _ => none
  | .iadd => match S with
    | .inl y :: .inl x :: S => some (L, .inl (w32 (x + y)) :: S, M)
    | _ => none
  | .isub => match S with
    | .inl y :: .inl x :: S => some (L, .inl (w32 (x - y)) :: S, M)
    | _ => none
  | .imul => match S with
    | .inl y :: .inl x :: S => some (L, .inl (w32 (x * y)) :: S, M)
    | _ => none
  | .ineg => match S with
    | .inl x :: S => some (L, .inl (w32 (-x)) :: S, M)
    | _ => none
  | .iand => match S with
    | .inl y :: .inl x :: S => some (L, .inl (iandI x y) :: S, M)
    | _ => none
  | .ior => match S with
    | .inl y :: .inl x :: S => some (L, .inl (iorI x y) :: S, M)
    | _ => none
  | .ishl => match S with
    | .inl y :: .inl x :: S => some (L, .inl (ishlI x y) :: S, M)
    | _ => none
  | .ishr => match S with
    | .inl y :: .inl x :: S => some (L, .inl (ishrI x y) :: S, M)
    | _ => none
  | .iushr => match S with
    | .inl y :: .inl x :: S => some (L, .inl (iushrI x y) :: S, M)
    | _ => none
  | .ladd => match S with
    | .inr (.inl y) :: .inr (.inl x) :: S => some (L, .inr (.inl (w64 (x + y))) :: S, M)
    | _ => none
  | .lsub => match S with
    | .inr (.inl y) :: .inr (.inl x) :: S => some (L, .inr (.inl (w64 (x - y))) :: S, M)
    | _ => none
  | .lmul => match S with
    | .inr (.inl y) :: .inr (.inl x) :: S => some (L, .inr (.inl (w64 (x * y))) :: S, M)
    | _ => none
  | .lneg => match S with
    | .inr (.inl x) :: S => some (L, .inr (.inl (w64 (-x))) :: S, M)
    | _ => none
  | .lshl => match S with
    | .inl y :: .inr (.inl x) :: S => some (L, .inr (.inl (lshlI x y)) :: S, M)
    | _ => none
  | .lor => match S with
    | .inr (.inl y) :: .inr (.inl x) :: S => some (L, .inr (.inl (lorI x y)) :: S, M)
    | _ => none
  | .lcmp => match S with
    | .inr (.inl y) :: .inr (.inl x) :: S => some (L, .inl (lcmpI x y) :: S, M)
    | _ => none
  | .i2l => match S with
    | .inl x :: S => some (L, .inr (.inl x) :: S, M)
    | _ => none
  | .l2i => match S with
    | .inr (.inl x) :: S => some (L, .inl (w32 x) :: S, M)
    | _ => none
  | .i2s => match S with
    | .inl x :: S => some (L, .inl (w16 x) :: S, M)
    | _ => none
  | .i2c => match S with
    | .inl x :: S => some (L, .inl (x % 65536) :: S, M)
    | _ => none
  | .dup => match S with
    | .inl x :: S => some (L, .inl x :: .inl x :: S, M)
    | .inr (.inr r) :: S => some (L, .inr (.inr r) :: .inr (.inr r) :: S, M)
    | _ => none
  | .dup2 => match S with
    | .inl y :: .inr (.inr x) :: S => some (L, .inl y :: .inr (.inr x) :: .inl y :: .inr (.inr x) :: S, M)
    | _ => none
  | .pop => match S with
    | .inl _ :: S => some (L, S, M)
    | .inr (.inr _) :: S => some (L, S, M)
    | _ => none
  | .pop2 => match S with
    | .inr (.inl _) :: S => some (L, S, M)
    | _ => none
  | .nop => match S with
    | [.inr (.inr (.inl (_ + 1)))] => some (L, [], M)
    | _ => none
  | .getfield r => match S with
    | .inr (.inr (.inl a)) :: S => match getf (r / 1000) (r % 1000) a M with
      | some v => some (L, v :: S, M)
      | none => none
    | _ => none
  | .putfield r => match S with
    | v :: .inr (.inr (.inl a)) :: S => match putf (r / 1000) (r % 1000) a v M with
      | some M => some (L, S, M)
      | none => none
    | _ => none
  | .instanceof k => match S with
    | .inr (.inr (.inr a)) :: S => match Nat.ble 10 a && Nat.blt a 23 with
      | true => match k with
        | 0 => some (L, .inr (.inr (.inr (a + 30))) :: S, M)
        | _ => some (L, .inl 0 :: S, M)
      | false => none
    | _ => none
  | .fadd => match S with
    | .inr (.inr (.inr 0)) :: S => some (L, .inl (X.1 : Int) :: S, M)
    | _ => none
  | .fsub => match S with
    | .inr (.inr (.inr a)) :: S => match Nat.ble 40 a with
      | true => match gl SBY (a - 40) with
        | some l => some (L, .inl (l.length : Int) :: S, M)
        | none => none
      | false => none
    | _ => none
  | .new c => match Nat.blt c 13 with
    | true => some (L, .inr (.inr (.inl (M.2.2.length + 1))) :: S, newO c M)
    | false => none
  | .newarray t => match S with
    | .inl n :: S => match Nat.ble 100 (atK t) && (decide (0 ≤ n) && decide (n ≤ 1000000)) with
      | true => some (L, .inr (.inr (.inl (M.2.2.length + 1))) :: S, newA (atK t) n.toNat M)
      | false => none
    | _ => none
  | _ => none
def runB (X : Xs) : List Instr → Fr → Option Fr
  | [], s => some s
  | i :: is, s => match op1 X i s.1 s.2.1 s.2.2 with
    | some s' => runB X is s'
    | none => none
def cnd : ClassFile.Cond → Int → Int → Bool
  | .eq, x, y => decide (x = y)
  | .ne, x, y => !decide (x = y)
  | .lt, x, y => decide (x < y)
  | .ge, x, y => decide (y ≤ x)
  | .gt, x, y => decide (y < x)
  | .le, x, y => decide (x ≤ y)
def luk : List (Int × Int) → List Nat → Nat → Int → Nat
  | (k, _) :: r, t :: ts, d, x => if x = k then t else luk r ts d x
  | _, _, d, _ => d
def aidx (k : Nat) (a : Nat) (i : Int) (M : Mm) : Bool := match a with
  | 0 => false
  | id + 1 => match gl M.2.2 id with
    | none => false
    | some q => Nat.beq q.1 k && (decide (0 ≤ i) && decide (i < (q.2 : Int)))
def catS : List AV → Nat
  | [] => 0
  | .inr (.inl _) :: S => 2 + catS S
  | _ :: S => 1 + catS S
def entL : List AV → Nat → List (Option AV)
  | _, 0 => []
  | [], n + 1 => none :: entL [] n
  | .inr (.inl x) :: vs, n + 2 => some (.inr (.inl x)) :: none :: entL vs n
  | v :: vs, n + 1 => some v :: entL vs n
def rcvOk (y : Nat) (args : List AV) (M : Mm) : Bool := match (gl RCV y).getD 99 with
  | 99 => true
  | c => match args with
    | .inr (.inr (.inl (id + 1))) :: _ => match gl M.2.2 id with
      | some q => Nat.beq q.1 c
      | none => false
    | .inr (.inr (.inr a)) :: _ => Nat.beq c 50 && (Nat.ble 10 a && Nat.blt a 23)
    | _ => false
def cpy (f g : Nat → Int) (sp dp n : Nat) : Nat → Int := fun k => if dp ≤ k ∧ k < dp + n then f (sp + (k - dp)) else g k
def upR (V : Nat → Nat → Int) (a : Nat) (f : Nat → Int) : Nat → Nat → Int := fun i j => if i = a then f j else V i j
abbrev Res : Type := Option (Mm × Option AV)
/-- how a block ends: 'rec' is what goes on -/
def trm (X : Xs) (rec : Nat → Nat → Nat → Fr → Res) (d y : Nat) (t : Instr) (tg : List Nat) (L : List (Option AV)) (S : List AV) (M : Mm) : Res :=
  match t with
  | .goto _ => rec d y (tb tg 0) (L, S, M)
  | .nop => rec d y (tb tg 0) (L, S, M)
  | .ifCond c _ => match S with
    | .inl x :: S => rec d y (if cnd c x 0 = true then tb tg 0 else tb tg 1) (L, S, M)
    | _ => none
  | .if_icmp c _ => match S with
    | .inl y1 :: .inl x :: S => rec d y (if cnd c x y1 = true then tb tg 0 else tb tg 1) (L, S, M)
    | _ => none
  | .tableswitch _ lo hi _ => match S with
    | .inl x :: S => rec d y (if x < lo ∨ hi < x then tb tg 0 else tb tg ((x - lo).toNat + 1)) (L, S, M)
    | _ => none
  | .lookupswitch _ ps => match S with
    | .inl x :: S => rec d y (luk ps.toList (tg.drop 1) (tb tg 0) x) (L, S, M)
    | _ => none
  | .ireturn => match S with
    | [.inl x] => some (M, some (.inl x))
    | _ => none
  | .freturn => match S with
    | [.inl x] => if isB x = true then some (M, some (.inl x)) else none
    | _ => none
  | .dreturn => match S with
    | [.inl x] => if 0 ≤ x ∧ x < 128 then some (M, some (.inl x)) else none
    | _ => none
  | .lreturn => match S with
    | [.inr (.inl x)] => some (M, some (.inr (.inl x)))
    | _ => none
  | .areturn => match S with
    | [.inr (.inr (.inl (r + 1)))] => some (M, some (.inr (.inr (.inl (r + 1)))))
    | _ => none
  | .return_ => match S with
    | [] => some (M, none)
    | _ => none
  | .iaload => match S with
    | .inl i :: .inr (.inr (.inl a)) :: S => if aidx 100 a i M = true then rec d y (tb tg 0) (L, .inl (M.1 (a - 1) i.toNat) :: S, M) else none
    | _ => none
  | .laload => match S with
    | .inl i :: .inr (.inr (.inl a)) :: S => if aidx 101 a i M = true then rec d y (tb tg 0) (L, .inr (.inl (M.1 (a - 1) i.toNat)) :: S, M) else none
    | _ => none
  | .saload => match S with
    | .inl i :: .inr (.inr (.inl a)) :: S => if aidx 102 a i M = true then rec d y (tb tg 0) (L, .inl (M.1 (a - 1) i.toNat) :: S, M) else none
    | _ => none
  | .baload => match S with
    | .inl i :: .inr (.inr (.inr a)) :: S => match gl (SBY.getD (a - 40) []) i.toNat with
      | some v => if 40 ≤ a ∧ 0 ≤ i then rec d y (tb tg 0) (L, .inl v :: S, M) else none
      | none => none
    | .inl i :: .inr (.inr (.inl a)) :: S => if aidx 103 a i M = true then rec d y (tb tg 0) (L, .inl (M.1 (a - 1) i.toNat) :: S, M) else none
    | _ => none
  | .faload => match S with
    | .inl i :: .inr (.inr (.inr 0)) :: S => if 0 ≤ i ∧ i < (X.1 : Int) then rec d y (tb tg 0) (L, .inl (X.2 i.toNat) :: S, M) else none
    | _ => none
  | .iastore => match S with
    | .inl v :: .inl i :: .inr (.inr (.inl a)) :: S => if aidx 100 a i M = true then rec d y (tb tg 0) (L, S, (up M.1 (a - 1) i.toNat v, M.2.1, M.2.2)) else none
    | _ => none
  | .lastore => match S with
    | .inr (.inl v) :: .inl i :: .inr (.inr (.inl a)) :: S => if aidx 101 a i M = true then rec d y (tb tg 0) (L, S, (up M.1 (a - 1) i.toNat v, M.2.1, M.2.2)) else none
    | _ => none
  | .sastore => match S with
    | .inl v :: .inl i :: .inr (.inr (.inl a)) :: S => if aidx 102 a i M = true then rec d y (tb tg 0) (L, S, (up M.1 (a - 1) i.toNat (w16 v), M.2.1, M.2.2)) else none
    | _ => none
  | .bastore => match S with
    | .inl v :: .inl i :: .inr (.inr (.inl a)) :: S => if aidx 103 a i M = true ∧ isB v = true then rec d y (tb tg 0) (L, S, (up M.1 (a - 1) i.toNat v, M.2.1, M.2.2)) else none
    | _ => none
  | .arraylength => match S with
    | .inr (.inr (.inl a)) :: S => match alen a M with
      | some v => rec d y (tb tg 0) (L, .inl v :: S, M)
      | none => none
    | _ => none
  | .idiv => match S with
    | .inl v :: .inl u :: S => if v = 0 then none else rec d y (tb tg 0) (L, .inl (w32 (u.tdiv v)) :: S, M)
    | _ => none
  | .irem => match S with
    | .inl v :: .inl u :: S => if v = 0 then none else rec d y (tb tg 0) (L, .inl (u.tmod v) :: S, M)
    | _ => none
  | .ldiv => match S with
    | .inr (.inl v) :: .inr (.inl u) :: S => if v = 0 then none else rec d y (tb tg 0) (L, .inr (.inl (w64 (u.tdiv v))) :: S, M)
    | _ => none
  | .invokedynamic zk => match zk with
    | 1 => match S with
      | .inl v :: .inl u :: S => if 1 ≤ d ∧ catS S ≤ 8 then rec d y (tb tg 0) (L, .inl (max u v) :: S, M) else none
      | _ => none
    | 2 => match S with
      | .inl v :: .inl u :: S => if 1 ≤ d ∧ catS S ≤ 8 then rec d y (tb tg 0) (L, .inl (min u v) :: S, M) else none
      | _ => none
    | 3 => match S with
      | .inr (.inl v) :: .inr (.inl u) :: S => if 1 ≤ d ∧ catS S ≤ 8 then rec d y (tb tg 0) (L, .inr (.inl (max u v)) :: S, M) else none
      | _ => none
    | 4 => match S with
      | .inr (.inl v) :: .inr (.inl u) :: S => if 1 ≤ d ∧ catS S ≤ 8 then rec d y (tb tg 0) (L, .inr (.inl (min u v)) :: S, M) else none
      | _ => none
    | 0 => match S with
      | .inl k :: .inl dp :: .inr (.inr (.inl q)) :: .inl sp :: .inr (.inr (.inl p)) :: S =>
        if 1 ≤ d ∧ catS S ≤ 8 ∧ p ≠ q ∧ 1 ≤ k ∧ 0 ≤ sp ∧ 0 ≤ dp ∧ aidx 100 p (sp + k - 1) M = true ∧ aidx 100 q (dp + k - 1) M = true then
          rec d y (tb tg 0) (L, S, (upR M.1 (q - 1) (cpy (M.1 (p - 1)) (M.1 (q - 1)) sp.toNat dp.toNat k.toNat), M.2.1, M.2.2)) else none
      | _ => none
    | _ => none
  | .invokevirtual y2 => match d with
    | 0 => none
    | d1 + 1 => if rcvOk y2 (S.take ((gl NARG y2).getD 0)).reverse M = true ∧ catS (S.drop ((gl NARG y2).getD 0)) ≤ 8 ∧ (gl NARG y2).getD 0 ≤ S.length ∧ catS (S.take ((gl NARG y2).getD 0)).reverse ≤ (gl MAXL y2).getD 0 then
      match rec d1 y2 0 (entL (S.take ((gl NARG y2).getD 0)).reverse ((gl MAXL y2).getD 0), [], M) with
        | some (M1, r) => rec d y (tb tg 0) (L, r.toList ++ S.drop ((gl NARG y2).getD 0), M1)
        | none => none
      else none
  | .invokestatic y2 => match d with
    | 0 => none
    | d1 + 1 => if rcvOk y2 (S.take ((gl NARG y2).getD 0)).reverse M = true ∧ catS (S.drop ((gl NARG y2).getD 0)) ≤ 8 ∧ (gl NARG y2).getD 0 ≤ S.length ∧ catS (S.take ((gl NARG y2).getD 0)).reverse ≤ (gl MAXL y2).getD 0 then
      match rec d1 y2 0 (entL (S.take ((gl NARG y2).getD 0)).reverse ((gl MAXL y2).getD 0), [], M) with
        | some (M1, r) => rec d y (tb tg 0) (L, r.toList ++ S.drop ((gl NARG y2).getD 0), M1)
        | none => none
      else none
  | .invokespecial y2 => match d with
    | 0 => none
    | d1 + 1 => if rcvOk y2 (S.take ((gl NARG y2).getD 0)).reverse M = true ∧ catS (S.drop ((gl NARG y2).getD 0)) ≤ 8 ∧ (gl NARG y2).getD 0 ≤ S.length ∧ catS (S.take ((gl NARG y2).getD 0)).reverse ≤ (gl MAXL y2).getD 0 then
      match rec d1 y2 0 (entL (S.take ((gl NARG y2).getD 0)).reverse ((gl MAXL y2).getD 0), [], M) with
        | some (M1, r) => rec d y (tb tg 0) (L, r.toList ++ S.drop ((gl NARG y2).getD 0), M1)
        | none => none
      else none
  | _ => none
def stp (X : Xs) (rec : Nat → Nat → Nat → Fr → Res) (d y b : Nat) (s : Fr) : Res :=
  match blkOf y b with
  | none => none
  | some q => match runB X q.1 s with
    | none => none
    | some u => trm X rec d y q.2.1 q.2.2 u.1 u.2.1 u.2.2
/-- the machine: so many turns, so many calls deep, a method, a block, locals, stack and memory -/
def run (X : Xs) : Nat → Nat → Nat → Nat → Fr → Res
  | 0, _, _, _, _ => none
  | n + 1, d, y, b, s => stp X (run X n) d y b s
