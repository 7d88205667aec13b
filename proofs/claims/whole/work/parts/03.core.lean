/-! The abstract machine: memory of numbered cells with typed contents, one step of the bytecode in continuation form. -/
/-- how many cells; of each its tag and its length; ints, longs, references by cell and place -/
abbrev zM : Type := Nat × (Nat → Nat × Nat) × (Nat → Nat → Int32) × (Nat → Nat → Int64) × (Nat → Nat → Option Nat)
def zN (M : zM) : Nat := M.1
def zK (M : zM) : Nat → Nat × Nat := M.2.1
def zI (M : zM) : Nat → Nat → Int32 := M.2.2.1
def zL (M : zM) : Nat → Nat → Int64 := M.2.2.2.1
def zR (M : zM) : Nat → Nat → Option Nat := M.2.2.2.2
def zu {α : Type} (f : Nat → Nat → α) (a i : Nat) (v : α) : Nat → Nat → α := fun b j => if b = a ∧ j = i then v else f b j
def zrow {α : Type} (f : Nat → Nat → α) (a : Nat) (g : Nat → α) : Nat → Nat → α := fun b j => if b = a then g j else f b j
def zsI (M : zM) (a i : Nat) (x : Int32) : zM := (M.1, M.2.1, zu M.2.2.1 a i x, M.2.2.2.1, M.2.2.2.2)
def zsL (M : zM) (a i : Nat) (x : Int64) : zM := (M.1, M.2.1, M.2.2.1, zu M.2.2.2.1 a i x, M.2.2.2.2)
def zsR (M : zM) (a i : Nat) (x : Option Nat) : zM := (M.1, M.2.1, M.2.2.1, M.2.2.2.1, zu M.2.2.2.2 a i x)
/-- a new cell of this tag and length, all default -/
def znew (M : zM) (tag n : Nat) : zM := (M.1 + 1, fun b => if b = M.1 then (tag, n) else M.2.1 b, zrow M.2.2.1 M.1 (fun _ => 0), zrow M.2.2.2.1 M.1 (fun _ => 0), zrow M.2.2.2.2 M.1 (fun _ => none))
/-- System.arraycopy between two rows of ints -/
def zcopy (M : zM) (src sp dst dp n : Nat) : zM := (M.1, M.2.1, zrow M.2.2.1 dst (va_cpy (M.2.2.1 src) (M.2.2.1 dst) sp dp n), M.2.2.2.1, M.2.2.2.2)
abbrev zO : Type := Option (Option Value × zM)
abbrev zLs : Type := List (Option Value)
abbrev zKt : Type := Nat → zLs → List Value → zM → zO
/-- pc, instruction, length, resolved operands -/
abbrev zC : Type := Nat × Instr × Nat × List Nat
def zok (b : Bool) (x : zO) : zO := match b with
  | true => x
  | false => none
def zif (c : Prop) [Decidable c] (x : zO) : zO := if c then x else none
def zin (j : Int32) (n : Nat) : Bool := decide (¬ j < 0) && decide (j.toNatClampNeg < n)
/-- a number out of its operands: [n], or [n, 1] for -n -/
def zci (r : List Nat) : Int32 := match r with
  | [n] => Int32.ofNat n
  | [n, _] => - Int32.ofNat n
  | _ => 0
def zcl (r : List Nat) : Int64 := match r with
  | [n] => Int64.ofNat n
  | [n, _] => - Int64.ofNat n
  | _ => 0
def z1i (st : List Value) (f : Int32 → List Value → zO) : zO := match st with
  | .int x :: s => f x s
  | _ => none
def z2i (st : List Value) (f : Int32 → Int32 → List Value → zO) : zO := match st with
  | .int y :: .int x :: s => f x y s
  | _ => none
def z1l (st : List Value) (f : Int64 → List Value → zO) : zO := match st with
  | .long x :: s => f x s
  | _ => none
def z2l (st : List Value) (f : Int64 → Int64 → List Value → zO) : zO := match st with
  | .long y :: .long x :: s => f x y s
  | _ => none
def zli (st : List Value) (f : Int64 → Int32 → List Value → zO) : zO := match st with
  | .int y :: .long x :: s => f x y s
  | _ => none
def z1r (st : List Value) (f : Nat → List Value → zO) : zO := match st with
  | .ref a :: s => f a s
  | _ => none
def zri (st : List Value) (f : Nat → Int32 → List Value → zO) : zO := match st with
  | .int j :: .ref a :: s => f a j s
  | _ => none
def zrl (st : List Value) (f : Nat → Int64 → List Value → zO) : zO := match st with
  | .long j :: .ref a :: s => f a j s
  | _ => none
def zrr (st : List Value) (f : Nat → Nat → List Value → zO) : zO := match st with
  | .ref q :: .ref a :: s => f a q s
  | _ => none
def zrii (st : List Value) (f : Nat → Int32 → Int32 → List Value → zO) : zO := match st with
  | .int x :: .int j :: .ref a :: s => f a j x s
  | _ => none
def zril (st : List Value) (f : Nat → Int32 → Int64 → List Value → zO) : zO := match st with
  | .long x :: .int j :: .ref a :: s => f a j x s
  | _ => none
def zrir (st : List Value) (f : Nat → Int32 → Nat → List Value → zO) : zO := match st with
  | .ref q :: .int j :: .ref a :: s => f a j q s
  | _ => none
/-- a place of the locals -/
def zld (l : zLs) (i : Nat) (f : Value → zO) : zO := match l[i]? with
  | some (some v) => f v
  | _ => none
def zvi (v : Value) (f : Int32 → zO) : zO := match v with
  | .int x => f x
  | _ => none
def zvl (v : Value) (f : Int64 → zO) : zO := match v with
  | .long x => f x
  | _ => none
def zvr (v : Value) (f : Nat → zO) : zO := match v with
  | .ref x => f x
  | _ => none
/-- a long ahead of a place that is stored to is forgotten -/
def zcut (l : zLs) (i : Nat) : zLs := match i with
  | 0 => l
  | j + 1 => match l[j]? with
    | some (some v) => (match v.category with
      | 2 => l.set j none
      | _ => l)
    | _ => l
def zst1 (l : zLs) (i : Nat) (v : Value) : zLs := (zcut l i).set i (some v)
def zst2 (l : zLs) (i : Nat) (v : Value) : zLs := ((zcut l i).set i (some v)).set (i + 1) none
def zbI (o : zO) (f : Int32 → zM → zO) : zO := match o with
  | some (some (.int r), M) => f r M
  | _ => none
def zbL (o : zO) (f : Int64 → zM → zO) : zO := match o with
  | some (some (.long r), M) => f r M
  | _ => none
def zbR (o : zO) (f : Nat → zM → zO) : zO := match o with
  | some (some (.ref r), M) => f r M
  | _ => none
def zbV (o : zO) (f : zM → zO) : zO := match o with
  | some (none, M) => f M
  | _ => none
def zoR (o : Option Nat) (f : Nat → zO) : zO := match o with
  | some q => f q
  | none => none
/-- a switch over numbers one behind another -/
def zsw (x : Int32) (lo : Nat) (ts : List Nat) (d : Nat) (K : Nat → zO) : zO := match ts with
  | [] => K d
  | t :: ts => if x = Int32.ofNat lo then K t else zsw x (lo + 1) ts d K
/-- a switch over listed numbers -/
def zlk (x : Int32) (ts : List Nat) (d : Nat) (K : Nat → zO) : zO := match ts with
  | k :: t :: ts => if x = Int32.ofNat k then K t else zlk x ts d K
  | _ => K d
abbrev zE0 : Type := Nat → List Value → zM → zO
def zroomy (st : List Value) : Bool := Nat.ble ((st.map fun v => v.category).sum) 8
/-- the return of a call: what kind, and then on -/
def zret (rt : Nat) (o : zO) (rest : List Value) (K : List Value → zM → zO) : zO := match rt with
  | 0 => zbV o (fun M => K rest M)
  | 1 => zbI o (fun r M => K (.int r :: rest) M)
  | 2 => zbL o (fun r M => K (.long r :: rest) M)
  | _ => zbR o (fun r M => K (.ref r :: rest) M)
/-- a call of y with n arguments off the stack; tag: of the receiver (0: not asked) -/
def zcall (E : zE0) (y n rt tag : Nat) (st : List Value) (M : zM) (K : List Value → zM → zO) : zO :=
  match Nat.ble n st.length && zroomy (st.drop n) with
  | false => none
  | true => match tag with
    | 0 => zret rt (E y (st.take n).reverse M) (st.drop n) K
    | t + 1 => match (st.take n).reverse with
      | .ref b :: _ => zif ((zK M b).1 = t + 1) (zret rt (E y (st.take n).reverse M) (st.drop n) K)
      | _ => none
def zcond (c : ClassFile.Cond) (x y : Int32) (a b : zO) : zO := match c with
  | .eq => if x = y then a else b
  | .ne => if x ≠ y then a else b
  | .lt => if x < y then a else b
  | .ge => if y ≤ x then a else b
  | .gt => if y < x then a else b
  | .le => if x ≤ y then a else b
def zgetf (r : List Nat) (a : Nat) (st : List Value) (M : zM) (K : List Value → zO) : zO := match r with
  | ty :: ci :: k :: _ => zif ((zK M a).1 = ci + 1) (match ty with
    | 1 => K (.long (zL M a k) :: st)
    | 2 => zoR (zR M a k) (fun q => K (.ref q :: st))
    | _ => K (.int (zI M a k) :: st))
  | _ => none
def zputf (r : List Nat) (st : List Value) (M : zM) (K : List Value → zM → zO) : zO := match r with
  | ty :: ci :: k :: _ => (match ty with
    | 1 => zrl st (fun a x s => zif ((zK M a).1 = ci + 1) (K s (zsL M a k x)))
    | 2 => zrr st (fun a q s => zif ((zK M a).1 = ci + 1) (K s (zsR M a k (some q))))
    | 3 => zri st (fun a x s => zif ((zK M a).1 = ci + 1 ∧ (x = 0 ∨ x = 1)) (K s (zsI M a k x)))
    | _ => zri st (fun a x s => zif ((zK M a).1 = ci + 1) (K s (zsI M a k x))))
  | _ => none
def zinvoke (E : zE0) (r : List Nat) (st : List Value) (M : zM) (K : List Value → zM → zO) : zO := match r with
  | y :: n :: rt :: tag :: _ => (match y with
    | 1000 => z1r st (fun _ s => zok (zroomy s) (K s M))
    | 1001 => (match st with
      | .int n :: .int dp :: .ref b :: .int sp :: .ref a :: s => zif ((zK M a).1 = 20 ∧ (zK M b).1 = 20 ∧ zroomy s = true ∧ (¬ sp < 0) ∧ (¬ dp < 0) ∧ (¬ n < 0) ∧ sp.toNatClampNeg + n.toNatClampNeg ≤ (zK M a).2 ∧ dp.toNatClampNeg + n.toNatClampNeg ≤ (zK M b).2) (K s (zcopy M a sp.toNatClampNeg b dp.toNatClampNeg n.toNatClampNeg))
      | _ => none)
    | 1002 => z2i st (fun x y s => zok (zroomy s) (K (.int (if x < y then y else x) :: s) M))
    | 1003 => z2i st (fun x y s => zok (zroomy s) (K (.int (if y < x then y else x) :: s) M))
    | y => zcall E y n rt tag st M K)
  | _ => none
def zstep (E : zE0) (rt : Nat) (i : Instr) (r : List Nat) (pc : Nat) (l : zLs) (st : List Value) (M : zM) (K : zKt) : zO := match i with
  | .iconst _ => K (pc + 1) l (.int (zci r) :: st) M
  | .bipush _ => K (pc + 2) l (.int (zci r) :: st) M
  | .sipush _ => K (pc + 3) l (.int (zci r) :: st) M
  | .ldc _ => K (pc + 2) l (.int (zci r) :: st) M
  | .ldc_w _ => K (pc + 3) l (.int (zci r) :: st) M
  | .lconst _ => K (pc + 1) l (.long (zcl r) :: st) M
  | .ldc2_w _ => K (pc + 3) l (.long (zcl r) :: st) M
  | .iload_n n => zld l n.val (fun v => zvi v (fun x => K (pc + 1) l (.int x :: st) M))
  | .iload n => zld l n (fun v => zvi v (fun x => K (pc + 2) l (.int x :: st) M))
  | .lload_n n => zld l n.val (fun v => zvl v (fun x => K (pc + 1) l (.long x :: st) M))
  | .lload n => zld l n (fun v => zvl v (fun x => K (pc + 2) l (.long x :: st) M))
  | .aload_n n => zld l n.val (fun v => zvr v (fun x => K (pc + 1) l (.ref x :: st) M))
  | .aload n => zld l n (fun v => zvr v (fun x => K (pc + 2) l (.ref x :: st) M))
  | .istore_n n => z1i st (fun x s => zok (Nat.blt (n.val) l.length) (K (pc + 1) (zst1 l n.val (.int x)) s M))
  | .istore n => z1i st (fun x s => zok (Nat.blt (n) l.length) (K (pc + 2) (zst1 l n (.int x)) s M))
  | .lstore_n n => z1l st (fun x s => zok (Nat.blt (n.val + 1) l.length) (K (pc + 1) (zst2 l n.val (.long x)) s M))
  | .lstore n => z1l st (fun x s => zok (Nat.blt (n + 1) l.length) (K (pc + 2) (zst2 l n (.long x)) s M))
  | .astore_n n => z1r st (fun x s => zok (Nat.blt (n.val) l.length) (K (pc + 1) (zst1 l n.val (.ref x)) s M))
  | .astore n => z1r st (fun x s => zok (Nat.blt (n) l.length) (K (pc + 2) (zst1 l n (.ref x)) s M))
  | .iinc n _ => zld l n (fun v => zvi v (fun x => zok (Nat.blt (n) l.length) (K (pc + 3) (zst1 l n (.int (x + zci r))) st M)))
  | .iadd => z2i st (fun x y s => K (pc + 1) l (.int (x + y) :: s) M)
  | .isub => z2i st (fun x y s => K (pc + 1) l (.int (x - y) :: s) M)
  | .imul => z2i st (fun x y s => K (pc + 1) l (.int (x * y) :: s) M)
  | .iand => z2i st (fun x y s => K (pc + 1) l (.int (x &&& y) :: s) M)
  | .idiv => z2i st (fun x y s => zif (¬ y = 0) (K (pc + 1) l (.int (x / y) :: s) M))
  | .irem => z2i st (fun x y s => zif (¬ y = 0) (K (pc + 1) l (.int (x - x / y * y) :: s) M))
  | .ishr => z2i st (fun x y s => K (pc + 1) l (.int (x >>> (y &&& 31)) :: s) M)
  | .iushr => z2i st (fun x y s => K (pc + 1) l (.int (x.toUInt32 >>> (y.toUInt32 &&& Int32.toUInt32 31)).toInt32 :: s) M)
  | .ladd => z2l st (fun x y s => K (pc + 1) l (.long (x + y) :: s) M)
  | .lsub => z2l st (fun x y s => K (pc + 1) l (.long (x - y) :: s) M)
  | .land => z2l st (fun x y s => K (pc + 1) l (.long (x &&& y) :: s) M)
  | .lor => z2l st (fun x y s => K (pc + 1) l (.long (x ||| y) :: s) M)
  | .lxor => z2l st (fun x y s => K (pc + 1) l (.long (x ^^^ y) :: s) M)
  | .lcmp => z2l st (fun x y s => K (pc + 1) l (.int (lg_cmp x y) :: s) M)
  | .lshl => zli st (fun x y s => K (pc + 1) l (.long (x <<< (y.toInt64 &&& 63)) :: s) M)
  | .lshr => zli st (fun x y s => K (pc + 1) l (.long (x >>> (y.toInt64 &&& 63)) :: s) M)
  | .lushr => zli st (fun x y s => K (pc + 1) l (.long (x.toUInt64 >>> (y.toInt64.toUInt64 &&& Int64.toUInt64 63)).toInt64 :: s) M)
  | .i2l => z1i st (fun x s => K (pc + 1) l (.long x.toInt64 :: s) M)
  | .l2i => z1l st (fun x s => K (pc + 1) l (.int x.toInt32 :: s) M)
  | .i2b => z1i st (fun x s => K (pc + 1) l (.int x.toInt8.toInt32 :: s) M)
  | .i2c => z1i st (fun x s => K (pc + 1) l (.int (x.toUInt32 % 65536).toInt32 :: s) M)
  | .dup => (match st with
    | .int x :: s => K (pc + 1) l (.int x :: .int x :: s) M
    | .ref x :: s => K (pc + 1) l (.ref x :: .ref x :: s) M
    | _ => none)
  | .pop => (match st with
    | .int _ :: s => K (pc + 1) l s M
    | .ref _ :: s => K (pc + 1) l s M
    | _ => none)
  | .dup2 => (match st with
    | .long x :: s => K (pc + 1) l (.long x :: .long x :: s) M
    | .int y :: .int x :: s => K (pc + 1) l (.int y :: .int x :: .int y :: .int x :: s) M
    | .int y :: .ref x :: s => K (pc + 1) l (.int y :: .ref x :: .int y :: .ref x :: s) M
    | _ => none)
  | .goto _ => K (r.headD 0) l st M
  | .ifCond c _ => z1i st (fun x s => zcond c x 0 (K (r.headD 0) l s M) (K (pc + 3) l s M))
  | .if_icmp c _ => z2i st (fun x y s => zcond c x y (K (r.headD 0) l s M) (K (pc + 3) l s M))
  | .tableswitch _ _ _ _ => z1i st (fun x s => match r with
    | d :: lo :: ts => zsw x lo ts d (fun t => K t l s M)
    | _ => none)
  | .lookupswitch _ _ => z1i st (fun x s => match r with
    | d :: ts => zlk x ts d (fun t => K t l s M)
    | _ => none)
  | .getfield _ => z1r st (fun a s => zgetf r a s M (fun s' => K (pc + 3) l s' M))
  | .putfield _ => zputf r st M (fun s M' => K (pc + 3) l s M')
  | .getstatic _ => K (pc + 3) l (.ref 0 :: st) M
  | .iaload => zri st (fun a j s => zif (((zK M a).1 = 20 ∨ (zK M a).1 = 24) ∧ zin j (zK M a).2 = true) (K (pc + 1) l (.int (zI M a j.toNatClampNeg) :: s) M))
  | .baload => zri st (fun a j s => zif (((zK M a).1 = 21 ∨ (zK M a).1 = 22) ∧ zin j (zK M a).2 = true) (K (pc + 1) l (.int (zI M a j.toNatClampNeg) :: s) M))
  | .laload => zri st (fun a j s => zif (((zK M a).1 = 23 ∨ (zK M a).1 = 25) ∧ zin j (zK M a).2 = true) (K (pc + 1) l (.long (zL M a j.toNatClampNeg) :: s) M))
  | .aaload => zri st (fun a j s => zif (30 ≤ (zK M a).1 ∧ zin j (zK M a).2 = true) (zoR (zR M a j.toNatClampNeg) (fun q => K (pc + 1) l (.ref q :: s) M)))
  | .iastore => zrii st (fun a j x s => zif ((zK M a).1 = 20 ∧ zin j (zK M a).2 = true) (K (pc + 1) l s (zsI M a j.toNatClampNeg x)))
  | .bastore => zrii st (fun a j x s => if (zK M a).1 = 21 then zif (zin j (zK M a).2 = true) (K (pc + 1) l s (zsI M a j.toNatClampNeg (vp_nar .boolean x))) else zif ((zK M a).1 = 22 ∧ zin j (zK M a).2 = true) (K (pc + 1) l s (zsI M a j.toNatClampNeg (vp_nar .byte x))))
  | .lastore => zril st (fun a j x s => zif ((zK M a).1 = 23 ∧ zin j (zK M a).2 = true) (K (pc + 1) l s (zsL M a j.toNatClampNeg x)))
  | .aastore => zrir st (fun a j q s => zif (30 ≤ (zK M a).1 ∧ (zK M a).1 = (zK M q).1 + 29 ∧ 1 ≤ (zK M q).1 ∧ (zK M q).1 < 20 ∧ zin j (zK M a).2 = true) (K (pc + 1) l s (zsR M a j.toNatClampNeg (some q))))
  | .arraylength => z1r st (fun a s => zif (20 ≤ (zK M a).1) (K (pc + 1) l (.int (Int32.ofNat (zK M a).2) :: s) M))
  | .new _ => K (pc + 3) l (.ref (zN M) :: st) (znew M (r.headD 0 + 1) ((r.drop 1).headD 0))
  | .newarray _ => z1i st (fun n s => zif ((¬ n < 0) ∧ n.toNatClampNeg ≤ 100000) (K (pc + 2) l (.ref (zN M) :: s) (znew M (r.headD 0) n.toNatClampNeg)))
  | .anewarray _ => z1i st (fun n s => zif ((¬ n < 0) ∧ n.toNatClampNeg ≤ 100000) (K (pc + 3) l (.ref (zN M) :: s) (znew M (30 + r.headD 0) n.toNatClampNeg)))
  | .invokevirtual _ => zinvoke E r st M (fun s M' => K (pc + 3) l s M')
  | .invokespecial _ => zinvoke E r st M (fun s M' => K (pc + 3) l s M')
  | .invokestatic _ => zinvoke E r st M (fun s M' => K (pc + 3) l s M')
  | .ireturn => (match st with
    | [.int x] => (match rt with
      | 1 => some (some (.int x), M)
      | 2 => zif (x = 0 ∨ x = 1) (some (some (.int x), M))
      | _ => none)
    | _ => none)
  | .lreturn => (match st with
    | [.long x] => zok (Nat.beq rt 3) (some (some (.long x), M))
    | _ => none)
  | .areturn => (match st with
    | [.ref x] => zok (Nat.beq rt 4) (some (some (.ref x), M))
    | _ => none)
  | .return_ => (match st with
    | [] => zok (Nat.beq rt 0) (some (none, M))
    | _ => none)
  | _ => none
/-! one step is one continuation at most -/
abbrev zNx : Type := Nat × zLs × List Value × zM
def zap (o : Option (zNx ⊕ (Option Value × zM))) (K : zKt) : zO := match o with
  | none => none
  | some (.inl q) => K q.1 q.2.1 q.2.2.1 q.2.2.2
  | some (.inr r) => some r
