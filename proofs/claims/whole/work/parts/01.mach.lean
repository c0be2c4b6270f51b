/-! the small machine: whole numbers, one heap of cells and slots, the code as rows -/
abbrev zV : Type := Int ⊕ (Int ⊕ (Int × Nat × Nat))
abbrev zH : Type := Int → Int → Int
abbrev zR : Type := Option (zV × zH)
abbrev zL : Type := List (Option zV)
abbrev zC : Type := Nat → zL → List zV → zH → zR
/-- pc, length, instruction, whether what follows is cut, whether what is jumped to is cut, what the pool says -/
abbrev zRow : Type := Nat × Nat × Instr × Bool × Bool × List Int
def w32 (x : Int) : Int := (x + 2147483648) % 4294967296 - 2147483648
def w64 (x : Int) : Int := (x + 9223372036854775808) % 18446744073709551616 - 9223372036854775808
def zset (h : zH) (r i v : Int) : zH := fun a => if a = r then (fun b => if b = i then v else h r b) else h a
def zcpy (h : zH) (dst dp src sp n : Int) : zH := fun a => if a = dst then (fun b => if dp ≤ b ∧ b < dp + n then h src (sp + (b - dp)) else h dst b) else h a
/-- a new cell: its number is h (-1) 0 -/
def znew (h : zH) (kd len sl : Int) (df : Int → Int) : zH := fun a =>
  if a = -1 then (fun b => if b = 0 then h (-1) 0 + 1 else if b = 1 then h (-1) 1 + sl else h (-1) b)
  else if a = -2 then (fun b => if b = h (-1) 0 then kd else h (-2) b)
  else if a = -3 then (fun b => if b = h (-1) 0 then len else h (-3) b)
  else if a = h (-1) 0 then df else h a
def zpi (S : List zV) (f : Int → List zV → zR) : zR := match S with
  | .inl a :: S => f a S
  | _ => none
def zpl (S : List zV) (f : Int → List zV → zR) : zR := match S with
  | .inr (.inl a) :: S => f a S
  | _ => none
def zpr (S : List zV) (f : Int → Nat → Nat → List zV → zR) : zR := match S with
  | .inr (.inr (r, k, n)) :: S => f r k n S
  | _ => none
def zgi (L : zL) (n : Nat) (f : Int → zR) : zR := match L.getD n none with
  | some (.inl a) => f a
  | _ => none
def zgl (L : zL) (n : Nat) (f : Int → zR) : zR := match L.getD n none with
  | some (.inr (.inl a)) => f a
  | _ => none
def zgr (L : zL) (n : Nat) (f : Int → Nat → Nat → zR) : zR := match L.getD n none with
  | some (.inr (.inr (r, k, n))) => f r k n
  | _ => none
def zclr (L : zL) : Nat → zL
  | 0 => L
  | m + 1 => match L.getD m none with
    | some (.inr (.inl _)) => L.set m none
    | _ => L
def zst1 (L : zL) (n : Nat) (v : zV) : zL := (zclr L n).set n (some v)
def zst2 (L : zL) (n : Nat) (v : zV) : zL := ((zclr L n).set (n + 1) none).set n (some v)
def zcat : List zV → Nat
  | [] => 0
  | .inr (.inl _) :: S => zcat S + 2
  | _ :: S => zcat S + 1
def ztake : Nat → List zV → List zV → Option (List zV × List zV)
  | 0, acc, S => some (acc, S)
  | n + 1, acc, v :: S => ztake n (v :: acc) S
  | _ + 1, _, [] => none
def zlc (a b : Int) : Int := if a < b then -1 else if a = b then 0 else 1
def zand (a b : Int) : Int := (Int32.ofInt a &&& Int32.ofInt b).toInt
def zor (a b : Int) : Int := (Int32.ofInt a ||| Int32.ofInt b).toInt
def zxor (a b : Int) : Int := (Int32.ofInt a ^^^ Int32.ofInt b).toInt
def zshl (a b : Int) : Int := (Int32.ofInt a <<< (Int32.ofInt b &&& 31)).toInt
def zshr (a b : Int) : Int := (Int32.ofInt a >>> (Int32.ofInt b &&& 31)).toInt
def zushr (a b : Int) : Int := ((Int32.ofInt a).toUInt32 >>> ((Int32.ofInt b).toUInt32 &&& Int32.toUInt32 31)).toInt32.toInt
def zland (a b : Int) : Int := (Int64.ofInt a &&& Int64.ofInt b).toInt
def zlor (a b : Int) : Int := (Int64.ofInt a ||| Int64.ofInt b).toInt
def zlxor (a b : Int) : Int := (Int64.ofInt a ^^^ Int64.ofInt b).toInt
def zlshl (a b : Int) : Int := (Int64.ofInt a <<< ((Int32.ofInt b).toInt64 &&& 63)).toInt
def zlshr (a b : Int) : Int := (Int64.ofInt a >>> ((Int32.ofInt b).toInt64 &&& 63)).toInt
def zlushr (a b : Int) : Int := ((Int64.ofInt a).toUInt64 >>> ((Int32.ofInt b).toInt64.toUInt64 &&& Int64.toUInt64 63)).toInt64.toInt
/-- what a switch does: the jumps by keys -/
def zsw (kj : Nat → zR) (a : Int) (d : Int) : List Int → zR
  | k :: t :: r => if a = k then kj t.toNat else zsw kj a d r
  | _ => kj d.toNat
/-- behind a call, by the kind of the answer -/
def zqi (q : zR) (f : Int → zH → zR) : zR := match q with
  | some (.inl a, h) => f a h
  | _ => none
def zql (q : zR) (f : Int → zH → zR) : zR := match q with
  | some (.inr (.inl a), h) => f a h
  | _ => none
def zqv (q : zR) (f : zH → zR) : zR := match q with
  | some (_, h) => f h
  | none => none
def zif (c : ClassFile.Cond) (a b : Int) (x y : zR) : zR := match c with
  | .eq => if a = b then x else y
  | .ne => if a = b then y else x
  | .lt => if a < b then x else y
  | .ge => if a < b then y else x
  | .gt => if b < a then x else y
  | .le => if b < a then y else x
def zck (b : Bool) (x : zR) : zR := match b with
  | true => x
  | false => none
def zpo (r : Int) (x : zR) : zR := match decide (0 ≤ r) with
  | true => x
  | false => none
def zdz (b : Int) (x : zR) : zR := match decide (b = 0) with
  | true => none
  | false => x
def zbo (a : Int) (x : zR) : zR := match decide (a = 0 ∨ a = 1) with
  | true => x
  | false => none
abbrev zrf (r : Int) (k n : Nat) : zV := .inr (.inr (r, k, n))
def zne (k n : Nat) : Int → Int := fun _ => if k < 103 then 0 else -1
/-- the start values of an object's fields, by the kinds of them -/
def zdf (ts : List Nat) : Int → Int := fun j => if 0 ≤ j ∧ 3 ≤ ts.getD j.toNat 0 then -1 else 0
/-- what an instruction does. md: behind the making of all objects. FT: the kinds of a class's fields (0 int, 1 long, 2 boolean, 3 reference, 4 final reference).
ax: constants [v]; fields [class, slot, kind of field, kind and length of what it refers to, how far from the object it lies, ..]; jumps [target]; calls [callee, how many words, kind of the answer, class of the receiver or -1, ..] -/
def zins (md : Bool) (FT : Nat → List Nat) (EL : Nat → Nat × Nat) (Φ : Nat → List zV → zH → zR) (kf kj : zC) (pc : Nat) (ins : Instr) (ax : List Int) (L : zL) (S : List zV) (h : zH) : zR :=
  match ins with
  | .iconst _ => kf (pc + 1) L (.inl (ax.getD 0 0) :: S) h
  | .bipush _ => kf (pc + 2) L (.inl (ax.getD 0 0) :: S) h
  | .sipush _ => kf (pc + 3) L (.inl (ax.getD 0 0) :: S) h
  | .ldc _ => kf (pc + 2) L (.inl (ax.getD 0 0) :: S) h
  | .ldc_w _ => kf (pc + 3) L (.inl (ax.getD 0 0) :: S) h
  | .lconst _ => kf (pc + 1) L (.inr (.inl (ax.getD 0 0)) :: S) h
  | .ldc2_w _ => kf (pc + 3) L (.inr (.inl (ax.getD 0 0)) :: S) h
  | .iload_n n => zgi L n fun a => kf (pc + 1) L (.inl a :: S) h
  | .iload n => zgi L n fun a => kf (pc + 2) L (.inl a :: S) h
  | .lload_n n => zgl L n fun a => kf (pc + 1) L (.inr (.inl a) :: S) h
  | .lload n => zgl L n fun a => kf (pc + 2) L (.inr (.inl a) :: S) h
  | .aload_n n => zgr L n fun r k w => kf (pc + 1) L (zrf r k w :: S) h
  | .aload n => zgr L n fun r k w => kf (pc + 2) L (zrf r k w :: S) h
  | .istore_n n => zpi S fun a S => zck (Nat.blt n L.length) (kf (pc + 1) (zst1 L n (.inl a)) S h)
  | .istore n => zpi S fun a S => zck (Nat.blt n L.length) (kf (pc + 2) (zst1 L n (.inl a)) S h)
  | .lstore_n n => zpl S fun a S => zck (Nat.blt (n + 1) L.length) (kf (pc + 1) (zst2 L n (.inr (.inl a))) S h)
  | .lstore n => zpl S fun a S => zck (Nat.blt (n + 1) L.length) (kf (pc + 2) (zst2 L n (.inr (.inl a))) S h)
  | .astore_n n => zpr S fun r k w S => zck (Nat.blt n L.length) (kf (pc + 1) (zst1 L n (zrf r k w)) S h)
  | .astore n => zpr S fun r k w S => zck (Nat.blt n L.length) (kf (pc + 2) (zst1 L n (zrf r k w)) S h)
  | .iinc n _ => zgi L n fun a => zck (Nat.blt n L.length) (kf (pc + 3) (zst1 L n (.inl (w32 (a + ax.getD 0 0)))) S h)
  | .iadd => zpi S fun b S => zpi S fun a S => kf (pc + 1) L (.inl (w32 (a + b)) :: S) h
  | .isub => zpi S fun b S => zpi S fun a S => kf (pc + 1) L (.inl (w32 (a - b)) :: S) h
  | .imul => zpi S fun b S => zpi S fun a S => kf (pc + 1) L (.inl (w32 (a * b)) :: S) h
  | .idiv => zpi S fun b S => zpi S fun a S => zdz b (kf (pc + 1) L (.inl (w32 (a.tdiv b)) :: S) h)
  | .irem => zpi S fun b S => zpi S fun a S => zdz b (kf (pc + 1) L (.inl (a.tmod b) :: S) h)
  | .iand => zpi S fun b S => zpi S fun a S => kf (pc + 1) L (.inl (zand a b) :: S) h
  | .ior => zpi S fun b S => zpi S fun a S => kf (pc + 1) L (.inl (zor a b) :: S) h
  | .ixor => zpi S fun b S => zpi S fun a S => kf (pc + 1) L (.inl (zxor a b) :: S) h
  | .ishl => zpi S fun b S => zpi S fun a S => kf (pc + 1) L (.inl (zshl a b) :: S) h
  | .ishr => zpi S fun b S => zpi S fun a S => kf (pc + 1) L (.inl (zshr a b) :: S) h
  | .iushr => zpi S fun b S => zpi S fun a S => kf (pc + 1) L (.inl (zushr a b) :: S) h
  | .ineg => zpi S fun a S => kf (pc + 1) L (.inl (w32 (-a)) :: S) h
  | .ladd => zpl S fun b S => zpl S fun a S => kf (pc + 1) L (.inr (.inl (w64 (a + b))) :: S) h
  | .lsub => zpl S fun b S => zpl S fun a S => kf (pc + 1) L (.inr (.inl (w64 (a - b))) :: S) h
  | .lmul => zpl S fun b S => zpl S fun a S => kf (pc + 1) L (.inr (.inl (w64 (a * b))) :: S) h
  | .ldiv => zpl S fun b S => zpl S fun a S => zdz b (kf (pc + 1) L (.inr (.inl (w64 (a.tdiv b))) :: S) h)
  | .lrem => zpl S fun b S => zpl S fun a S => zdz b (kf (pc + 1) L (.inr (.inl (a.tmod b)) :: S) h)
  | .land => zpl S fun b S => zpl S fun a S => kf (pc + 1) L (.inr (.inl (zland a b)) :: S) h
  | .lor => zpl S fun b S => zpl S fun a S => kf (pc + 1) L (.inr (.inl (zlor a b)) :: S) h
  | .lxor => zpl S fun b S => zpl S fun a S => kf (pc + 1) L (.inr (.inl (zlxor a b)) :: S) h
  | .lshl => zpi S fun b S => zpl S fun a S => kf (pc + 1) L (.inr (.inl (zlshl a b)) :: S) h
  | .lshr => zpi S fun b S => zpl S fun a S => kf (pc + 1) L (.inr (.inl (zlshr a b)) :: S) h
  | .lushr => zpi S fun b S => zpl S fun a S => kf (pc + 1) L (.inr (.inl (zlushr a b)) :: S) h
  | .lneg => zpl S fun a S => kf (pc + 1) L (.inr (.inl (w64 (-a))) :: S) h
  | .lcmp => zpl S fun b S => zpl S fun a S => kf (pc + 1) L (.inl (zlc a b) :: S) h
  | .i2l => zpi S fun a S => kf (pc + 1) L (.inr (.inl a) :: S) h
  | .l2i => zpl S fun a S => kf (pc + 1) L (.inl (w32 a) :: S) h
  | .dup => match S with
    | .inl a :: S => kf (pc + 1) L (.inl a :: .inl a :: S) h
    | .inr (.inr (r, k, w)) :: S => kf (pc + 1) L (zrf r k w :: zrf r k w :: S) h
    | _ => none
  | .dup2 => match S with
    | .inl a :: .inr (.inr (r, k, w)) :: S => kf (pc + 1) L (.inl a :: zrf r k w :: .inl a :: zrf r k w :: S) h
    | _ => none
  | .pop => match S with
    | .inl _ :: S => kf (pc + 1) L S h
    | .inr (.inr _) :: S => kf (pc + 1) L S h
    | _ => none
  | .goto _ => kj (ax.getD 0 0).toNat L S h
  | .ifCond c _ => zpi S fun a S => zif c a 0 (kj (ax.getD 0 0).toNat L S h) (kf (pc + 3) L S h)
  | .if_icmp c _ => zpi S fun b S => zpi S fun a S => zif c a b (kj (ax.getD 0 0).toNat L S h) (kf (pc + 3) L S h)
  | .ifnull _ => zpr S fun r _ _ S => if r < 0 then kj (ax.getD 0 0).toNat L S h else kf (pc + 3) L S h
  | .ifnonnull _ => zpr S fun r _ _ S => if r < 0 then kf (pc + 3) L S h else kj (ax.getD 0 0).toNat L S h
  | .tableswitch _ _ _ _ => zpi S fun a S => zsw (fun t => kj t L S h) a (ax.getD 0 0) (ax.drop 1)
  | .lookupswitch _ _ => zpi S fun a S => zsw (fun t => kj t L S h) a (ax.getD 0 0) (ax.drop 1)
  | .arraylength => zpr S fun r k w S => zck (Nat.beq k 100 || Nat.beq k 103) (zpo r (kf (pc + 1) L (.inl w :: S) h))
  | .iaload => zpi S fun i S => zpr S fun r k w S => zck (Nat.beq k 100) (zpo r (if 0 ≤ i ∧ i < w then kf (pc + 1) L (.inl (h r i) :: S) h else none))
  | .laload => zpi S fun i S => zpr S fun r k w S => zck (Nat.beq k 101) (zpo r (if 0 ≤ i ∧ i < w then kf (pc + 1) L (.inr (.inl (h r i)) :: S) h else none))
  | .baload => zpi S fun i S => zpr S fun r k w S => zck (Nat.beq k 102) (zpo r (if 0 ≤ i ∧ i < w then kf (pc + 1) L (.inl (h r i) :: S) h else none))
  | .aaload => zpi S fun i S => zpr S fun r k w S => zck (Nat.beq k 103 || Nat.beq k 104) (zpo r (if 0 ≤ i ∧ i < w then kf (pc + 1) L (zrf (h r i) (EL k).1 (EL k).2 :: S) h else none))
  | .iastore => zpi S fun v S => zpi S fun i S => zpr S fun r k w S => zck (Nat.beq k 100) (zpo r (if 0 ≤ i ∧ i < w then kf (pc + 1) L S (zset h r i v) else none))
  | .lastore => zpl S fun v S => zpi S fun i S => zpr S fun r k w S => zck (Nat.beq k 101) (zpo r (if 0 ≤ i ∧ i < w then kf (pc + 1) L S (zset h r i v) else none))
  | .bastore => zpi S fun v S => zpi S fun i S => zpr S fun r k w S => zck (Nat.beq k 102) (zpo r (if 0 ≤ i ∧ i < w then (zbo v (kf (pc + 1) L S (zset h r i v))) else none))
  | .aastore => zpr S fun v kv wv S => zpi S fun i S => zpr S fun r k w S => zck (Nat.beq k 103 && (Nat.beq kv (EL 103).1 && Nat.beq wv (EL 103).2)) (zpo r (zpo v (if 0 ≤ i ∧ i < w then kf (pc + 1) L S (zset h r i v) else none)))
  | .getfield _ => zpr S fun r k _ S => match ax with
    | ci :: j :: ty :: kd :: len :: off :: _ => zck (Nat.beq k ci.toNat) (zpo r (match ty.toNat with
        | 1 => kf (pc + 3) L (.inr (.inl (h r j)) :: S) h
        | 3 => kf (pc + 3) L (zrf (h r j) kd.toNat len.toNat :: S) h
        | 4 => kf (pc + 3) L (zrf (match md with | true => r + off | false => h r j) kd.toNat len.toNat :: S) h
        | _ => kf (pc + 3) L (.inl (h r j) :: S) h))
    | _ => none
  | .putfield _ => match ax with
    | ci :: j :: ty :: kd :: len :: _ => match ty.toNat with
      | 0 => (zpi S fun v S => zpr S fun r k _ S => zck (Nat.beq k ci.toNat) (zpo r (kf (pc + 3) L S (zset h r j v))))
      | 1 => (zpl S fun v S => zpr S fun r k _ S => zck (Nat.beq k ci.toNat) (zpo r (kf (pc + 3) L S (zset h r j v))))
      | 2 => (zpi S fun v S => zpr S fun r k _ S => zck (Nat.beq k ci.toNat) (zpo r (zbo v (kf (pc + 3) L S (zset h r j v)))))
      | 3 => (zpr S fun v kv wv S => zpr S fun r k _ S => zck (Nat.beq k ci.toNat && (Nat.beq kv kd.toNat && Nat.beq wv len.toNat)) (zpo r (kf (pc + 3) L S (zset h r j v))))
      | 4 => zck (!md) (zpr S fun v kv wv S => zpr S fun r k _ S => zck (Nat.beq k ci.toNat && (Nat.beq kv kd.toNat && Nat.beq wv len.toNat)) (zpo r (kf (pc + 3) L S (zset h r j v))))
      | _ => none
    | _ => none
  | .invokevirtual _ => match ax with
    | y :: n :: rk :: ci :: _ => match ztake n.toNat [] S with
      | some (.inr (.inr (r, k, w)) :: as, S) => zck (Nat.beq k ci.toNat && Nat.ble (zcat S) 8) (zpo r (match rk.toNat with
          | 1 => zql (Φ y.toNat (zrf r k w :: as) h) fun a h => kf (pc + 3) L (.inr (.inl a) :: S) h
          | 2 => zqv (Φ y.toNat (zrf r k w :: as) h) fun h => kf (pc + 3) L S h
          | _ => zqi (Φ y.toNat (zrf r k w :: as) h) fun a h => kf (pc + 3) L (.inl a :: S) h))
      | _ => none
    | _ => none
  | .invokespecial _ => match ax with
    | y :: n :: _ => match ztake n.toNat [] S with
      | some (.inr (.inr (r, k, w)) :: as, S) => zck (Nat.ble (zcat S) 8) (zpo r (match decide (y < 0) with | true => kf (pc + 3) L S h | false => zqv (Φ y.toNat (zrf r k w :: as) h) fun h => kf (pc + 3) L S h))
      | _ => none
    | _ => none
  | .invokestatic _ => match ax with
    | y :: n :: rk :: _ =>
      match decide (y = -2) with
      | true => (zpi S fun n S => zpi S fun dp S => zpr S fun d kd wd S => zpi S fun sp S => zpr S fun r k w S => zck (Nat.beq kd 100 && (Nat.beq k 100 && Nat.ble (zcat S) 8)) (zpo r (zpo d (if 0 ≤ sp ∧ 0 ≤ dp ∧ 0 ≤ n ∧ sp + n ≤ w ∧ dp + n ≤ wd then kf (pc + 3) L S (zcpy h d dp r sp n) else none))))
      | false => match ztake n.toNat [] S with
        | some (as, S) => zck (Nat.ble (zcat S) 8) (match rk.toNat with
          | 1 => zql (Φ y.toNat as h) fun a h => kf (pc + 3) L (.inr (.inl a) :: S) h
          | 2 => zqv (Φ y.toNat as h) fun h => kf (pc + 3) L S h
          | _ => zqi (Φ y.toNat as h) fun a h => kf (pc + 3) L (.inl a :: S) h)
        | _ => none
    | _ => none
  | .ireturn => match S with
    | [.inl a] => match (ax.getD 0 0).toNat with
      | 0 => some (.inl a, h)
      | _ => zbo a (some (.inl a, h))
    | _ => none
  | .lreturn => match S with
    | [.inr (.inl a)] => some (.inr (.inl a), h)
    | _ => none
  | .return_ => match S with
    | [] => some (.inl 0, h)
    | _ => none
  | .new _ => match md, ax with
    | false, ci :: n :: _ => if 0 ≤ n then kf (pc + 3) L (zrf (h (-1) 0) ci.toNat 0 :: S) (znew h ci 0 n (zdf (FT ci.toNat))) else none
    | _, _ => none
  | .newarray _ => match md, ax with
    | false, kd :: _ => zpi S fun n S => if 0 ≤ n ∧ n < 60000 then kf (pc + 2) L (zrf (h (-1) 0) kd.toNat n.toNat :: S) (znew h kd n n (zne kd.toNat 0)) else none
    | _, _ => none
  | .anewarray _ => match md, ax with
    | false, _ => zpi S fun n S => if 0 ≤ n ∧ n < 60000 then kf (pc + 3) L (zrf (h (-1) 0) 103 n.toNat :: S) (znew h 103 n n (zne 103 0)) else none
    | _, _ => none
  | _ => none
def zstep (md : Bool) (FT : Nat → List Nat) (EL : Nat → Nat × Nat) (Φ : Nat → List zV → zH → zR) (K : zC) (q : zRow) (next : zC) : zC := fun t L S h =>
  match Nat.beq t q.1 with
  | true => zins md FT EL Φ (match q.2.2.2.1 with | true => K | false => next) (match q.2.2.2.2.1 with | true => K | false => next) q.1 q.2.2.1 q.2.2.2.2.2 L S h
  | false => next t L S h
def zseg (md : Bool) (FT : Nat → List Nat) (EL : Nat → Nat × Nat) (Φ : Nat → List zV → zH → zR) (K : zC) (rows : List zRow) : zC := rows.foldr (zstep md FT EL Φ K) (fun _ _ _ _ => none)
/-- at a cut the locals that are not read behind it are let go -/
def zmask : List Bool → zL → zL
  | true :: m, v :: L => v :: zmask m L
  | false :: m, _ :: L => none :: zmask m L
  | _, L => L
def zmsk : List (Nat × List Bool) → Nat → zL → zL
  | [], _, L => L
  | (p, m) :: r, pc, L => match Nat.beq p pc with
    | true => zmask m L
    | false => zmsk r pc L
def zev (md : Bool) (FT : Nat → List Nat) (EL : Nat → Nat × Nat) (Φ : Nat → List zV → zH → zR) (rows : List zRow) (ct : List (Nat × List Bool)) : Nat → zC
  | 0 => fun _ _ _ _ => none
  | f + 1 => zseg md FT EL Φ (fun pc L S h => zev md FT EL Φ rows ct f pc (zmsk ct pc L) S h) rows
/-- the locals at the start -/
def zloc : List zV → zL
  | [] => []
  | .inr (.inl a) :: as => some (.inr (.inl a)) :: none :: zloc as
  | v :: as => some v :: zloc as
def zpad (n : Nat) (L : zL) : zL := L ++ List.replicate (n - L.length) none
/-- a method, all its calls d deep: MT has for each its name, code, locals, type and kind of its answer, rows -/
def zrun (md : Bool) (FT : Nat → List Nat) (EL : Nat → Nat × Nat) (F : Nat) (MT : Nat → MethodName × ByteArray × Nat × Option FieldType × Int × List zRow × List (Nat × List Bool)) : Nat → Nat → List zV → zH → zR
  | 0 => fun _ _ _ => none
  | d + 1 => fun y as h => zck (Nat.ble (zloc as).length (MT y).2.2.1) (zev md FT EL (zrun md FT EL F MT d) (MT y).2.2.2.2.2.1 (MT y).2.2.2.2.2.2 F 0 (zpad (MT y).2.2.1 (zloc as)) [] h)
