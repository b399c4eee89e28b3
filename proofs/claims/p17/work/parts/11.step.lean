section YC2
/-- a field: kind of its objects, place, sort of what it holds (0 int, 1 boolean, 2 long, 3 reference), final, of a nest mate -/
abbrev ycFd := Nat × Nat × Nat × Bool × Bool
abbrev ycR := Option (ycF × ycH)
def ycgo (pc : Nat) (lv : List (Nat × ycV)) (st : List ycV) (g : ycH) : ycR := some ((pc, lv, st), g)
def ycI2 (f : Int → Int → Int) (pc : Nat) (lv : List (Nat × ycV)) (st : List ycV) (g : ycH) : ycR := match st with
  | (0, b) :: (0, a) :: t => ycgo (pc + 1) lv ((0, f a b) :: t) g
  | _ => none
def ycL2 (f : Int → Int → Int) (pc : Nat) (lv : List (Nat × ycV)) (st : List ycV) (g : ycH) : ycR := match st with
  | (1, b) :: (1, a) :: t => ycgo (pc + 1) lv ((1, f a b) :: t) g
  | _ => none
def ycLI (f : Int → Int → Int) (pc : Nat) (lv : List (Nat × ycV)) (st : List ycV) (g : ycH) : ycR := match st with
  | (0, b) :: (1, a) :: t => ycgo (pc + 1) lv ((1, f a b) :: t) g
  | _ => none
def ycload (k : Nat) (pc : Nat) (i : Nat) (lv : List (Nat × ycV)) (st : List ycV) (g : ycH) : ycR := match yclget lv i with
  | some (0, e) => bif Nat.beq k 0 then ycgo pc lv ((0, e) :: st) g else none
  | some (1, e) => bif Nat.beq k 1 then ycgo pc lv ((1, e) :: st) g else none
  | some (2, e) => bif Nat.beq k 2 then ycgo pc lv ((2, e) :: st) g else none
  | some (4, e) => bif Nat.beq k 2 then ycgo pc lv ((4, e) :: st) g else none
  | _ => none
def ycstore (nL : Nat) (k : Nat) (pc : Nat) (i : Nat) (lv : List (Nat × ycV)) (st : List ycV) (g : ycH) : ycR := match st with
  | (0, e) :: t => bif Nat.beq k 0 && Nat.blt i nL then ycgo pc (ycst1 lv i (0, e)) t g else none
  | (1, e) :: t => bif Nat.beq k 1 && Nat.blt (i + 1) nL then ycgo pc (ycst2 lv i (1, e)) t g else none
  | (2, e) :: t => bif Nat.beq k 2 && Nat.blt i nL then ycgo pc (ycst1 lv i (2, e)) t g else none
  | (4, e) :: t => bif Nat.beq k 2 && Nat.blt i nL then ycgo pc (ycst1 lv i (4, e)) t g else none
  | _ => none
def ycinc (nL pc i : Nat) (k : Int) (lv : List (Nat × ycV)) (st : List ycV) (g : ycH) : ycR := match yclget lv i with
  | some (0, e) => bif Nat.blt i nL then ycgo (pc + 3) (ycst1 lv i (0, y32 (e + k))) st g else none
  | _ => none
def ycdiv (k pc : Nat) (lv : List (Nat × ycV)) (st : List ycV) (g : ycH) : ycR := match st with
  | (0, b) :: (0, a) :: t => bif decide (y32 b = 0) then none else ycgo (pc + 1) lv ((0, ycI k a b) :: t) g
  | _ => none
def ycldiv (k pc : Nat) (lv : List (Nat × ycV)) (st : List ycV) (g : ycH) : ycR := match st with
  | (1, b) :: (1, a) :: t => bif decide (y64 b = 0) then none else ycgo (pc + 1) lv ((1, ycJ k a b) :: t) g
  | _ => none
def ycneg (pc : Nat) (lv : List (Nat × ycV)) (st : List ycV) (g : ycH) : ycR := match st with
  | (0, a) :: t => ycgo (pc + 1) lv ((0, y32 (-a)) :: t) g
  | _ => none
def yci2l (pc : Nat) (lv : List (Nat × ycV)) (st : List ycV) (g : ycH) : ycR := match st with
  | (0, a) :: t => ycgo (pc + 1) lv ((1, y32 a) :: t) g
  | _ => none
def ycl2i (pc : Nat) (lv : List (Nat × ycV)) (st : List ycV) (g : ycH) : ycR := match st with
  | (1, a) :: t => ycgo (pc + 1) lv ((0, y32 a) :: t) g
  | _ => none
def yclcmp (pc : Nat) (lv : List (Nat × ycV)) (st : List ycV) (g : ycH) : ycR := match st with
  | (1, b) :: (1, a) :: t => ycgo (pc + 1) lv ((0, bif decide (y64 b < y64 a) then 1 else bif decide (y64 a = y64 b) then 0 else -1) :: t) g
  | _ => none
def ycdup (pc : Nat) (lv : List (Nat × ycV)) (st : List ycV) (g : ycH) : ycR := match st with
  | v :: t => bif Nat.beq v.1 1 then none else ycgo (pc + 1) lv (v :: v :: t) g
  | _ => none
def ycdup2 (pc : Nat) (lv : List (Nat × ycV)) (st : List ycV) (g : ycH) : ycR := match st with
  | v :: w :: t => bif Nat.beq v.1 1 || Nat.beq w.1 1 then none else ycgo (pc + 1) lv (v :: w :: v :: w :: t) g
  | _ => none
def ycpop (pc : Nat) (lv : List (Nat × ycV)) (st : List ycV) (g : ycH) : ycR := match st with
  | v :: t => bif Nat.beq v.1 1 then none else ycgo (pc + 1) lv t g
  | _ => none
def ycjmp (pc : Nat) (off : Int) (lv : List (Nat × ycV)) (st : List ycV) (g : ycH) : ycR := match yctgt pc off with
  | some n => ycgo n lv st g
  | none => none
def ycfork (pc : Nat) (off : Int) (b : Bool) (lv : List (Nat × ycV)) (st : List ycV) (g : ycH) : ycR := match yctgt pc off with
  | some n => bif b then ycgo n lv st g else ycgo (pc + 3) lv st g
  | none => none
def ycif (c : ClassFile.Cond) (pc : Nat) (off : Int) (lv : List (Nat × ycV)) (st : List ycV) (g : ycH) : ycR := match st with
  | (0, a) :: t => ycfork pc off (yccd c (y32 a) 0) lv t g
  | _ => none
def ycicm (c : ClassFile.Cond) (pc : Nat) (off : Int) (lv : List (Nat × ycV)) (st : List ycV) (g : ycH) : ycR := match st with
  | (0, b) :: (0, a) :: t => ycfork pc off (yccd c (y32 a) (y32 b)) lv t g
  | _ => none
def ycacm (c : ClassFile.ACond) (pc : Nat) (off : Int) (lv : List (Nat × ycV)) (st : List ycV) (g : ycH) : ycR := match st with
  | (2, b) :: (2, a) :: t => bif Nat.blt a.toNat g.2.1 && Nat.blt b.toNat g.2.1 then
      ycfork pc off (match c with | .eq => Nat.beq a.toNat b.toNat | .ne => !(Nat.beq a.toNat b.toNat)) lv t g else none
  | _ => none
def yctsw (pc : Nat) (d lo hi : Int) (offs : Array Int) (lv : List (Nat × ycV)) (st : List ycV) (g : ycH) : ycR := match st with
  | (0, k) :: t => bif decide (y32 k < lo) || decide (hi < y32 k) then ycjmp pc d lv t g
      else (match offs[(y32 k - lo).toNat]? with
        | some off => ycjmp pc off lv t g
        | none => none)
  | _ => none
def yclsw (pc : Nat) (d : Int) (ps : Array (Int × Int)) (lv : List (Nat × ycV)) (st : List ycV) (g : ycH) : ycR := match st with
  | (0, k) :: t => bif (ps.toList.zip (ps.toList.drop 1)).all (fun (a, next) => a.1 < next.1) then
      ycjmp pc (Op.lookupswitch.offset ps.toList d (y32 k)) lv t g else none
  | _ => none
/-- an index within -/
def ycin (i : Int) (n : Nat) : Bool := decide (0 ≤ y32 i) && decide (y32 i < n)
/-- an element of an array -/
def ycelem (kind : Nat) (i a : Int) (g : ycH) : Option ycV := match g.1 a.toNat with
  | (c, n, f) => bif Nat.blt a.toNat g.2.1 && (Nat.beq c kind && (ycin i n && Nat.blt n 2147483648)) then some (f (y32 i).toNat) else none
def ycput (kind : Nat) (i a : Int) (v : ycV) (g : ycH) : Option ycH := match g.1 a.toNat with
  | (c, n, f) => bif Nat.blt a.toNat g.2.1 && (Nat.beq c kind && (ycin i n && Nat.blt n 2147483648)) then some (ycup g.1 a.toNat (c, n, ycup f (y32 i).toNat v), g.2) else none
def ycoldat (old : Nat → Nat × (Nat → Int)) (i a : Int) : Option Int := match old a.toNat with
  | (n, f) => bif ycin i n && Nat.blt n 2147483648 then some (f (y32 i).toNat) else none
def ycald (old : Nat → Nat × (Nat → Int)) (pc : Nat) (lv : List (Nat × ycV)) (st : List ycV) (g : ycH) : ycR := match st with
  | (0, i) :: (2, a) :: t => (match ycelem 14 i a g with | some v => ycgo (pc + 1) lv ((0, v.2) :: t) g | none => none)
  | (0, i) :: (4, a) :: t => (match ycoldat old i a with | some v => ycgo (pc + 1) lv ((0, v) :: t) g | none => none)
  | _ => none
def ycbald (pc : Nat) (lv : List (Nat × ycV)) (st : List ycV) (g : ycH) : ycR := match st with
  | (0, i) :: (2, a) :: t => (match ycelem 16 i a g with | some v => ycgo (pc + 1) lv ((0, v.2) :: t) g | none => none)
  | _ => none
def yclald (pc : Nat) (lv : List (Nat × ycV)) (st : List ycV) (g : ycH) : ycR := match st with
  | (0, i) :: (2, a) :: t => (match ycelem 15 i a g with | some v => ycgo (pc + 1) lv ((1, v.2) :: t) g | none => none)
  | _ => none
def ycaald (pc : Nat) (lv : List (Nat × ycV)) (st : List ycV) (g : ycH) : ycR := match st with
  | (0, i) :: (2, a) :: t => bif Nat.ble 17 (g.1 a.toNat).1 && Nat.ble (g.1 a.toNat).1 20 then (match ycelem (g.1 a.toNat).1 i a g with
      | some v => bif Nat.beq v.1 2 || Nat.beq v.1 3 then ycgo (pc + 1) lv (v :: t) g else none
      | none => none) else none
  | _ => none
def ycast (kind : Nat) (pc : Nat) (lv : List (Nat × ycV)) (st : List ycV) (g : ycH) : ycR := match st with
  | (k, v) :: (0, i) :: (2, a) :: t => bif (bif Nat.beq kind 15 then Nat.beq k 1 else Nat.beq k 0) && (bif Nat.beq kind 16 then decide (v = 0) || decide (v = 1) else true) then
      (match ycput kind i a (k, v) g with | some g3 => ycgo (pc + 1) lv t g3 | none => none) else none
  | _ => none
/-- a cell into an array of cells -/
def ycaast (pc : Nat) (lv : List (Nat × ycV)) (st : List ycV) (g : ycH) : ycR := match st with
  | (2, v) :: (0, i) :: (2, a) :: t => bif Nat.blt v.toNat g.2.1 && ((Nat.beq (g.1 a.toNat).1 17 && Nat.beq (g.1 v.toNat).1 3) || (Nat.beq (g.1 a.toNat).1 18 && Nat.beq (g.1 v.toNat).1 6)) then
      (match ycput (g.1 a.toNat).1 i a (2, v) g with | some g3 => ycgo (pc + 1) lv t g3 | none => none) else none
  | _ => none
def ycalen (old : Nat → Nat × (Nat → Int)) (pc : Nat) (lv : List (Nat × ycV)) (st : List ycV) (g : ycH) : ycR := match st with
  | (2, a) :: t => (match g.1 a.toNat with
    | (k, n, _) => bif Nat.blt a.toNat g.2.1 && (Nat.ble 14 k && (Nat.ble k 20 && Nat.blt n 2147483648)) then ycgo (pc + 1) lv ((0, (n : Int)) :: t) g else none)
  | (4, a) :: t => bif Nat.blt a.toNat 6 && Nat.blt (old a.toNat).1 2147483648 then ycgo (pc + 1) lv ((0, ((old a.toNat).1 : Int)) :: t) g else none
  | _ => none
def ycgetf (x : ycFd) (pc : Nat) (lv : List (Nat × ycV)) (st : List ycV) (g : ycH) : ycR := match st with
  | (2, a) :: t => (match g.1 a.toNat with
    | (c, n, f) => bif Nat.blt a.toNat g.2.1 && (Nat.beq c x.1 && Nat.blt x.2.1 n) then ycgo (pc + 3) lv (f x.2.1 :: t) g else none)
  | _ => none
def ycfit (k : Nat) (v : ycV) : Bool := match k, v with
  | 0, (0, _) => true
  | 1, (0, y) => decide (y = 0) || decide (y = 1)
  | 2, (1, _) => true
  | 3, (2, _) => true
  | 3, (3, _) => true
  | _, _ => false
def ycputf (x : ycFd) (ini : Bool) (pc : Nat) (lv : List (Nat × ycV)) (st : List ycV) (g : ycH) : ycR := match st with
  | v :: (2, a) :: t => (match g.1 a.toNat with
    | (c, n, f) => bif Nat.blt a.toNat g.2.1 && (Nat.beq c x.1 && (Nat.blt x.2.1 n && (ycfit x.2.2.1 v && (bif x.2.2.2.1 then ini && !x.2.2.2.2 else true)))) then
      ycgo (pc + 3) lv t (ycup g.1 a.toNat (c, n, ycup f x.2.1 v), g.2) else none)
  | _ => none
/-- the lengths of the instructions that the clean machine knows -/
def yclen : Instr → Nat
  | .bipush _ | .iload _ | .lload _ | .aload _ | .istore _ | .lstore _ | .astore _ | .ldc _ => 2
  | .sipush _ | .ldc_w _ | .ldc2_w _ | .iinc _ _ | .ifCond _ _ | .if_icmp _ _ | .if_acmp _ _ | .goto _ | .getfield _ | .putfield _ | .getstatic _ => 3
  | _ => 1
def ycisw : Instr → Bool
  | .tableswitch _ _ _ _ | .lookupswitch _ _ => true
  | _ => false
def ycstep (nL : Nat) (ini : Bool) (Fd : Nat → Option ycFd) (Kc Kl : Nat → Option Int) (St : Nat → Option Nat) (old : Nat → Nat × (Nat → Int)) (ins : Instr) (pc : Nat) (lv : List (Nat × ycV)) (st : List ycV) (g : ycH) : ycR := match ins with
  | .iconst i => ycgo (pc + 1) lv ((0, i) :: st) g
  | .bipush i => ycgo (pc + 2) lv ((0, (Int8.ofInt i).toInt32.toInt) :: st) g
  | .sipush i => ycgo (pc + 3) lv ((0, (Int16.ofInt i).toInt32.toInt) :: st) g
  | .lconst i => ycgo (pc + 1) lv ((1, ((i : Nat) : Int)) :: st) g
  | .ldc i => (match Kc i with | some v => ycgo (pc + 2) lv ((0, v) :: st) g | none => none)
  | .ldc_w i => (match Kc i with | some v => ycgo (pc + 3) lv ((0, v) :: st) g | none => none)
  | .ldc2_w i => (match Kl i with | some v => ycgo (pc + 3) lv ((1, v) :: st) g | none => none)
  | .iload_n i => ycload 0 (pc + 1) i lv st g
  | .iload i => ycload 0 (pc + 2) i lv st g
  | .lload_n i => ycload 1 (pc + 1) i lv st g
  | .lload i => ycload 1 (pc + 2) i lv st g
  | .aload_n i => ycload 2 (pc + 1) i lv st g
  | .aload i => ycload 2 (pc + 2) i lv st g
  | .istore_n i => ycstore nL 0 (pc + 1) i lv st g
  | .istore i => ycstore nL 0 (pc + 2) i lv st g
  | .lstore_n i => ycstore nL 1 (pc + 1) i lv st g
  | .lstore i => ycstore nL 1 (pc + 2) i lv st g
  | .astore_n i => ycstore nL 2 (pc + 1) i lv st g
  | .astore i => ycstore nL 2 (pc + 2) i lv st g
  | .iinc i k => ycinc nL pc i k lv st g
  | .iadd => ycI2 (fun a b => y32 (a + b)) pc lv st g
  | .isub => ycI2 (fun a b => y32 (a - b)) pc lv st g
  | .imul => ycI2 (fun a b => y32 (a * b)) pc lv st g
  | .iand => ycI2 (ycI 1) pc lv st g
  | .ior => ycI2 (ycI 2) pc lv st g
  | .ixor => ycI2 (ycI 3) pc lv st g
  | .ishl => ycI2 (ycI 4) pc lv st g
  | .ishr => ycI2 (ycI 5) pc lv st g
  | .iushr => ycI2 (ycI 6) pc lv st g
  | .idiv => ycdiv 7 pc lv st g
  | .irem => ycdiv 8 pc lv st g
  | .ineg => ycneg pc lv st g
  | .ladd => ycL2 (ycJ 4) pc lv st g
  | .lsub => ycL2 (ycJ 5) pc lv st g
  | .lmul => ycL2 (ycJ 6) pc lv st g
  | .land => ycL2 (ycJ 1) pc lv st g
  | .lor => ycL2 (ycJ 2) pc lv st g
  | .lxor => ycL2 (ycJ 3) pc lv st g
  | .ldiv => ycldiv 7 pc lv st g
  | .lrem => ycldiv 8 pc lv st g
  | .lshl => ycLI (ycJI 1) pc lv st g
  | .lshr => ycLI (ycJI 2) pc lv st g
  | .lushr => ycLI (ycJI 3) pc lv st g
  | .i2l => yci2l pc lv st g
  | .l2i => ycl2i pc lv st g
  | .lcmp => yclcmp pc lv st g
  | .dup => ycdup pc lv st g
  | .dup2 => ycdup2 pc lv st g
  | .pop => ycpop pc lv st g
  | .ifCond c off => ycif c pc off lv st g
  | .if_icmp c off => ycicm c pc off lv st g
  | .if_acmp c off => ycacm c pc off lv st g
  | .goto off => ycjmp pc off lv st g
  | .tableswitch d lo hi offs => yctsw pc d lo hi offs lv st g
  | .lookupswitch d ps => yclsw pc d ps lv st g
  | .iaload => ycald old pc lv st g
  | .laload => yclald pc lv st g
  | .baload => ycbald pc lv st g
  | .aaload => ycaald pc lv st g
  | .iastore => ycast 14 pc lv st g
  | .lastore => ycast 15 pc lv st g
  | .bastore => ycast 16 pc lv st g
  | .aastore => ycaast pc lv st g
  | .arraylength => ycalen old pc lv st g
  | .getfield i => (match Fd i with | some x => ycgetf x pc lv st g | none => none)
  | .putfield i => (match Fd i with | some x => ycputf x ini pc lv st g | none => none)
  | .getstatic i => (match St i with | some k => ycgo (pc + 3) lv ((4, (k : Int)) :: st) g | none => none)
  | _ => none
end YC2
