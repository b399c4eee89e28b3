section YC9
/-! THE CLEAN MACHINE: tables, calls, throws, the run -/
/-- 1 instructions, 2 fields, 3 ints, 4 longs, 5 calls (method, sort: 0 static, 1 by the object's class, 2 constructor, 3 static of a nest mate, 4 constructor of a nest mate, 6 Object's constructor), 6 methods (values that come, width of its table of values, what it answers: 0 nothing, 1 int, 2 boolean, 3 long, 4 reference; constructor; the kind of its objects), 7 room (frames, locals), 8 handlers, 9 exceptions by their entries (number, supers), 10 their constructors, 11 objects that are made (kind, fields), 12 arrays of references that are made (kind), 13 static arrays, 14 what fields hold at first, 15 arrays that were there before -/
abbrev ycT := (Nat → Nat → Option (Instr × Nat)) × (Nat → Nat → Option ycFd) × (Nat → Nat → Option Int) × (Nat → Nat → Option Int) × (Nat → Nat → Option (Nat × Nat)) × (Nat → Nat × Nat × Nat × Bool × Nat) × (Nat → Nat × Nat) × (Nat → List (Nat × Nat × Nat × Nat)) × (Nat → Nat → Option (Nat × Nat)) × (Nat → Nat → Option Nat) × (Nat → Nat → Option (Nat × Nat)) × (Nat → Nat → Option Nat) × (Nat → Nat → Option Nat) × (Nat → Nat → ycV) × (Nat → Nat × (Nat → Int))
abbrev ytP (T : ycT) := T.1
abbrev ytFD (T : ycT) := T.2.1
abbrev ytKC (T : ycT) := T.2.2.1
abbrev ytKL (T : ycT) := T.2.2.2.1
abbrev ytMC (T : ycT) := T.2.2.2.2.1
abbrev ytMI (T : ycT) := T.2.2.2.2.2.1
abbrev ytRM (T : ycT) := T.2.2.2.2.2.2.1
abbrev ytHD (T : ycT) := T.2.2.2.2.2.2.2.1
abbrev ytNX (T : ycT) := T.2.2.2.2.2.2.2.2.1
abbrev ytNI (T : ycT) := T.2.2.2.2.2.2.2.2.2.1
abbrev ytNC (T : ycT) := T.2.2.2.2.2.2.2.2.2.2.1
abbrev ytNA (T : ycT) := T.2.2.2.2.2.2.2.2.2.2.2.1
abbrev ytST (T : ycT) := T.2.2.2.2.2.2.2.2.2.2.2.2.1
abbrev ytDF (T : ycT) := T.2.2.2.2.2.2.2.2.2.2.2.2.2.1
abbrev ytOL (T : ycT) := T.2.2.2.2.2.2.2.2.2.2.2.2.2.2
def ycmore (mc ms : Nat) (u : ycL) : ycL := (u.1, u.2.1, mc + u.2.2.1, ms + u.2.2.2.1, u.2.2.2.2)
def ycargs : Nat → List ycV → List (Nat × ycV)
  | _, [] => []
  | i, v :: vs => (i, v) :: ycargs (bif Nat.beq v.1 1 then i + 2 else i + 1) vs
theorem ycargs_s (ad oa : Nat → Nat) : ∀ (vs : List ycV) (i : Nat), yclv ad oa (ycargs i vs) = lv_args i (vs.map (ycv ad oa)) := by
  intro vs
  induction vs with
  | nil => intro i; rfl
  | cons v vs ih =>
    intro i
    show (i, ycv ad oa v) :: yclv ad oa (ycargs (bif Nat.beq v.1 1 then i + 2 else i + 1) vs) = (i, ycv ad oa v) :: lv_args (if (ycv ad oa v).category = 2 then i + 2 else i + 1) (vs.map (ycv ad oa))
    rw [ih]
    have := yccat ad oa v
    cases hb : Nat.beq v.1 1 with
    | true => rw [hb] at this; rw [if_pos (by simpa using this)]; rfl
    | false => rw [hb] at this; rw [if_neg (by simpa using this)]; rfl
def ycwide : List ycV → Nat
  | [] => 0
  | v :: vs => (bif Nat.beq v.1 1 then 2 else 1) + ycwide vs
theorem ycwide_s (ad oa : Nat → Nat) : ∀ vs : List ycV, (lg_sl (vs.map (ycv ad oa))).length = ycwide vs := by
  intro vs
  induction vs with
  | nil => rfl
  | cons v vs ih =>
    show (List.flatMap (fun v => if v.category = 2 then [Slot.val v, Slot.second] else [Slot.val v]) (ycv ad oa v :: vs.map (ycv ad oa))).length = (bif Nat.beq v.1 1 then 2 else 1) + ycwide vs
    rw [List.flatMap_cons, List.length_append]
    have := yccat ad oa v
    have ih : (List.flatMap (fun v => if v.category = 2 then [Slot.val v, Slot.second] else [Slot.val v]) (vs.map (ycv ad oa))).length = ycwide vs := ih
    rw [ih]
    cases hb : Nat.beq v.1 1 with
    | true => rw [hb] at this; rw [if_pos (by simpa using this)]; rfl
    | false => rw [hb] at this; rw [if_neg (by simpa using this)]; rfl
theorem yccats_s (ad oa : Nat → Nat) : ∀ vs : List ycV, ((vs.map (ycv ad oa)).map fun v => v.category).sum = ycwide vs := by
  intro vs
  induction vs with
  | nil => rfl
  | cons v vs ih =>
    show (ycv ad oa v).category + ((vs.map (ycv ad oa)).map fun v => v.category).sum = (bif Nat.beq v.1 1 then 2 else 1) + ycwide vs
    rw [ih]
    have := yccat ad oa v
    cases hb : Nat.beq v.1 1 with
    | true => rw [hb] at this; rw [show (ycv ad oa v).category = 2 by simpa using this]; rfl
    | false => rw [yccat1 hb]; rfl
def ycret (ins : Instr) (ret : Nat) (st : List ycV) (g : ycH) : Option ycL := match ins, st with
  | .return_, [] => bif Nat.beq ret 0 then some (0, (3, 0), 0, 0, g) else none
  | .ireturn, [(0, e)] => bif Nat.beq ret 1 || (Nat.beq ret 2 && ycfit 1 (0, e)) then some (1, (0, e), 0, 0, g) else none
  | .lreturn, [(1, e)] => bif Nat.beq ret 3 then some (1, (1, e), 0, 0, g) else none
  | .areturn, [(2, k)] => bif Nat.beq ret 4 then some (1, (2, k), 0, 0, g) else none
  | _, _ => none
/-- the handler of an exception at a place -/
def ychand (NX : Nat → Option (Nat × Nat)) (e pc : Nat) : List (Nat × Nat × Nat × Nat) → Option (Option Nat)
  | [] => some none
  | q :: l => bif Nat.ble q.1 pc && Nat.blt pc q.2.1 then (match NX q.2.2.2 with
      | some x => bif Nat.beq x.1 e then some (some q.2.2.1) else ychand NX e pc l
      | none => none) else ychand NX e pc l
abbrev ycRun := Nat → ycF → ycH → Option ycL
def ycthen (mc ms : Nat) (r : Option ycL) : Option ycL := match r with
  | some u => some (ycmore mc ms u)
  | none => none
def ycback (T : ycT) (run : ycRun) (mid pc : Nat) (lv : List (Nat × ycV)) (rest : List ycV) (ret : Nat) (known : Bool) (u : ycL) : Option ycL :=
  match u.1 with
  | 0 => bif Nat.beq ret 0 then ycthen u.2.2.1 u.2.2.2.1 (run mid (pc + 3, lv, rest) (u.2.2.2.2.1, u.2.2.2.2.2.1, u.2.2.2.2.2.2 && known)) else none
  | 1 => bif Nat.beq ret 0 then none else ycthen u.2.2.1 u.2.2.2.1 (run mid (pc + 3, lv, u.2.1 :: rest) (u.2.2.2.2.1, u.2.2.2.2.2.1, u.2.2.2.2.2.2 && known))
  | e + 2 => (match ychand (ytNX T mid) e pc (ytHD T mid) with
      | none => none
      | some none => some (e + 2, (3, 0), u.2.2.1, u.2.2.2.1, (u.2.2.2.2.1, u.2.2.2.2.2.1, u.2.2.2.2.2.2 && known))
      | some (some h) => (match ytP T mid h with
        | some (.astore_n k, 1) => bif Nat.blt k (ytMI T mid).2.1 then ycthen u.2.2.1 u.2.2.2.1 (run mid (h + 1, ycdrop lv k, []) (u.2.2.2.2.1, u.2.2.2.2.2.1, u.2.2.2.2.2.2 && known)) else none
        | some (.astore k, 2) => bif Nat.blt k (ytMI T mid).2.1 then ycthen u.2.2.1 u.2.2.2.1 (run mid (h + 2, ycdrop lv k, []) (u.2.2.2.2.1, u.2.2.2.2.2.1, u.2.2.2.2.2.2 && known)) else none
        | _ => none))
/-- the object that is called is one of the class -/
def ycrecv (ck : Nat) (g : ycH) : List ycV → Bool
  | (2, a) :: _ => Nat.blt a.toNat g.2.1 && Nat.beq (g.1 a.toNat).1 ck
  | _ => false
/-- Math.max, min, abs -/
def ycmath (T : ycT) (run : ycRun) (mid cm kind : Nat) (fr : ycF) (g : ycH) : Option ycL := match kind, cm, fr.2.2 with
  | 0, 0, (0, y) :: (0, x) :: rest => bif Nat.ble 1 (ytRM T mid).1 && Nat.ble (ycwide rest + 13) (ytRM T mid).2 then run mid (fr.1 + 3, fr.2.1, (0, bif decide (y32 x < y32 y) then y else x) :: rest) g else none
  | 0, 1, (0, y) :: (0, x) :: rest => bif Nat.ble 1 (ytRM T mid).1 && Nat.ble (ycwide rest + 13) (ytRM T mid).2 then run mid (fr.1 + 3, fr.2.1, (0, bif decide (y32 y < y32 x) then y else x) :: rest) g else none
  | 0, 2, (0, x) :: rest => bif Nat.ble 1 (ytRM T mid).1 && Nat.ble (ycwide rest + 13) (ytRM T mid).2 then run mid (fr.1 + 3, fr.2.1, (0, bif decide (0 ≤ y32 x) then x else y32 (0 - x)) :: rest) g else none
  | _, _, _ => none
def yccall (T : ycT) (run : ycRun) (mid i kind : Nat) (fr : ycF) (g : ycH) : Option ycL :=
  match ytMC T mid i with
  | none => none
  | some (cm, mode) =>
    bif Nat.beq mode 6 then (match kind, fr.2.2 with
      | 2, (2, _) :: rest => bif Nat.ble 1 (ytRM T mid).1 && Nat.ble (ycwide rest + 12) (ytRM T mid).2 then run mid (fr.1 + 3, fr.2.1, rest) g else none
      | _, _ => none)
    else bif Nat.beq mode 5 then ycmath T run mid cm kind fr g
    else bif Nat.beq (fr.2.2.take (ytMI T cm).1).length (ytMI T cm).1 && (Nat.ble (ycwide (fr.2.2.take (ytMI T cm).1).reverse) (ytMI T cm).2.1 && (Nat.ble (ycwide (fr.2.2.drop (ytMI T cm).1)) 8 && (Nat.ble ((ytRM T cm).1 + 1) (ytRM T mid).1 && (Nat.ble (8 + ((ytMI T cm).2.1 + 11) + (ytRM T cm).2) (ytRM T mid).2 &&
        (bif Nat.beq kind 0 then Nat.beq mode 0 || Nat.beq mode 3 else bif Nat.beq kind 1 then Nat.beq mode 1 && ycrecv (ytMI T cm).2.2.2.2 g (fr.2.2.take (ytMI T cm).1).reverse else Nat.beq kind 2 && (Nat.beq mode 2 || Nat.beq mode 4) && ycrecv (g.1 (match (fr.2.2.take (ytMI T cm).1).reverse with | (_, a) :: _ => a.toNat | _ => 0)).1 g (fr.2.2.take (ytMI T cm).1).reverse))))) then
        (match run cm (0, ycargs 0 (fr.2.2.take (ytMI T cm).1).reverse, []) g with
        | none => none
        | some u => ycback T run mid fr.1 fr.2.1 (fr.2.2.drop (ytMI T cm).1) (ytMI T cm).2.2.1 g.2.2 u)
      else none
def ycthrow (T : ycT) (mid i e n : Nat) (fr : ycF) (g : ycH) : Option ycL :=
  match ytP T mid (fr.1 + 3), ytP T mid (fr.1 + 4), ytP T mid (fr.1 + 7) with
  | some (.dup, 1), some (.invokespecial j, 3), some (.athrow, 1) =>
    bif (match ytNI T mid j with | some e2 => Nat.beq e e2 | none => false) && ((ytHD T mid).isEmpty && (Nat.blt (n + 3) (ytRM T mid).1 && Nat.ble (ycwide fr.2.2 + (13 * (n + 1) + 42)) (ytRM T mid).2)) then
      some (e + 2, (3, 0), 1, 6, (g.1, g.2.1, false)) else none
  | _, _, _ => none
def ycnewi (T : ycT) (run : ycRun) (mid i : Nat) (fr : ycF) (g : ycH) : Option ycL :=
  match ytNX T mid i with
  | some (e, n) => ycthrow T mid i e n fr g
  | none => (match ytNC T mid i with
    | some (ci, N) => bif g.2.2 then ycthen 1 N (run mid (fr.1 + 3, fr.2.1, (2, (g.2.1 : Int)) :: fr.2.2) (ycmk g (ci, N, ytDF T ci))) else none
    | none => none)
def ycnewa (run : ycRun) (mid : Nat) (atype : ArrayType) (fr : ycF) (g : ycH) : Option ycL :=
  match ycak atype, fr.2.2 with
  | some kind, (0, n) :: rest => bif g.2.2 && ycln n then ycthen 1 (y32 n).toNat (run mid (fr.1 + 2, fr.2.1, (2, (g.2.1 : Int)) :: rest) (ycmk g (kind, (y32 n).toNat, fun _ => ycadf kind))) else none
  | _, _ => none
def ycanew (T : ycT) (run : ycRun) (mid i : Nat) (fr : ycF) (g : ycH) : Option ycL :=
  match ytNA T mid i, fr.2.2 with
  | some kind, (0, n) :: rest => bif g.2.2 && (ycln n && (Nat.beq kind 17 || Nat.beq kind 18)) then ycthen 1 (y32 n).toNat (run mid (fr.1 + 3, fr.2.1, (2, (g.2.1 : Int)) :: rest) (ycmk g (kind, (y32 n).toNat, fun _ => ycadf kind))) else none
  | _, _ => none
def ycmul (T : ycT) (run : ycRun) (mid i : Nat) (fr : ycF) (g : ycH) : Option ycL :=
  match ytNA T mid i, fr.2.2 with
  | some kind, (0, k) :: (0, n) :: rest => bif g.2.2 && (ycln n && (ycln k && (Nat.beq kind 19 || Nat.beq kind 20))) then
      ycthen (1 + (y32 n).toNat) ((y32 n).toNat + (y32 n).toNat * (y32 k).toNat) (run mid (fr.1 + 4, fr.2.1, (2, (g.2.1 : Int)) :: rest) (ycmm g kind (kind - 5) (y32 n).toNat (y32 k).toNat)) else none
  | _, _ => none
def ycretl (ins : Instr) (len : Nat) (T : ycT) (mid : Nat) (fr : ycF) (g : ycH) : Option ycL := bif Nat.beq len 1 then ycret ins (ytMI T mid).2.2.1 fr.2.2 g else none
def ycbody (T : ycT) (run : ycRun) (mid : Nat) (fr : ycF) (g : ycH) : Option ycL :=
  match ytP T mid fr.1 with
  | none => none
  | some (ins, len) =>
    match ins with
    | .return_ => ycretl .return_ len T mid fr g
    | .ireturn => ycretl .ireturn len T mid fr g
    | .lreturn => ycretl .lreturn len T mid fr g
    | .areturn => ycretl .areturn len T mid fr g
    | .invokestatic i => bif Nat.beq len 3 then yccall T run mid i 0 fr g else none
    | .invokevirtual i => bif Nat.beq len 3 then yccall T run mid i 1 fr g else none
    | .invokespecial i => bif Nat.beq len 3 then yccall T run mid i 2 fr g else none
    | .new i => bif Nat.beq len 3 then ycnewi T run mid i fr g else none
    | .newarray a => bif Nat.beq len 2 then ycnewa run mid a fr g else none
    | .anewarray i => bif Nat.beq len 3 then ycanew T run mid i fr g else none
    | .multianewarray i d => bif Nat.beq len 4 && Nat.beq d 2 then ycmul T run mid i fr g else none
    | ins => bif ycisw ins || Nat.beq len (yclen ins) then (match ycstep (ytMI T mid).2.1 (ytMI T mid).2.2.2.1 (ytFD T mid) (ytKC T mid) (ytKL T mid) (ytST T mid) (ytOL T) ins fr.1 fr.2.1 fr.2.2 g with
        | some (fr2, g2) => run mid fr2 g2
        | none => none) else none
def ycrun (T : ycT) : Nat → ycRun
  | 0 => fun _ _ _ => none
  | k + 1 => fun mid fr g => ycbody T (ycrun T k) mid fr g
theorem ycrun_n (T : ycT) (k mid : Nat) (fr : ycF) (g : ycH) : ycrun T (k + 1) mid fr g = ycbody T (ycrun T k) mid fr g := rfl
end YC9
