section YF1
def yfr (mid : Nat) : ydM := yfM.get mid
def yfc (mid : Nat) : ydC := yfC.get (yfr mid).2.2.2.2.2.1
def yfN (mid : Nat) : MethodName := (yfr mid).1
def yfB (mid : Nat) : ByteArray := ydbytes (yfr mid).2.2.2.2.2.2.2.1
def yfR (mid : Nat) : Option FieldType := (yfr mid).2.1
def yfk (ci : Nat) : ydK := (yeK[ci]?).getD ("", [], [])
def yfcl : List vw_C := yeK.map fun q => (q.1, ydF q, q.2.1.length)
def yfsn : Nat → String × String
  | 1 => ("PictureCodingHouse$Packs", "LENGTH_BASE")
  | 2 => ("PictureCodingHouse$Packs", "LENGTH_EXTRA")
  | 3 => ("PictureCodingHouse$Packs", "DISTANCE_BASE")
  | 4 => ("PictureCodingHouse$Packs", "DISTANCE_EXTRA")
  | _ => ("PictureCodingHouse$Packs", "LENGTHS_ORDER")
def yfNs : List (String × String) := (List.range 5).flatMap fun a => ((List.range 5).filter fun b => !(Nat.beq a b)).map fun b => (ycXn a, ycXn b)
/-- the tables, over the arrays that were there before -/
def yfT (old : Nat → Nat × (Nat → Int)) : ycT :=
  (fun mid pc => ydget (yfr mid).2.2.2.2.2.2.1 pc,
   fun mid i => (ydget (yfc mid).2.1 i).map (fun v => v.1),
   fun mid i => (ydget (yfc mid).2.2.1 i).map (fun v => v.1),
   fun mid i => (ydget (yfc mid).2.2.2.1 i).map (fun v => v.1),
   fun mid i => (ydget (yfc mid).2.2.2.2.1 i).map (fun v => (v.1, v.2.1)),
   fun mid => (yfr mid).2.2.1,
   fun mid => (yfr mid).2.2.2.1,
   fun mid => (yfr mid).2.2.2.2.1,
   fun mid i => (ydget (yfc mid).2.2.2.2.2.1 i).map (fun v => (v.1, 2)),
   fun mid i => ydget (yfc mid).2.2.2.2.2.2.1 i,
   fun mid i => (ydget (yfc mid).2.2.2.2.2.2.2.1 i).map (fun v => (v.1, v.2.1)),
   fun mid i => (ydget (yfc mid).2.2.2.2.2.2.2.2.1 i).map (fun v => v.1),
   fun mid i => (ydget (yfc mid).2.2.2.2.2.2.2.2.2 i).map (fun v => v.1),
   fun ci j => yddf (ydty (yfk ci) j),
   old)
def yh_field (own : String) (i : Nat) (v : ycFd × ydP) : Bool := match yeK[v.1.1]? with
  | some q => Nat.blt v.1.2.1 q.2.1.length && (Nat.blt v.1.1 14 && ((bif v.1.2.2.2.2 then ydw v.2 (Cond.fieldLinkNest own i (ydF q v.1.2.1).1 (ydF q v.1.2.1).2.1 (ydF q v.1.2.1).2.2.1 "PictureCodingHouse") || ydw v.2 (Cond.fieldLink own i (ydF q v.1.2.1).1 (ydF q v.1.2.1).2.1 (ydF q v.1.2.1).2.2.1) else ydw v.2 (Cond.fieldLink own i (ydF q v.1.2.1).1 (ydF q v.1.2.1).2.1 (ydF q v.1.2.1).2.2.1)) &&
      (decide ((ydF q v.1.2.1).2.2.2 = v.1.2.2.2.1) && ((!v.1.2.2.2.1 || (v.1.2.2.2.2 || decide ((ydF q v.1.2.1).1 = own))) && Nat.beq (ydsorts (ydty q v.1.2.1)) v.1.2.2.1))))
  | none => false
def yh_int (own : String) (i : Nat) (v : Int × ydP) : Bool := ydw v.2 (Cond.constant own i (Int32.ofInt v.1))
def yh_long (own : String) (i : Nat) (v : Int × ydP) : Bool := ydw v.2 (Cond.constantLong own i (Int64.ofInt v.1))
def yh_call (own : String) (i : Nat) (v : Nat × Nat × ydP × ydP × ydP) : Bool := match v.2.1 with
  | 6 => ydw v.2.2.1 (Cond.methodLink own i Lib.objectInit)
  | 5 => Nat.blt v.1 3 && (ydw (1, 3) (Cond.initialized "java/lang/Math") && (match v.1 with
    | 0 => ydw v.2.2.1 (Cond.methodLink own i Lib.Math.max.name) && (ydw v.2.2.2.1 (Cond.static Lib.Math.max.name) && ydw v.2.2.2.2 (Cond.code Lib.Math.max.name Lib.Math.max.code 2 (some .int)))
    | 1 => ydw v.2.2.1 (Cond.methodLink own i Lib.Math.min.name) && (ydw v.2.2.2.1 (Cond.static Lib.Math.min.name) && ydw v.2.2.2.2 (Cond.code Lib.Math.min.name Lib.Math.min.code 2 (some .int)))
    | _ => ydw v.2.2.1 (Cond.methodLink own i Lib.Math.abs.name) && (ydw v.2.2.2.1 (Cond.static Lib.Math.abs.name) && ydw v.2.2.2.2 (Cond.code Lib.Math.abs.name Lib.Math.abs.code 1 (some .int)))))
  | 0 => ydw v.2.2.1 (Cond.methodLink own i (yfN v.1)) && (ydw v.2.2.2.1 (Cond.static (yfN v.1)) && decide (ycparn (yfN v.1) = some (yfr v.1).2.2.1.1))
  | 1 => ydw v.2.2.1 (Cond.methodLink own i (yfN v.1)) && (ydw v.2.2.2.1 (Cond.instanceMethod (yfN v.1)) && (ydw v.2.2.2.2 (Cond.selects (yfN v.1).cls (yfN v.1) (yfN v.1)) && (decide (ycparn (yfN v.1) = some ((yfr v.1).2.2.1.1 - 1)) && (Nat.ble 1 (yfr v.1).2.2.1.1 &&
      (match yeK[(yfr v.1).2.2.1.2.2.2.2]? with
        | some q => decide (q.1 = (yfN v.1).cls) && Nat.blt (yfr v.1).2.2.1.2.2.2.2 14
        | none => false)))))
  | 2 => ydw v.2.2.1 (Cond.methodLink own i (yfN v.1)) && (ydw v.2.2.2.1 (Cond.instanceMethod (yfN v.1)) && (decide ((yfN v.1).name = "<init>") && (decide (ycparn (yfN v.1) = some ((yfr v.1).2.2.1.1 - 1)) && (Nat.ble 1 (yfr v.1).2.2.1.1 && ((yfr v.1).2.2.2.2.1.isEmpty && Nat.beq (yfr v.1).2.2.1.2.2.1 0)))))
  | 3 => ydw v.2.2.1 (Cond.methodLinkNest own i (yfN v.1) "PictureCodingHouse") && (ydw v.2.2.2.1 (Cond.static (yfN v.1)) && (decide (ycparn (yfN v.1) = some (yfr v.1).2.2.1.1) && (yfr v.1).2.2.2.2.1.isEmpty))
  | 4 => ydw v.2.2.1 (Cond.methodLinkNest own i (yfN v.1) "PictureCodingHouse") && (ydw v.2.2.2.1 (Cond.instanceMethod (yfN v.1)) && (decide ((yfN v.1).name = "<init>") && (decide (ycparn (yfN v.1) = some ((yfr v.1).2.2.1.1 - 1)) && (Nat.ble 1 (yfr v.1).2.2.1.1 && ((yfr v.1).2.2.2.2.1.isEmpty && Nat.beq (yfr v.1).2.2.1.2.2.1 0)))))
  | _ => false
def yh_exc (own : String) (i : Nat) (v : Nat × ydP × ydP) : Bool := Nat.blt v.1 5 && (!(Nat.beq i 0) && (ydw v.2.1 (Cond.classLink own i (ycXn v.1)) && ydw v.2.2 (Cond.initialized (ycXn v.1))))
def yh_ctor (own : String) (j : Nat) (v : Nat) : Bool := (vx_at0 own j (ycXn v) ycXs).all fun w => ydin [3, 4, 5, 1, 2, 6, 12, 17, 23, 0] w && vx_ot w
def yh_new (own : String) (i : Nat) (v : Nat × Nat × ydP × ydP × ydP) : Bool := match yeK[v.1]? with
  | some q => Nat.beq q.2.1.length v.2.1 && (Nat.blt v.1 14 && (ydw v.2.2.1 (Cond.classLink own i q.1) && (ydw v.2.2.2.1 (Cond.instantiable q.1 v.2.1) && ydw v.2.2.2.2 (Cond.initialized q.1))))
  | none => false
def yh_arr (own : String) (i : Nat) (v : Nat × ydP × ydP) : Bool := ((Nat.beq v.1 17 || Nat.beq v.1 18) && (ydw v.2.1 (Cond.classLink own i (yckC v.1)) && ydw v.2.2 (Cond.arrayOver (.object (yckC v.1))))) ||
  ((Nat.beq v.1 19 || Nat.beq v.1 20) && (ydw v.2.1 (Cond.classLink own i ("[" ++ (FieldType.array (yckT (v.1 - 5))).toString)) && ydw v.2.2 (Cond.arrayOver (.array (yckT (v.1 - 5))))))
def yh_stat (own : String) (i : Nat) (v : Nat × ydP) : Bool := Nat.ble 1 v.1 && (Nat.blt v.1 6 && (decide ((yfsn v.1).1 = own) && ydw v.2 (Cond.fieldLink own i own (yfsn v.1).2 "[I")))
def yh_class (c : ydC) : Bool := ydck (yh_field c.1) c.2.1 && (ydck (yh_int c.1) c.2.2.1 && (ydck (yh_long c.1) c.2.2.2.1 && (ydck (yh_call c.1) c.2.2.2.2.1 && (ydck (yh_exc c.1) c.2.2.2.2.2.1 && (ydck (yh_ctor c.1) c.2.2.2.2.2.2.1 && (ydck (yh_new c.1) c.2.2.2.2.2.2.2.1 && (ydck (yh_arr c.1) c.2.2.2.2.2.2.2.2.1 && ydck (yh_stat c.1) c.2.2.2.2.2.2.2.2.2)))))))
def yh_code (b : ByteArray) (pc : Nat) (v : Instr × Nat) : Bool := decide (decode b pc = .ok v)
def yh_meth (r : ydM) : Bool := plainName r.1.cls && (decide (r.1.cls ≠ "java/lang/invoke/MethodHandle" ∧ r.1.cls ≠ "java/lang/invoke/VarHandle") && (ydw r.2.2.2.2.2.2.2.2 (Cond.initialized r.1.cls) && (ydcw r.2.2.2.2.2.2.2.1 r.1 r.2.2.1.2.1 r.2.1 r.2.2.2.2.1 &&
  (ydret r.2.2.1.2.2.1 r.2.1 && ((!r.2.2.1.2.2.2.1 || decide (r.1.name = "<init>")) && decide ((yfC.get r.2.2.2.2.2.1).1 = r.1.cls))))))
def yh_body (r : ydM) : Bool := ydck (yh_code (ydbytes r.2.2.2.2.2.2.2.1)) r.2.2.2.2.2.2.1
end YF1
