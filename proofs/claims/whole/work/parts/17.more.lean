section XJ8
variable {p : Program} {l : Launch} {e : Env} {R : Room} {s : State} {m : MethodId} {args : Array Value} {below : List Frame} {meth : Method} {c : Code} {Q : State → Prop} {cl : List vw_C} {D : va_G} {A : Nat → Prop} {tc : Nat → ClassId} {ad : Nat → Nat} {r : Nat → Int32 × Int64} {nL cells slots : Nat}
variable {cc : ByteArray} {pc len : Nat} {lv : List (Nat × xjV)} {st : List xjV} {g : xjG} {L : List (xjFr × xjG)}
/-- the lengths of the instructions that the engine knows -/
noncomputable def xjlen : Instr → Nat
  | .bipush _ | .iload _ | .lload _ | .aload _ | .istore _ | .lstore _ | .astore _ | .ldc _ => 2
  | .sipush _ | .ldc_w _ | .ldc2_w _ | .iinc _ _ | .ifCond _ _ | .if_icmp _ _ | .if_acmp _ _ | .goto _ | .getfield _ | .putfield _ => 3
  | _ => 1
noncomputable def xjaald (pc : Nat) (lv : List (Nat × xjV)) (st : List xjV) (g : xjG) : xjR := match st with
  | (_, _) :: (2, .num a) :: _ => bif Nat.ble 17 (xjget 10 g.2.1 a.toNat).1 && Nat.ble (xjget 10 g.2.1 a.toNat).1 20 then xjald (xjget 10 g.2.1 a.toNat).1 pc lv st g else none
  | _ => none
noncomputable def xjalen (pc : Nat) (lv : List (Nat × xjV)) (st : List xjV) (g : xjG) : xjR := match st with
  | (2, .num a) :: t => (match xjget 10 g.2.1 a.toNat with
    | (k, n, _) => bif Nat.blt a.toNat g.2.2.1 && Nat.ble 14 k && Nat.ble k 20 && Nat.ble n 32768 then xjgo (pc + 1) lv ((0, .num (n : Int)) :: t) g else none)
  | _ => none
noncomputable def xjinc (nL pc i : Nat) (k : Int) (lv : List (Nat × xjV)) (st : List xjV) (g : xjG) : xjR := match xjlget lv i with
  | some (0, e) => bif Nat.blt i nL then xjgo (pc + 3) (xjst1 lv i (0, xjadd e (.num k))) st g else none
  | _ => none
noncomputable def xjdiv (k pc : Nat) (lv : List (Nat × xjV)) (st : List xjV) (g : xjG) : xjR := match st with
  | (0, .num b) :: (0, a) :: t => bif decide (xjw b = 0) then none else xjgo (pc + 1) lv ((0, xjbin k a (.num b)) :: t) g
  | _ => none
noncomputable def xji2l (pc : Nat) (lv : List (Nat × xjV)) (st : List xjV) (g : xjG) : xjR := match st with
  | (0, .num b) :: t => xjgo (pc + 1) lv ((1, .num (Int32.ofInt b).toInt64.toInt) :: t) g
  | (0, e) :: t => xjgo (pc + 1) lv ((1, .pow (.neg (.neg e)) 0) :: t) g
  | _ => none
noncomputable def xjl2i (pc : Nat) (lv : List (Nat × xjV)) (st : List xjV) (g : xjG) : xjR := match st with
  | (1, .num b) :: t => xjgo (pc + 1) lv ((0, .num (Int64.ofInt b).toInt32.toInt) :: t) g
  | (1, e) :: t => xjgo (pc + 1) lv ((0, .pow (.neg (.neg e)) 0) :: t) g
  | _ => none
noncomputable def xjlcmp (pc : Nat) (lv : List (Nat × xjV)) (st : List xjV) (g : xjG) : xjR := match st with
  | (1, .num b) :: (1, .num a) :: t => xjgo (pc + 1) lv ((0, .num (lg_cmp (Int64.ofInt a) (Int64.ofInt b)).toInt) :: t) g
  | _ => none
noncomputable def xjdup (pc : Nat) (lv : List (Nat × xjV)) (st : List xjV) (g : xjG) : xjR := match st with
  | v :: t => bif Nat.beq v.1 1 then none else xjgo (pc + 1) lv (v :: v :: t) g
  | _ => none
noncomputable def xjdup2 (pc : Nat) (lv : List (Nat × xjV)) (st : List xjV) (g : xjG) : xjR := match st with
  | v :: w :: t => bif Nat.beq v.1 1 || Nat.beq w.1 1 then none else xjgo (pc + 1) lv (v :: w :: v :: w :: t) g
  | _ => none
noncomputable def xjpop (pc : Nat) (lv : List (Nat × xjV)) (st : List xjV) (g : xjG) : xjR := match st with
  | v :: t => bif Nat.beq v.1 1 then none else xjgo (pc + 1) lv t g
  | _ => none
noncomputable def xjtsw (pc : Nat) (d lo hi : Int) (offs : Array Int) (lv : List (Nat × xjV)) (st : List xjV) (g : xjG) : xjR := match st with
  | (0, .num k) :: t => bif xjle (xjw k) (lo - 1) || xjle (hi + 1) (xjw k) then (match xjtgt pc d with | some n => xjgo n lv t g | none => none)
      else (match offs[(xjw k - lo).toNat]? with
        | some off => (match xjtgt pc off with | some n => xjgo n lv t g | none => none)
        | none => none)
  | (0, x) :: t => xjsplit pc lv x (fun y => (0, y) :: t) g
  | _ => none
noncomputable def xjlsw (pc : Nat) (d : Int) (ps : Array (Int × Int)) (lv : List (Nat × xjV)) (st : List xjV) (g : xjG) : xjR := match st with
  | (0, .num k) :: t => bif (ps.toList.zip (ps.toList.drop 1)).all (fun (a, next) => a.1 < next.1) then
      (match xjtgt pc (Op.lookupswitch.offset ps.toList d (xjw k)) with | some n => xjgo n lv t g | none => none) else none
  | (0, x) :: t => xjsplit pc lv x (fun y => (0, y) :: t) g
  | _ => none
noncomputable def xjacmp (cnd : ClassFile.ACond) (pc : Nat) (off : Int) (lv : List (Nat × xjV)) (st : List xjV) (g : xjG) : xjR := match st with
  | (2, .num b) :: (2, .num a) :: t => bif Nat.blt a.toNat g.2.2.1 && Nat.blt b.toNat g.2.2.1 then
      xjfork pc off [(match cnd with | .eq => Nat.beq a.toNat b.toNat | .ne => !(Nat.beq a.toNat b.toNat), g.1)] lv t g else none
  | _ => none
noncomputable def xjif (cd : ClassFile.Cond) (pc : Nat) (off : Int) (lv : List (Nat × xjV)) (st : List xjV) (g : xjG) : xjR := match st with
  | (0, x) :: t => xjfork pc off (xjtest g.1 cd x (.num 0)) lv t g
  | _ => none
noncomputable def xjicm (cd : ClassFile.Cond) (pc : Nat) (off : Int) (lv : List (Nat × xjV)) (st : List xjV) (g : xjG) : xjR := match st with
  | (0, y) :: (0, x) :: t => xjfork pc off (xjtest g.1 cd x y) lv t g
  | _ => none
noncomputable def xjstep (nL : Nat) (ini : Bool) (Fd : Nat → Option xjFd) (Kc Kl : Nat → Option Int) (ins : Instr) (pc : Nat) (lv : List (Nat × xjV)) (st : List xjV) (g : xjG) : xjR := match ins with
  | .iconst i => xjgo (pc + 1) lv ((0, .num i) :: st) g
  | .bipush i => xjgo (pc + 2) lv ((0, .num (Int8.ofInt i).toInt32.toInt) :: st) g
  | .sipush i => xjgo (pc + 3) lv ((0, .num (Int16.ofInt i).toInt32.toInt) :: st) g
  | .lconst i => xjgo (pc + 1) lv ((1, .num (Int64.ofNat (i : Nat)).toInt) :: st) g
  | .ldc i => (match Kc i with | some v => xjgo (pc + 2) lv ((0, .num v) :: st) g | none => none)
  | .ldc_w i => (match Kc i with | some v => xjgo (pc + 3) lv ((0, .num v) :: st) g | none => none)
  | .ldc2_w i => (match Kl i with | some v => xjgo (pc + 3) lv ((1, .num v) :: st) g | none => none)
  | .iload_n k => xjload 0 (pc + 1) k lv st g
  | .iload k => xjload 0 (pc + 2) k lv st g
  | .lload_n k => xjload 1 (pc + 1) k lv st g
  | .lload k => xjload 1 (pc + 2) k lv st g
  | .aload_n k => xjload 2 (pc + 1) k lv st g
  | .aload k => xjload 2 (pc + 2) k lv st g
  | .istore_n k => xjstore nL 0 (pc + 1) k lv st g
  | .istore k => xjstore nL 0 (pc + 2) k lv st g
  | .lstore_n k => xjstore nL 1 (pc + 1) k lv st g
  | .lstore k => xjstore nL 1 (pc + 2) k lv st g
  | .astore_n k => xjstore nL 2 (pc + 1) k lv st g
  | .astore k => xjstore nL 2 (pc + 2) k lv st g
  | .iinc i k => xjinc nL pc i k lv st g
  | .iadd => xjI2 xjadd pc lv st g
  | .isub => xjI2 xjsub pc lv st g
  | .imul => xjI2 xjmul pc lv st g
  | .iand => xjI2 (xjbin 1) pc lv st g
  | .ior => xjI2 (xjbin 2) pc lv st g
  | .ixor => xjI2 (xjbin 3) pc lv st g
  | .ishl => xjI2 (xjbin 4) pc lv st g
  | .ishr => xjI2 (xjbin 5) pc lv st g
  | .iushr => xjI2 (xjbin 6) pc lv st g
  | .idiv => xjdiv 7 pc lv st g
  | .irem => xjdiv 8 pc lv st g
  | .ineg => xjI1 xjneg pc lv st g
  | .ladd => xjL2 (fun x y => x + y) pc lv st g
  | .lsub => xjL2 (fun x y => x - y) pc lv st g
  | .lmul => xjL2 (fun x y => x * y) pc lv st g
  | .land => xjL2 (fun x y => x &&& y) pc lv st g
  | .lor => xjL2 (fun x y => x ||| y) pc lv st g
  | .lxor => xjL2 (fun x y => x ^^^ y) pc lv st g
  | .lshl => xjLI (fun x y => x <<< (y.toInt64 &&& 63)) pc lv st g
  | .lshr => xjLI (fun x y => x >>> (y.toInt64 &&& 63)) pc lv st g
  | .lushr => xjLI (fun x y => (x.toUInt64 >>> (y.toInt64.toUInt64 &&& Int64.toUInt64 63)).toInt64) pc lv st g
  | .i2l => xji2l pc lv st g
  | .l2i => xjl2i pc lv st g
  | .lcmp => xjlcmp pc lv st g
  | .dup => xjdup pc lv st g
  | .dup2 => xjdup2 pc lv st g
  | .pop => xjpop pc lv st g
  | .ifCond cd off => xjif cd pc off lv st g
  | .if_icmp cd off => xjicm cd pc off lv st g
  | .if_acmp cd off => xjacmp cd pc off lv st g
  | .goto off => (match xjtgt pc off with | some n => xjgo n lv st g | none => none)
  | .tableswitch d lo hi offs => xjtsw pc d lo hi offs lv st g
  | .lookupswitch d ps => xjlsw pc d ps lv st g
  | .iaload => xjald 14 pc lv st g
  | .baload => xjald 16 pc lv st g
  | .laload => xjald 15 pc lv st g
  | .aaload => xjaald pc lv st g
  | .iastore => xjast 14 pc lv st g
  | .bastore => xjast 16 pc lv st g
  | .lastore => xjast 15 pc lv st g
  | .arraylength => xjalen pc lv st g
  | .getfield i => (match Fd i with | some x => xjgetf x pc lv st g | none => none)
  | .putfield i => (match Fd i with | some x => xjputf x ini pc lv st g | none => none)
  | _ => none

theorem xjdnw (r : Nat → Int32 × Int64) (k : Int) : (xjdn r (.num k)).1.toInt = xjw k := xjw_t k
theorem xjinc_s {i : Nat} {k : Int} (hexec : p.tables.exec = Jvm.exec) (hb : c.code = cc) (hdg : decode cc pc = .ok (.iinc i k, 3)) (hk : xjnext p l e R s m args below meth c Q cl D A tc ad r nL cells slots L) (hF : xjH r g.1) (h : xjinc nL pc i k lv st g = some L) : xjhold p l e R s m args below meth c Q cl D A tc ad r nL cells slots (pc, lv, st) g := by
  unfold xjinc at h
  split at h
  · rename_i x hg
    cases hq : Nat.blt i nL with
    | false => rw [hq] at h; cases h
    | true =>
      rw [hq] at h
      have hgo := xjgo_s hk hF h
      intro H locs ls hP hD hS hm hn hl
      obtain ⟨n9, h9⟩ := List.getElem?_of_mem (show (i, xjcv r ad (0, x)) ∈ xjlv r ad lv from List.mem_map.mpr ⟨(i, (0, x)), xjlget_m hg, rfl⟩)
      refine lv_iinc (k := n9) (x := (xjdn r x).1) (v := (xjdn r (xjadd x (.num k))).1) hexec hb hdg hl h9 (by rw [xjadd_s]; rfl) (Nat.ble_eq.mp hq) (xjst1_s r ad lv i (0, xjadd x (.num k))) (fun ls' hl' => ?_)
      exact hgo H locs ls' hP hD hS hm hn hl'
  · cases h
theorem xjdiv_s {k : Nat} {ins : Instr} {f2 : Int32 → Int32 → Int32} (hf2 : xjb k = f2)
    (hrow : ∀ (H : Heap) (locs : List Loc) (ls : Array Slot) (rest : List Value) (x y : Int32), ¬ y = 0 → W p l e R s m args below meth c H locs cells slots Q (F0 m (pc + 1) ls (.int (f2 x y) :: rest)) → W p l e R s m args below meth c H locs cells slots Q (F0 m pc ls (.int y :: .int x :: rest)))
    (hk : xjnext p l e R s m args below meth c Q cl D A tc ad r nL cells slots L) (hF : xjH r g.1) (h : xjdiv k pc lv st g = some L) : xjhold p l e R s m args below meth c Q cl D A tc ad r nL cells slots (pc, lv, st) g := by
  unfold xjdiv at h
  split at h
  · rename_i b a t
    cases hq : decide (xjw b = 0) with
    | true => rw [hq] at h; cases h
    | false =>
      rw [hq] at h
      have hgo := xjgo_s hk hF h
      intro H locs ls hP hD hS hm hn hl
      have h1 := hgo H locs ls hP hD hS hm hn hl
      refine hrow H locs ls _ _ _ (fun hz => of_decide_eq_false hq ?_) ?_
      · rw [← xjw_t, show Int32.ofInt b = 0 from hz]; rfl
      · have e1 := xjbin_s r k a (.num b)
        rw [hf2] at e1
        rw [show (xjdn r (.num b)).1 = Int32.ofInt b from rfl] at e1
        show W p l e R s m args below meth c H locs cells slots Q (F0 m (pc + 1) ls (.int (f2 (xjdn r a).1 (Int32.ofInt b)) :: t.map (xjcv r ad)))
        rw [← e1]
        exact h1
  · cases h
theorem xji2l_s (hexec : p.tables.exec = Jvm.exec) (hb : c.code = cc) (hdg : decode cc pc = .ok (.i2l, 1)) (hk : xjnext p l e R s m args below meth c Q cl D A tc ad r nL cells slots L) (hF : xjH r g.1) (h : xji2l pc lv st g = some L) : xjhold p l e R s m args below meth c Q cl D A tc ad r nL cells slots (pc, lv, st) g := by
  unfold xji2l at h
  split at h
  · have hgo := xjgo_s hk hF h
    intro H locs ls hP hD hS hm hn hl
    exact lv_i2l hexec hb hdg (Int64.ofInt_toInt _).symm (hgo H locs ls hP hD hS hm hn hl)
  · rename_i x t _
    have hgo := xjgo_s hk hF h
    intro H locs ls hP hD hS hm hn hl
    refine lv_i2l hexec hb hdg ?_ (hgo H locs ls hP hD hS hm hn hl)
    show (xjdn r x).1.toInt64 = (- - (xjdn r x).1).toInt64
    rw [Int32.neg_neg]
  · cases h
theorem xjl2i_s (hexec : p.tables.exec = Jvm.exec) (hb : c.code = cc) (hdg : decode cc pc = .ok (.l2i, 1)) (hk : xjnext p l e R s m args below meth c Q cl D A tc ad r nL cells slots L) (hF : xjH r g.1) (h : xjl2i pc lv st g = some L) : xjhold p l e R s m args below meth c Q cl D A tc ad r nL cells slots (pc, lv, st) g := by
  unfold xjl2i at h
  split at h
  · have hgo := xjgo_s hk hF h
    intro H locs ls hP hD hS hm hn hl
    exact lv_l2i hexec hb hdg (Int32.ofInt_toInt _).symm (hgo H locs ls hP hD hS hm hn hl)
  · rename_i x t _
    have hgo := xjgo_s hk hF h
    intro H locs ls hP hD hS hm hn hl
    refine lv_l2i hexec hb hdg ?_ (hgo H locs ls hP hD hS hm hn hl)
    show (xjdn r x).2.toInt32 = (- - (xjdn r x).2).toInt32
    rw [Int64.neg_neg]
  · cases h
theorem xjlcmp_s (hexec : p.tables.exec = Jvm.exec) (hb : c.code = cc) (hdg : decode cc pc = .ok (.lcmp, 1)) (hk : xjnext p l e R s m args below meth c Q cl D A tc ad r nL cells slots L) (hF : xjH r g.1) (h : xjlcmp pc lv st g = some L) : xjhold p l e R s m args below meth c Q cl D A tc ad r nL cells slots (pc, lv, st) g := by
  unfold xjlcmp at h
  split at h
  · rename_i b a t
    have hgo := xjgo_s hk hF h
    intro H locs ls hP hD hS hm hn hl
    have h1 := hgo H locs ls hP hD hS hm hn hl
    have e1 : xjcv r ad (0, Lean.Grind.CommRing.Expr.num (lg_cmp (Int64.ofInt a) (Int64.ofInt b)).toInt) = .int (lg_cmp (Int64.ofInt a) (Int64.ofInt b)) := congrArg Value.int (Int32.ofInt_toInt _)
    rw [List.map_cons, e1] at h1
    exact W.lcmp hexec hb hdg h1
  · cases h
theorem xjdup_s (hexec : p.tables.exec = Jvm.exec) (hb : c.code = cc) (hdg : decode cc pc = .ok (.dup, 1)) (hk : xjnext p l e R s m args below meth c Q cl D A tc ad r nL cells slots L) (hF : xjH r g.1) (h : xjdup pc lv st g = some L) : xjhold p l e R s m args below meth c Q cl D A tc ad r nL cells slots (pc, lv, st) g := by
  unfold xjdup at h
  split at h
  · rename_i v t
    cases hq : Nat.beq v.1 1 with
    | true => rw [hq] at h; cases h
    | false =>
      rw [hq] at h
      have hgo := xjgo_s hk hF h
      intro H locs ls hP hD hS hm hn hl
      exact lv_dup hexec hb hdg (xjcat1 hq) (hgo H locs ls hP hD hS hm hn hl)
  · cases h
theorem xjpop_s (hexec : p.tables.exec = Jvm.exec) (hb : c.code = cc) (hdg : decode cc pc = .ok (.pop, 1)) (hk : xjnext p l e R s m args below meth c Q cl D A tc ad r nL cells slots L) (hF : xjH r g.1) (h : xjpop pc lv st g = some L) : xjhold p l e R s m args below meth c Q cl D A tc ad r nL cells slots (pc, lv, st) g := by
  unfold xjpop at h
  split at h
  · rename_i v t
    cases hq : Nat.beq v.1 1 with
    | true => rw [hq] at h; cases h
    | false =>
      rw [hq] at h
      have hgo := xjgo_s hk hF h
      intro H locs ls hP hD hS hm hn hl
      exact lv_pop hexec hb hdg (xjcat1 hq) (hgo H locs ls hP hD hS hm hn hl)
  · cases h
theorem xjdup2_s (hexec : p.tables.exec = Jvm.exec) (hb : c.code = cc) (hdg : decode cc pc = .ok (.dup2, 1)) (hk : xjnext p l e R s m args below meth c Q cl D A tc ad r nL cells slots L) (hF : xjH r g.1) (h : xjdup2 pc lv st g = some L) : xjhold p l e R s m args below meth c Q cl D A tc ad r nL cells slots (pc, lv, st) g := by
  unfold xjdup2 at h
  split at h
  · rename_i v w t
    cases hq : Nat.beq v.1 1 || Nat.beq w.1 1 with
    | true => rw [hq] at h; cases h
    | false =>
      rw [hq] at h
      rw [Bool.or_eq_false_iff] at hq
      have hgo := xjgo_s hk hF h
      intro H locs ls hP hD hS hm hn hl
      exact lv_dup2_11 hexec hb hdg (xjcat1 hq.1) (xjcat1 hq.2) (hgo H locs ls hP hD hS hm hn hl)
  · cases h
theorem xjtsw_s {d lo hi : Int} {offs : Array Int} (hexec : p.tables.exec = Jvm.exec) (hb : c.code = cc) (hdg : decode cc pc = .ok (.tableswitch d lo hi offs, len)) (hk : xjnext p l e R s m args below meth c Q cl D A tc ad r nL cells slots L) (hF : xjH r g.1) (h : xjtsw pc d lo hi offs lv st g = some L) : xjhold p l e R s m args below meth c Q cl D A tc ad r nL cells slots (pc, lv, st) g := by
  unfold xjtsw at h
  split at h
  · rename_i k t
    cases hq : xjle (xjw k) (lo - 1) || xjle (hi + 1) (xjw k) with
    | true =>
      rw [hq] at h
      rw [Bool.or_eq_true, xjle_iff, xjle_iff] at hq
      change (match xjtgt pc d with | some n => xjgo n lv t g | none => none) = some L at h
      split at h
      · rename_i n hn9
        have hgo := xjgo_s hk hF h
        intro H locs ls hP hD hS hm hn hl
        exact lv_tableOut hexec hb hdg (by rw [xjdnw]; omega) (xjtgt_s hn9) (hgo H locs ls hP hD hS hm hn hl)
      · cases h
    | false =>
      rw [hq] at h
      have hq2 : ¬ (xjw k ≤ lo - 1) ∧ ¬ (hi + 1 ≤ xjw k) := by
        rw [Bool.or_eq_false_iff] at hq
        exact ⟨fun z => by rw [← xjle_iff] at z; rw [z] at hq; exact absurd hq.1 (by simp), fun z => by rw [← xjle_iff] at z; rw [z] at hq; exact absurd hq.2 (by simp)⟩
      change (match offs[(xjw k - lo).toNat]? with | some off => (match xjtgt pc off with | some n => xjgo n lv t g | none => none) | none => none) = some L at h
      split at h
      · rename_i off hoff
        split at h
        · rename_i n hn9
          have hgo := xjgo_s hk hF h
          intro H locs ls hP hD hS hm hn hl
          exact lv_tableIn hexec hb hdg (by rw [xjdnw]; omega) (by rw [xjdnw]; omega) (by rw [xjdnw]; exact hoff) (xjtgt_s hn9) (hgo H locs ls hP hD hS hm hn hl)
        · cases h
      · cases h
  · rename_i x t _
    exact xjsplit_s (mk := fun y => (0, y) :: t) (fun y z hyz => by simp only [List.map_cons, xjcv, hyz]) hk hF h
  · cases h
theorem xjlsw_s {d : Int} {ps : Array (Int × Int)} (hexec : p.tables.exec = Jvm.exec) (hb : c.code = cc) (hdg : decode cc pc = .ok (.lookupswitch d ps, len)) (hk : xjnext p l e R s m args below meth c Q cl D A tc ad r nL cells slots L) (hF : xjH r g.1) (h : xjlsw pc d ps lv st g = some L) : xjhold p l e R s m args below meth c Q cl D A tc ad r nL cells slots (pc, lv, st) g := by
  unfold xjlsw at h
  split at h
  · rename_i k t
    cases hq : (ps.toList.zip (ps.toList.drop 1)).all (fun (a, next) => a.1 < next.1) with
    | false => rw [hq] at h; cases h
    | true =>
      rw [hq] at h
      change (match xjtgt pc (Op.lookupswitch.offset ps.toList d (xjw k)) with | some n => xjgo n lv t g | none => none) = some L at h
      split at h
      · rename_i n hn9
        have hgo := xjgo_s hk hF h
        intro H locs ls hP hD hS hm hn hl
        exact lv_lookup hexec hb hdg hq (by rw [xjdnw]) (xjtgt_s hn9) (hgo H locs ls hP hD hS hm hn hl)
      · cases h
  · rename_i x t _
    exact xjsplit_s (mk := fun y => (0, y) :: t) (fun y z hyz => by simp only [List.map_cons, xjcv, hyz]) hk hF h
  · cases h
theorem xjalen_s (hexec : p.tables.exec = Jvm.exec) (hb : c.code = cc) (hK : va_K D cl (xjtys tc) s) (hdg : decode cc pc = .ok (.arraylength, 1)) (hk : xjnext p l e R s m args below meth c Q cl D A tc ad r nL cells slots L) (hF : xjH r g.1) (h : xjalen pc lv st g = some L) : xjhold p l e R s m args below meth c Q cl D A tc ad r nL cells slots (pc, lv, st) g := by
  unfold xjalen at h
  split at h
  · rename_i a t
    split at h
    rename_i k n tr hc
    cases hq : Nat.blt a.toNat g.2.2.1 && Nat.ble 14 k && Nat.ble k 20 && Nat.ble n 32768 with
    | false => rw [hq] at h; cases h
    | true =>
      rw [hq] at h
      rw [Bool.and_eq_true, Bool.and_eq_true, Bool.and_eq_true] at hq
      obtain ⟨⟨⟨q1, q2⟩, q3⟩, q4⟩ := hq
      have ha := Nat.ble_eq.mp q1
      have hk1 := Nat.ble_eq.mp q2
      have hk2 := Nat.ble_eq.mp q3
      have hgo := xjgo_s hk hF h
      intro H locs ls hP hD hS hm hn hl
      have he := xjws_arr (r := r) (ad := ad) (tc := tc) hc ha hk1
      have ht : ∃ ty, (xjtys tc)[k - 14]? = some (tc k, ty) := by
        have : k = 14 ∨ k = 15 ∨ k = 16 ∨ k = 17 ∨ k = 18 ∨ k = 19 ∨ k = 20 := by omega
        rcases this with z | z | z | z | z | z | z <;> (subst z; exact ⟨_, rfl⟩)
      obtain ⟨ty, ht⟩ := ht
      refine va_alen hexec hb hK hP a.toNat (k - 14) he ht (v := Int32.ofInt (n : Int)) ?_ hdg (hgo H locs ls hP hD hS hm hn hl)
      exact (Int32.ofInt_eq_ofNat).symm
  · cases h
theorem xjaald_s (hexec : p.tables.exec = Jvm.exec) (hb : c.code = cc) (hK : va_K D cl (xjtys tc) s) (hdg : decode cc pc = .ok (.aaload, 1)) (hk : xjnext p l e R s m args below meth c Q cl D A tc ad r nL cells slots L) (hF : xjH r g.1) (h : xjaald pc lv st g = some L) : xjhold p l e R s m args below meth c Q cl D A tc ad r nL cells slots (pc, lv, st) g := by
  unfold xjaald at h
  split at h
  · rename_i k9 x9 a t
    generalize hkind : (xjget 10 g.2.1 a.toNat).1 = kind at h
    cases hq : Nat.ble 17 kind && Nat.ble kind 20 with
    | false => rw [hq] at h; cases h
    | true =>
      rw [hq] at h
      rw [Bool.and_eq_true] at hq
      have hk1 := Nat.ble_eq.mp hq.1
      have hk2 := Nat.ble_eq.mp hq.2
      change xjald kind pc lv ((k9, x9) :: (2, .num a) :: t) g = some L at h
      unfold xjald at h
      split at h
      · rename_i i a9 t9 hst
        cases hst
        split at h
        · rename_i v hv
          rw [show Nat.beq kind 14 = false from xjbne (by omega), show Nat.beq kind 16 = false from xjbne (by omega), show Nat.beq kind 15 = false from xjbne (by omega)] at h
          change (bif Nat.ble 2 v.1 then xjgo (pc + 1) lv (v :: t) g else none) = some L at h
          cases hv2 : Nat.ble 2 v.1 with
          | false => rw [hv2] at h; cases h
          | true =>
            rw [hv2] at h
            obtain ⟨n, tr, hc, hkk, hn3, j, hj, hij, hvj⟩ := xjelem_s hv
            have hgo := xjgo_s hk hF h
            intro H locs ls hP hD hS hm hn hl
            have h1 := hgo H locs ls hP hD hS hm hn hl
            have ha := xjws_arr (r := r) (ad := ad) (tc := tc) hc hkk (by omega)
            rw [xjrow_r hk1] at ha
            have ht : ∃ ty, (xjtys tc)[kind - 14]? = some (tc kind, ty) ∧ ((∃ C, ty = .object C) ∨ ∃ u, ty = .array u) := by
              have : kind = 17 ∨ kind = 18 ∨ kind = 19 ∨ kind = 20 := by omega
              rcases this with z | z | z | z <;> subst z
              · exact ⟨_, rfl, Or.inl ⟨_, rfl⟩⟩
              · exact ⟨_, rfl, Or.inl ⟨_, rfl⟩⟩
              · exact ⟨_, rfl, Or.inr ⟨_, rfl⟩⟩
              · exact ⟨_, rfl, Or.inr ⟨_, rfl⟩⟩
            obtain ⟨ty, ht, hty⟩ := ht
            show W p l e R s m args below meth c H locs _ _ Q (F0 m pc ls (Value.int (Int32.ofInt i) :: Value.ref (ad a.toNat) :: t.map (xjcv r ad)))
            rw [hij]
            have hrd : xjcv r ad v = va_rf (if j < 32768 then xjro ad (xjget 15 tr j) else none) := by
              rw [if_pos (by omega), ← hvj, xjro_s (Nat.ble_eq.mp hv2)]
            have hin := vp_in_nI hj (show n < 2 ^ 31 by omega)
            refine W.aald (v := xjcv r ad v) (ty := ty) hexec hb (hP a.toNat _ ha) ((hK.2 (kind - 14) _ ht).1 n (fun q => va_rf (if q < 32768 then xjro ad (xjget 15 tr q) else none))) (by rcases hty with ⟨C, rfl⟩ | ⟨u, rfl⟩ <;> rfl) (fun q => by cases q) (by show ¬ (nI j < 0 ∨ (arrV _ _ _).slots.size ≤ _); rw [arrV_size]; exact hin) (by show (arrV _ _ _).slots[_]? = _; rw [nI_clamp (by omega), arrV_read _ _ hj, hrd]) rfl rfl hdg h1
        · cases h
      · rename_i x a9 t9 _ hst
        cases hst
        exact xjsplit_s (mk := fun y => (0, y) :: (2, .num a) :: t) (fun y z hyz => by simp only [List.map_cons, xjcv, hyz]) hk hF h
      · cases h
  · cases h
theorem xjacmp_s {cnd : ClassFile.ACond} {off : Int} (hexec : p.tables.exec = Jvm.exec) (hb : c.code = cc) (hdg : decode cc pc = .ok (.if_acmp cnd off, 3)) (hk : xjnext p l e R s m args below meth c Q cl D A tc ad r nL cells slots L) (hF : xjH r g.1) (h : xjacmp cnd pc off lv st g = some L) : xjhold p l e R s m args below meth c Q cl D A tc ad r nL cells slots (pc, lv, st) g := by
  unfold xjacmp at h
  split at h
  · rename_i b a t
    cases hq : Nat.blt a.toNat g.2.2.1 && Nat.blt b.toNat g.2.2.1 with
    | false => rw [hq] at h; cases h
    | true =>
      rw [hq] at h
      rw [Bool.and_eq_true] at hq
      have ha := Nat.ble_eq.mp hq.1
      have hb2 := Nat.ble_eq.mp hq.2
      intro H locs ls hP hD hS hm hn hl
      have hinj : ad a.toNat = ad b.toNat → a.toNat = b.toNat := fun z => hD.1 _ _ _ _ (xjws_at ha) (xjws_at hb2) z
      cases cnd with
      | eq =>
        refine xjfork_s (lv := lv) (st := (2, .num b) :: (2, .num a) :: t) (P := (some (ad a.toNat) : Option Nat) = some (ad b.toNat)) ⟨_, List.mem_singleton.mpr rfl, hF, ?_⟩ hk (fun H locs cells slots ls tgt ht kt kf => lv_acmp_eq (rx := some (ad a.toNat)) (ry := some (ad b.toNat)) hexec hb hdg ht kt kf) h H locs ls hP hD hS hm hn hl
        show Nat.beq a.toNat b.toNat = true ↔ _
        exact ⟨fun z => by rw [Nat.eq_of_beq_eq_true z], fun z => by rw [hinj (Option.some.inj z)]; exact Nat.beq_refl _⟩
      | ne =>
        refine xjfork_s (lv := lv) (st := (2, .num b) :: (2, .num a) :: t) (P := ¬ (some (ad a.toNat) : Option Nat) = some (ad b.toNat)) ⟨_, List.mem_singleton.mpr rfl, hF, ?_⟩ hk (fun H locs cells slots ls tgt ht kt kf => lv_acmp_ne (rx := some (ad a.toNat)) (ry := some (ad b.toNat)) hexec hb hdg ht kt (fun z => kf (fun y => y z))) h H locs ls hP hD hS hm hn hl
        show (!(Nat.beq a.toNat b.toNat)) = true ↔ _
        cases hz : Nat.beq a.toNat b.toNat with
        | true => exact ⟨fun z => absurd z (by simp), fun z => absurd (by rw [Nat.eq_of_beq_eq_true hz]) z⟩
        | false => exact ⟨fun _ z => Nat.ne_of_beq_eq_false hz (hinj (Option.some.inj z)), fun _ => rfl⟩
  · cases h
end XJ8
