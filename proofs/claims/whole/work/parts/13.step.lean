section XJ4
noncomputable def xjlget : List (Nat × xjV) → Nat → Option xjV
  | [], _ => none
  | q :: l, i => bif Nat.beq q.1 i then some q.2 else xjlget l i
theorem xjlget_m : ∀ {l : List (Nat × xjV)} {i : Nat} {v : xjV}, xjlget l i = some v → (i, v) ∈ l := by
  intro l
  induction l with
  | nil => intro i v h; cases h
  | cons q l ih =>
    intro i v h
    unfold xjlget at h
    cases hb : Nat.beq q.1 i with
    | true =>
      rw [hb] at h
      have e := Nat.eq_of_beq_eq_true hb
      have e2 : q.2 = v := Option.some.inj h
      rw [← e, ← e2]
      exact List.mem_cons_self
    | false =>
      rw [hb] at h
      exact List.mem_cons_of_mem _ (ih h)
noncomputable def xjst1 (lv : List (Nat × xjV)) (i : Nat) (v : xjV) : List (Nat × xjV) := (i, v) :: lv.filter (fun q => !(Nat.beq q.1 i) && !(Nat.beq (q.1 + 1) i && Nat.beq q.2.1 1))
noncomputable def xjst2 (lv : List (Nat × xjV)) (i : Nat) (v : xjV) : List (Nat × xjV) := (i, v) :: lv.filter (fun q => !(Nat.beq q.1 i) && (!(Nat.beq q.1 (i + 1)) && !(Nat.beq (q.1 + 1) i && Nat.beq q.2.1 1)))
noncomputable def xjlv (r : Nat → Int32 × Int64) (ad : Nat → Nat) (lv : List (Nat × xjV)) : List (Nat × Value) := lv.map fun q => (q.1, xjcv r ad q.2)
theorem xjbeq (a b : Nat) : (a == b) = Nat.beq a b := by
  by_cases h : a = b
  · subst h; rw [Nat.beq_refl]; simp
  · rw [xjbne h]; simp [h]
theorem xjcat (r : Nat → Int32 × Int64) (ad : Nat → Nat) (v : xjV) : ((xjcv r ad v).category == 2) = Nat.beq v.1 1 := by
  obtain ⟨t, e⟩ := v
  match t with
  | 0 => rfl
  | 1 => rfl
  | 2 => cases e <;> rfl
  | t + 3 => rfl
theorem xjcat1 {r : Nat → Int32 × Int64} {ad : Nat → Nat} {v : xjV} (h : Nat.beq v.1 1 = false) : (xjcv r ad v).category = 1 := by
  have := xjcat r ad v
  rw [h] at this
  rcases lv_cat (xjcv r ad v) with e | e
  · exact e
  · rw [e] at this; cases this
theorem xjst1_s (r : Nat → Int32 × Int64) (ad : Nat → Nat) (lv : List (Nat × xjV)) (i : Nat) (v : xjV) : (i, xjcv r ad v) :: (xjlv r ad lv).filter (fun q => !(q.1 == i) && !(q.1 + 1 == i && q.2.category == 2)) = xjlv r ad (xjst1 lv i v) := by
  show _ = (i, xjcv r ad v) :: List.map _ (List.filter _ lv)
  congr 1
  unfold xjlv
  rw [List.filter_map]
  congr 1
  apply List.filter_congr
  intro q _
  show (!(q.1 == i) && !(q.1 + 1 == i && (xjcv r ad q.2).category == 2)) = _
  rw [xjcat]
  simp only [xjbeq]
theorem xjst2_s (r : Nat → Int32 × Int64) (ad : Nat → Nat) (lv : List (Nat × xjV)) (i : Nat) (v : xjV) : (i, xjcv r ad v) :: (xjlv r ad lv).filter (fun q => !(q.1 == i) && (!(q.1 == i + 1) && !(q.1 + 1 == i && q.2.category == 2))) = xjlv r ad (xjst2 lv i v) := by
  show _ = (i, xjcv r ad v) :: List.map _ (List.filter _ lv)
  congr 1
  unfold xjlv
  rw [List.filter_map]
  congr 1
  apply List.filter_congr
  intro q _
  show (!(q.1 == i) && (!(q.1 == i + 1) && !(q.1 + 1 == i && (xjcv r ad q.2).category == 2))) = _
  rw [xjcat]
  simp only [xjbeq]
theorem xjlv_m {r : Nat → Int32 × Int64} {ad : Nat → Nat} {lv : List (Nat × xjV)} {i : Nat} {v : xjV} (h : xjlget lv i = some v) {ls : Array Slot} {nL : Nat} (hl : lv_has ls nL (xjlv r ad lv)) : ls[i]? = some (.val (xjcv r ad v)) :=
  hl.2.2 (i, xjcv r ad v) (List.mem_map.mpr ⟨(i, v), xjlget_m h, rfl⟩)
abbrev xjR := Option (List (xjFr × xjG))
noncomputable def xjgo (pc : Nat) (lv : List (Nat × xjV)) (st : List xjV) (g : xjG) : xjR := some [((pc, lv, st), g)]
/-- one int of two -/
noncomputable def xjI2 (f : xjE → xjE → xjE) (pc : Nat) (lv : List (Nat × xjV)) (st : List xjV) (g : xjG) : xjR := match st with
  | (0, b) :: (0, a) :: t => xjgo (pc + 1) lv ((0, f a b) :: t) g
  | _ => none
noncomputable def xjI1 (f : xjE → xjE) (pc : Nat) (lv : List (Nat × xjV)) (st : List xjV) (g : xjG) : xjR := match st with
  | (0, a) :: t => xjgo (pc + 1) lv ((0, f a) :: t) g
  | _ => none
/-- a long of two that are known -/
noncomputable def xjL2 (f : Int64 → Int64 → Int64) (pc : Nat) (lv : List (Nat × xjV)) (st : List xjV) (g : xjG) : xjR := match st with
  | (1, .num b) :: (1, .num a) :: t => xjgo (pc + 1) lv ((1, .num (f (Int64.ofInt a) (Int64.ofInt b)).toInt) :: t) g
  | _ => none
/-- a long of a long and an int that are known -/
noncomputable def xjLI (f : Int64 → Int32 → Int64) (pc : Nat) (lv : List (Nat × xjV)) (st : List xjV) (g : xjG) : xjR := match st with
  | (0, .num b) :: (1, .num a) :: t => xjgo (pc + 1) lv ((1, .num (f (Int64.ofInt a) (Int32.ofInt b)).toInt) :: t) g
  | _ => none
noncomputable def xjload (k : Nat) (pc : Nat) (i : Nat) (lv : List (Nat × xjV)) (st : List xjV) (g : xjG) : xjR := match xjlget lv i with
  | some (0, e) => bif Nat.beq k 0 then xjgo pc lv ((0, xjnorm g.1 e) :: st) g else none
  | some (1, e) => bif Nat.beq k 1 then xjgo pc lv ((1, e) :: st) g else none
  | some (2, .num a) => bif Nat.beq k 2 then xjgo pc lv ((2, .num a) :: st) g else none
  | _ => none
noncomputable def xjstore (nL : Nat) (k : Nat) (pc : Nat) (i : Nat) (lv : List (Nat × xjV)) (st : List xjV) (g : xjG) : xjR := match st with
  | (0, e) :: t => bif Nat.beq k 0 && Nat.blt i nL then xjgo pc (xjst1 lv i (0, e)) t g else none
  | (1, e) :: t => bif Nat.beq k 1 && Nat.blt (i + 1) nL then xjgo pc (xjst2 lv i (1, e)) t g else none
  | (2, .num a) :: t => bif Nat.beq k 2 && Nat.blt i nL then xjgo pc (xjst1 lv i (2, .num a)) t g else none
  | _ => none
noncomputable def xjtgt (pc : Nat) (off : Int) : Option Nat := match (pc : Int) + off with
  | .ofNat n => some n
  | .negSucc _ => none
theorem xjtgt_s {pc n : Nat} {off : Int} (h : xjtgt pc off = some n) : (pc : Int) + off = (n : Int) := by
  unfold xjtgt at h
  split at h
  · rename_i k hk
    rw [hk]
    cases h
    rfl
  · cases h
noncomputable def xjfork (pc : Nat) (off : Int) (L : List (Bool × xjF)) (lv : List (Nat × xjV)) (st : List xjV) (g : xjG) : xjR := match xjtgt pc off with
  | some n => some (L.map fun q => ((bif q.1 then n else pc + 3, lv, st), (q.2, g.2)))
  | none => none
/-- a term is taken value by value -/
noncomputable def xjsplit (pc : Nat) (lv : List (Nat × xjV)) (e : xjE) (mk : xjE → List xjV) (g : xjG) : xjR :=
  match (xjiv g.1 e).2 - (xjiv g.1 e).1 with
  | .ofNat n => bif Nat.ble n 800 then some ((List.range (n + 1)).map fun (i : Nat) => ((pc, lv, mk (.num ((xjiv g.1 e).1 + (i : Int)))), ((e, (xjiv g.1 e).1 + (i : Int), (xjiv g.1 e).1 + (i : Int)) :: g.1, g.2))) else none
  | _ => none
/-- an element of an array -/
noncomputable def xjelem (k : Nat) (kind : Nat) (i : Int) (g : xjG) : Option xjV :=
  match xjget 10 g.2.1 k with
  | (c, n, t) => bif Nat.blt k g.2.2.1 && Nat.beq c kind && Nat.ble n 32768 then (match xjw i with
    | .ofNat j => bif Nat.blt j n then some (xjget 15 t j) else none
    | _ => none) else none
noncomputable def xjput (k : Nat) (kind : Nat) (i : Int) (v : xjV) (g : xjG) : Option xjG :=
  match xjget 10 g.2.1 k with
  | (c, n, t) => bif Nat.blt k g.2.2.1 && Nat.beq c kind && Nat.ble n 32768 then (match xjw i with
    | .ofNat j => bif Nat.blt j n then some (g.1, xjset 10 g.2.1 k (c, n, xjset 15 t j v), g.2.2) else none
    | _ => none) else none
end XJ4
