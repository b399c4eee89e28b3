section YC1
/-! THE CLEAN MACHINE: methods run over a heap of numbered cells; this part: its words -/
abbrev ycV := Nat × Int
abbrev ycC := Nat × Nat × (Nat → ycV)
/-- cells by number, how many, whether the next one's address is known -/
abbrev ycH := (Nat → ycC) × Nat × Bool
/-- pc, locals, stack -/
abbrev ycF := Nat × List (Nat × ycV) × List ycV
/-- how it ends (0 nothing, 1 a value, k + 2 the exception k), the value, cells and slots made on the way, the heap then -/
abbrev ycL := Nat × ycV × Nat × Nat × ycH
def y32 (v : Int) : Int := (Int32.ofInt v).toInt
def y64 (v : Int) : Int := (Int64.ofInt v).toInt
theorem y32_s (v : Int) : Int32.ofInt (y32 v) = Int32.ofInt v := Int32.ofInt_toInt _
theorem y64_s (v : Int) : Int64.ofInt (y64 v) = Int64.ofInt v := Int64.ofInt_toInt _
theorem y32_id {v : Int} (h1 : -2147483648 ≤ v) (h2 : v ≤ 2147483647) : y32 v = v := Int32.toInt_ofInt_of_le (by omega) (by omega)
theorem y32_rng (v : Int) : -2147483648 ≤ y32 v ∧ y32 v ≤ 2147483647 := by
  have h1 := Int32.le_toInt (Int32.ofInt v)
  have h2 := Int32.toInt_lt (Int32.ofInt v)
  unfold y32
  omega
theorem y32_32 (v : Int) : y32 (y32 v) = y32 v := y32_id (y32_rng v).1 (y32_rng v).2
/-- an operation of two ints by its number -/
def ycb (k : Nat) (x y : Int32) : Int32 := match k with
  | 1 => x &&& y
  | 2 => x ||| y
  | 3 => x ^^^ y
  | 4 => x <<< (y &&& 31)
  | 5 => x >>> (y &&& 31)
  | 6 => (x.toUInt32 >>> (y.toUInt32 &&& Int32.toUInt32 31)).toInt32
  | 7 => x / y
  | _ => x - x / y * y
/-- of two longs -/
def ycbl (k : Nat) (x y : Int64) : Int64 := match k with
  | 1 => x &&& y
  | 2 => x ||| y
  | 3 => x ^^^ y
  | 4 => x + y
  | 5 => x - y
  | 6 => x * y
  | 7 => x / y
  | _ => x - x / y * y
/-- of a long and an int -/
def ycsl (k : Nat) (x : Int64) (y : Int32) : Int64 := match k with
  | 1 => x <<< (y.toInt64 &&& 63)
  | 2 => x >>> (y.toInt64 &&& 63)
  | _ => (x.toUInt64 >>> (y.toInt64.toUInt64 &&& Int64.toUInt64 63)).toInt64
def ycI (k : Nat) (a b : Int) : Int := (ycb k (Int32.ofInt a) (Int32.ofInt b)).toInt
def ycJ (k : Nat) (a b : Int) : Int := (ycbl k (Int64.ofInt a) (Int64.ofInt b)).toInt
def ycJI (k : Nat) (a b : Int) : Int := (ycsl k (Int64.ofInt a) (Int32.ofInt b)).toInt
/-- what a word of the clean machine is in the machine: ints, longs, cells by number, arrays that were there before -/
def ycv (ad oa : Nat → Nat) (v : ycV) : Value := match v with
  | (0, k) => .int (Int32.ofInt k)
  | (1, k) => .long (Int64.ofInt k)
  | (2, k) => .ref (ad k.toNat)
  | (4, k) => .ref (oa k.toNat)
  | _ => .null
def ycro (ad : Nat → Nat) (v : ycV) : Option Nat := match v with
  | (2, k) => some (ad k.toNat)
  | _ => none
noncomputable def ycrow (ad : Nat → Nat) (kind : Nat) (t : Nat → ycV) : (Nat → Int32) ⊕ (Nat → Int64) ⊕ (Nat → UInt32) ⊕ (Nat → UInt64) ⊕ (Nat → Option Nat) :=
  bif Nat.beq kind 14 || Nat.beq kind 16 then .inl (fun j => Int32.ofInt (t j).2)
  else bif Nat.beq kind 15 then .inr (.inl (fun j => Int64.ofInt (t j).2))
  else .inr (.inr (.inr (.inr (fun j => ycro ad (t j)))))
noncomputable def ycte (ad oa : Nat → Nat) (tc : Nat → ClassId) (x : ycC) : va_E :=
  bif Nat.blt x.1 14 then .inr (x.1, (List.range x.2.1).map fun j => ycv ad oa (x.2.2 j)) else .inl (tc x.1, x.2.1, ycrow ad x.1 x.2.2)
noncomputable def ycws (ad oa : Nat → Nat) (tc : Nat → ClassId) (h : Nat → ycC) (n : Nat) : va_W := (List.range n).map fun k => (ad k, ycte ad oa tc (h k))
def ycup {α : Type} (h : Nat → α) (k : Nat) (x : α) : Nat → α := fun i => if i = k then x else h i
theorem ycup_eq {α : Type} (h : Nat → α) (k : Nat) (x : α) : ycup h k x k = x := if_pos rfl
theorem ycup_ne {α : Type} {h : Nat → α} {k i : Nat} {x : α} (e : i ≠ k) : ycup h k x i = h i := if_neg e
theorem ycbne {a b : Nat} (h : a ≠ b) : Nat.beq a b = false := by
  cases hb : Nat.beq a b with
  | false => rfl
  | true => exact absurd (Nat.eq_of_beq_eq_true hb) h
theorem ycws_at {ad oa : Nat → Nat} {tc : Nat → ClassId} {h : Nat → ycC} {n k : Nat} (hk : k < n) : (ycws ad oa tc h n)[k]? = some (ad k, ycte ad oa tc (h k)) := by
  unfold ycws
  rw [List.getElem?_map, List.getElem?_range hk]
  rfl
theorem ycws_of {ad oa : Nat → Nat} {tc : Nat → ClassId} {h : Nat → ycC} {n i : Nat} {q : Nat × va_E} (hq : (ycws ad oa tc h n)[i]? = some q) : i < n ∧ q = (ad i, ycte ad oa tc (h i)) := by
  by_cases hi : i < n
  · rw [ycws_at hi] at hq
    exact ⟨hi, (Option.some.inj hq).symm⟩
  · rw [show (ycws ad oa tc h n)[i]? = none from List.getElem?_eq_none (by unfold ycws; rw [List.length_map, List.length_range]; omega)] at hq
    cases hq
theorem ycws_set {ad oa : Nat → Nat} {tc : Nat → ClassId} {h : Nat → ycC} {n k : Nat} {x : ycC} (hk : k < n) : (ycws ad oa tc h n).set k (ad k, ycte ad oa tc x) = ycws ad oa tc (ycup h k x) n := by
  apply List.ext_getElem?
  intro i
  unfold ycws
  rw [List.getElem?_set, List.getElem?_map, List.getElem?_map, List.length_map, List.length_range]
  by_cases hi : i < n
  · rw [List.getElem?_range hi]
    by_cases e : k = i
    · subst e
      rw [if_pos rfl, if_pos hk]
      show _ = some (ad k, ycte ad oa tc (ycup h k x k))
      rw [ycup_eq]
    · rw [if_neg e]
      show _ = some (ad i, ycte ad oa tc (ycup h k x i))
      rw [ycup_ne (fun z => e z.symm)]
      rfl
  · have e : ¬ k = i := by omega
    rw [if_neg e, List.getElem?_eq_none (by rw [List.length_range]; omega)]
    rfl
theorem ycws_push {ad oa : Nat → Nat} {tc : Nat → ClassId} {h : Nat → ycC} {n : Nat} {x : ycC} : ycws ad oa tc h n ++ [(ad n, ycte ad oa tc x)] = ycws ad oa tc (ycup h n x) (n + 1) := by
  unfold ycws
  rw [List.range_succ, List.map_append]
  congr 1
  · apply List.map_congr_left
    intro i hi
    have hi := List.mem_range.mp hi
    rw [ycup_ne (by omega)]
  · show _ = [(ad n, ycte ad oa tc (ycup h n x n))]
    rw [ycup_eq]
theorem ycmap_at {ad oa : Nat → Nat} {t : Nat → ycV} {n j : Nat} (hj : j < n) : ((List.range n).map fun j => ycv ad oa (t j))[j]? = some (ycv ad oa (t j)) := by
  rw [List.getElem?_map, List.getElem?_range hj]
  rfl
theorem ycmap_set {ad oa : Nat → Nat} {t : Nat → ycV} {n j : Nat} {v : ycV} : ((List.range n).map fun j => ycv ad oa (t j)).set j (ycv ad oa v) = (List.range n).map fun i => ycv ad oa (ycup t j v i) := by
  apply List.ext_getElem?
  intro i
  rw [List.getElem?_set, List.getElem?_map, List.getElem?_map, List.length_map, List.length_range]
  by_cases hi : i < n
  · rw [List.getElem?_range hi]
    show _ = some (ycv ad oa (ycup t j v i))
    by_cases e : j = i
    · subst e
      rw [if_pos rfl, if_pos hi, ycup_eq]
    · rw [if_neg e, ycup_ne (fun z => e z.symm)]
      rfl
  · rw [List.getElem?_eq_none (show (List.range n).length ≤ i by rw [List.length_range]; omega)]
    by_cases e : j = i
    · subst e
      rw [if_pos rfl, if_neg hi]
      rfl
    · rw [if_neg e]
      rfl
theorem ycblt {a b : Nat} (h : a < b) : Nat.blt a b = true := Nat.ble_eq.mpr h
theorem ycblf {a b : Nat} (h : b ≤ a) : Nat.blt a b = false := by
  cases hb : Nat.blt a b with
  | false => rfl
  | true => exact absurd (Nat.ble_eq.mp hb) (by omega)
theorem ycte_obj {ad oa : Nat → Nat} {tc : Nat → ClassId} {ci n : Nat} {t : Nat → ycV} (h : ci < 14) : ycte ad oa tc (ci, n, t) = .inr (ci, (List.range n).map fun j => ycv ad oa (t j)) := by
  unfold ycte
  show (bif Nat.blt ci 14 then _ else _) = _
  rw [ycblt h]
  rfl
theorem ycte_arr {ad oa : Nat → Nat} {tc : Nat → ClassId} {ci n : Nat} {t : Nat → ycV} (h : 14 ≤ ci) : ycte ad oa tc (ci, n, t) = .inl (tc ci, n, ycrow ad ci t) := by
  unfold ycte
  show (bif Nat.blt ci 14 then _ else _) = _
  rw [ycblf h]
  rfl
theorem ycrow_i {ad : Nat → Nat} {ci : Nat} {t : Nat → ycV} (h : ci = 14 ∨ ci = 16) : ycrow ad ci t = .inl (fun j => Int32.ofInt (t j).2) := by
  rcases h with h | h <;> (subst h; rfl)
theorem ycrow_l {ad : Nat → Nat} {t : Nat → ycV} : ycrow ad 15 t = .inr (.inl (fun j => Int64.ofInt (t j).2)) := rfl
theorem ycrow_r {ad : Nat → Nat} {ci : Nat} {t : Nat → ycV} (h : 17 ≤ ci) : ycrow ad ci t = .inr (.inr (.inr (.inr (fun j => ycro ad (t j))))) := by
  unfold ycrow
  rw [show Nat.beq ci 14 = false from ycbne (by omega), show Nat.beq ci 16 = false from ycbne (by omega), show Nat.beq ci 15 = false from ycbne (by omega)]
  rfl
theorem ycro_s {ad oa : Nat → Nat} {v : ycV} (h : v.1 = 2 ∨ v.1 = 3) : va_rf (ycro ad v) = ycv ad oa v := by
  obtain ⟨t, e⟩ := v
  rcases h with h | h <;> (cases h; rfl)
/-! locals -/
def yclget : List (Nat × ycV) → Nat → Option ycV
  | [], _ => none
  | q :: l, i => bif Nat.beq q.1 i then some q.2 else yclget l i
theorem yclget_m : ∀ {l : List (Nat × ycV)} {i : Nat} {v : ycV}, yclget l i = some v → (i, v) ∈ l := by
  intro l
  induction l with
  | nil => intro i v h; cases h
  | cons q l ih =>
    intro i v h
    unfold yclget at h
    cases hb : Nat.beq q.1 i with
    | true =>
      rw [hb] at h
      have e := Nat.eq_of_beq_eq_true hb
      have e2 : q.2 = v := Option.some.inj h
      rw [← e, ← e2]
      exact List.mem_cons_self
    | false =>
      rw [hb] at h
      exact List.mem_cons_of_mem _ (ih h)
def ycst1 (lv : List (Nat × ycV)) (i : Nat) (v : ycV) : List (Nat × ycV) := (i, v) :: lv.filter (fun q => !(Nat.beq q.1 i) && !(Nat.beq (q.1 + 1) i && Nat.beq q.2.1 1))
def ycst2 (lv : List (Nat × ycV)) (i : Nat) (v : ycV) : List (Nat × ycV) := (i, v) :: lv.filter (fun q => !(Nat.beq q.1 i) && (!(Nat.beq q.1 (i + 1)) && !(Nat.beq (q.1 + 1) i && Nat.beq q.2.1 1)))
def ycdrop (lv : List (Nat × ycV)) (i : Nat) : List (Nat × ycV) := lv.filter (fun q => !(Nat.beq q.1 i) && !(Nat.beq (q.1 + 1) i && Nat.beq q.2.1 1))
def yclv (ad oa : Nat → Nat) (lv : List (Nat × ycV)) : List (Nat × Value) := lv.map fun q => (q.1, ycv ad oa q.2)
theorem ycbeq (a b : Nat) : (a == b) = Nat.beq a b := by
  by_cases h : a = b
  · subst h; rw [Nat.beq_refl]; simp
  · rw [ycbne h]; simp [h]
theorem yccat (ad oa : Nat → Nat) (v : ycV) : ((ycv ad oa v).category == 2) = Nat.beq v.1 1 := by
  obtain ⟨t, e⟩ := v
  match t with
  | 0 => rfl
  | 1 => rfl
  | 2 => rfl
  | 3 => rfl
  | 4 => rfl
  | t + 5 => rfl
theorem yccat1 {ad oa : Nat → Nat} {v : ycV} (h : Nat.beq v.1 1 = false) : (ycv ad oa v).category = 1 := by
  have := yccat ad oa v
  rw [h] at this
  rcases lv_cat (ycv ad oa v) with e | e
  · exact e
  · rw [e] at this; cases this
theorem ycst1_s (ad oa : Nat → Nat) (lv : List (Nat × ycV)) (i : Nat) (v : ycV) : (i, ycv ad oa v) :: (yclv ad oa lv).filter (fun q => !(q.1 == i) && !(q.1 + 1 == i && q.2.category == 2)) = yclv ad oa (ycst1 lv i v) := by
  show _ = (i, ycv ad oa v) :: List.map _ (List.filter _ lv)
  congr 1
  unfold yclv
  rw [List.filter_map]
  congr 1
  apply List.filter_congr
  intro q _
  show (!(q.1 == i) && !(q.1 + 1 == i && (ycv ad oa q.2).category == 2)) = _
  rw [yccat]
  simp only [ycbeq]
theorem ycst2_s (ad oa : Nat → Nat) (lv : List (Nat × ycV)) (i : Nat) (v : ycV) : (i, ycv ad oa v) :: (yclv ad oa lv).filter (fun q => !(q.1 == i) && (!(q.1 == i + 1) && !(q.1 + 1 == i && q.2.category == 2))) = yclv ad oa (ycst2 lv i v) := by
  show _ = (i, ycv ad oa v) :: List.map _ (List.filter _ lv)
  congr 1
  unfold yclv
  rw [List.filter_map]
  congr 1
  apply List.filter_congr
  intro q _
  show (!(q.1 == i) && (!(q.1 == i + 1) && !(q.1 + 1 == i && (ycv ad oa q.2).category == 2))) = _
  rw [yccat]
  simp only [ycbeq]
theorem yclv_m {ad oa : Nat → Nat} {lv : List (Nat × ycV)} {i : Nat} {v : ycV} (h : yclget lv i = some v) {ls : Array Slot} {nL : Nat} (hl : lv_has ls nL (yclv ad oa lv)) : ls[i]? = some (.val (ycv ad oa v)) :=
  hl.2.2 (i, ycv ad oa v) (List.mem_map.mpr ⟨(i, v), yclget_m h, rfl⟩)
theorem yclv_sub {ad oa : Nat → Nat} {lv lv2 : List (Nat × ycV)} {ls : Array Slot} {nL : Nat} (hl : lv_has ls nL (yclv ad oa lv)) (h : ∀ q ∈ lv2, q ∈ lv) : lv_has ls nL (yclv ad oa lv2) :=
  ⟨hl.1, hl.2.1, fun q hq => by
    obtain ⟨x, hx, rfl⟩ := List.mem_map.mp hq
    exact hl.2.2 _ (List.mem_map.mpr ⟨x, h x hx, rfl⟩)⟩
def yctgt (pc : Nat) (off : Int) : Option Nat := match (pc : Int) + off with
  | .ofNat n => some n
  | .negSucc _ => none
theorem yctgt_s {pc n : Nat} {off : Int} (h : yctgt pc off = some n) : (pc : Int) + off = (n : Int) := by
  unfold yctgt at h
  split at h
  · rename_i k hk
    rw [hk]
    cases h
    rfl
  · cases h
def yccd (c : ClassFile.Cond) (a b : Int) : Bool := match c with
  | .eq => decide (a = b)
  | .ne => decide (a ≠ b)
  | .lt => decide (a < b)
  | .ge => decide (b ≤ a)
  | .gt => decide (b < a)
  | .le => decide (a ≤ b)
end YC1
