section XJ3
abbrev xjC := Nat × Nat × xjT xjV
abbrev xjHp := xjT xjC
/-- facts, heap, how many cells, whether the next address is known -/
abbrev xjG := xjF × xjHp × Nat × Bool
/-- pc, locals, stack -/
abbrev xjFr := Nat × List (Nat × xjV) × List xjV
def xjcv (r : Nat → Int32 × Int64) (ad : Nat → Nat) (v : xjV) : Value := match v with
  | (0, e) => .int (xjdn r e).1
  | (1, e) => .long (xjdn r e).2
  | (2, .num k) => .ref (ad k.toNat)
  | _ => .null
def xjro (ad : Nat → Nat) (v : xjV) : Option Nat := match v with
  | (2, .num k) => some (ad k.toNat)
  | _ => none
noncomputable def xjrow (r : Nat → Int32 × Int64) (ad : Nat → Nat) (kind : Nat) (t : xjT xjV) : (Nat → Int32) ⊕ (Nat → Int64) ⊕ (Nat → UInt32) ⊕ (Nat → UInt64) ⊕ (Nat → Option Nat) :=
  bif Nat.beq kind 14 || Nat.beq kind 16 then .inl (fun j => if j < 32768 then (xjdn r (xjget 15 t j).2).1 else 0)
  else bif Nat.beq kind 15 then .inr (.inl (fun j => if j < 32768 then (xjdn r (xjget 15 t j).2).2 else 0))
  else .inr (.inr (.inr (.inr (fun j => if j < 32768 then xjro ad (xjget 15 t j) else none))))
noncomputable def xjte (r : Nat → Int32 × Int64) (ad : Nat → Nat) (tc : Nat → ClassId) (x : xjC) : va_E :=
  bif Nat.blt x.1 14 then .inr (x.1, (List.range x.2.1).map fun j => xjcv r ad (xjget 15 x.2.2 j)) else .inl (tc x.1, x.2.1, xjrow r ad x.1 x.2.2)
noncomputable def xjws (r : Nat → Int32 × Int64) (ad : Nat → Nat) (tc : Nat → ClassId) (h : xjHp) (n : Nat) : va_W := (List.range n).map fun k => (ad k, xjte r ad tc (xjget 10 h k))
theorem xjbne {a b : Nat} (h : a ≠ b) : Nat.beq a b = false := by
  cases hb : Nat.beq a b with
  | false => rfl
  | true => exact absurd (Nat.eq_of_beq_eq_true hb) h
theorem xjws_at {r : Nat → Int32 × Int64} {ad : Nat → Nat} {tc : Nat → ClassId} {h : xjHp} {n k : Nat} (hk : k < n) : (xjws r ad tc h n)[k]? = some (ad k, xjte r ad tc (xjget 10 h k)) := by
  unfold xjws
  rw [List.getElem?_map, List.getElem?_range hk]
  rfl
theorem xjws_set {r : Nat → Int32 × Int64} {ad : Nat → Nat} {tc : Nat → ClassId} {h : xjHp} {n k : Nat} {x : xjC} (hk : k < n) (hn : n ≤ 1024) : (xjws r ad tc h n).set k (ad k, xjte r ad tc x) = xjws r ad tc (xjset 10 h k x) n := by
  apply List.ext_getElem?
  intro i
  unfold xjws
  rw [List.getElem?_set, List.getElem?_map, List.getElem?_map, List.length_map, List.length_range]
  by_cases hi : i < n
  · rw [List.getElem?_range hi]
    show _ = some (ad i, xjte r ad tc (xjget 10 (xjset 10 h k x) i))
    rw [xjget_set x 10 h k i (by omega) (by omega)]
    by_cases e : k = i
    · subst e
      rw [if_pos rfl, if_pos hk, if_pos rfl]
    · rw [if_neg e, if_neg (fun z => e z.symm)]
      rfl
  · have e : ¬ k = i := by omega
    rw [if_neg e, List.getElem?_eq_none (by rw [List.length_range]; omega)]
    rfl
theorem xjws_push {r : Nat → Int32 × Int64} {ad : Nat → Nat} {tc : Nat → ClassId} {h : xjHp} {n : Nat} {x : xjC} (hn : n < 1024) : xjws r ad tc h n ++ [(ad n, xjte r ad tc x)] = xjws r ad tc (xjset 10 h n x) (n + 1) := by
  unfold xjws
  rw [List.range_succ, List.map_append]
  congr 1
  · apply List.map_congr_left
    intro i hi
    have hi := List.mem_range.mp hi
    rw [xjget_set x 10 h n i (by omega) (by omega), if_neg (by omega)]
  · show _ = [(ad n, xjte r ad tc (xjget 10 (xjset 10 h n x) n))]
    rw [xjget_set x 10 h n n (by omega) (by omega), if_pos rfl]
theorem xjcv_map_at {r : Nat → Int32 × Int64} {ad : Nat → Nat} {t : xjT xjV} {n j : Nat} (hj : j < n) : ((List.range n).map fun j => xjcv r ad (xjget 15 t j))[j]? = some (xjcv r ad (xjget 15 t j)) := by
  rw [List.getElem?_map, List.getElem?_range hj]
  rfl
theorem xjcv_map_set {r : Nat → Int32 × Int64} {ad : Nat → Nat} {t : xjT xjV} {n j : Nat} {v : xjV} (hj : j < n) (hn : n ≤ 32768) : ((List.range n).map fun j => xjcv r ad (xjget 15 t j)).set j (xjcv r ad v) = (List.range n).map fun i => xjcv r ad (xjget 15 (xjset 15 t j v) i) := by
  apply List.ext_getElem?
  intro i
  rw [List.getElem?_set, List.getElem?_map, List.getElem?_map, List.length_map, List.length_range]
  by_cases hi : i < n
  · rw [List.getElem?_range hi]
    show _ = some (xjcv r ad (xjget 15 (xjset 15 t j v) i))
    rw [xjget_set v 15 t j i (by omega) (by omega)]
    by_cases e : j = i
    · subst e
      rw [if_pos rfl, if_pos hj, if_pos rfl]
    · rw [if_neg e, if_neg (fun z => e z.symm)]
      rfl
  · have e : ¬ j = i := by omega
    rw [if_neg e, List.getElem?_eq_none (by rw [List.length_range]; omega)]
    rfl
theorem xjte_obj {r : Nat → Int32 × Int64} {ad : Nat → Nat} {tc : Nat → ClassId} {ci n : Nat} {t : xjT xjV} (h : ci < 14) : xjte r ad tc (ci, n, t) = .inr (ci, (List.range n).map fun j => xjcv r ad (xjget 15 t j)) := by
  unfold xjte
  show (bif Nat.blt ci 14 then _ else _) = _
  rw [show Nat.blt ci 14 = true from Nat.ble_eq.mpr h]
  rfl
theorem xjte_arr {r : Nat → Int32 × Int64} {ad : Nat → Nat} {tc : Nat → ClassId} {ci n : Nat} {t : xjT xjV} (h : 14 ≤ ci) : xjte r ad tc (ci, n, t) = .inl (tc ci, n, xjrow r ad ci t) := by
  unfold xjte
  have : Nat.blt ci 14 = false := by
    cases hb : Nat.blt ci 14 with
    | false => rfl
    | true => exact absurd (Nat.ble_eq.mp hb) (by omega)
  show (bif Nat.blt ci 14 then _ else _) = _
  rw [this]
  rfl
theorem xjrow_i {r : Nat → Int32 × Int64} {ad : Nat → Nat} {ci : Nat} {t : xjT xjV} (h : ci = 14 ∨ ci = 16) : xjrow r ad ci t = .inl (fun j => if j < 32768 then (xjdn r (xjget 15 t j).2).1 else 0) := by
  rcases h with h | h <;> (subst h; rfl)
theorem xjrow_l {r : Nat → Int32 × Int64} {ad : Nat → Nat} {t : xjT xjV} : xjrow r ad 15 t = .inr (.inl (fun j => if j < 32768 then (xjdn r (xjget 15 t j).2).2 else 0)) := rfl
theorem xjrow_r {r : Nat → Int32 × Int64} {ad : Nat → Nat} {ci : Nat} {t : xjT xjV} (h : 17 ≤ ci) : xjrow r ad ci t = .inr (.inr (.inr (.inr (fun j => if j < 32768 then xjro ad (xjget 15 t j) else none)))) := by
  unfold xjrow
  rw [show Nat.beq ci 14 = false from xjbne (by omega), show Nat.beq ci 16 = false from xjbne (by omega), show Nat.beq ci 15 = false from xjbne (by omega)]
  rfl
theorem xjro_s {r : Nat → Int32 × Int64} {ad : Nat → Nat} {v : xjV} (h : 2 ≤ v.1) : va_rf (xjro ad v) = xjcv r ad v := by
  obtain ⟨t, e⟩ := v
  match t, h with
  | 2, _ => cases e <;> rfl
  | t + 3, _ => rfl
end XJ3
