section YTC
/-! SYMBOLIC RUNS of this claim: tables, unknowns, the start -/
def yxol : xO := fun k => match k with
  | 0 => (.var 0, fun j => .var (2 * j + 2))
  | 1 => (.num 29, fun j => .num ((ykl1[j]?).getD 0))
  | 2 => (.num 29, fun j => .num ((ykl2[j]?).getD 0))
  | 3 => (.num 30, fun j => .num ((ykl3[j]?).getD 0))
  | 4 => (.num 30, fun j => .num ((ykl4[j]?).getD 0))
  | 5 => (.num 19, fun j => .num ((ykl5[j]?).getD 0))
  | _ => (.num 0, fun _ => .num 0)
/-- the unknowns: 0 the script's length, 2, 4 .. its ints -/
def yxr (L : Nat) (xs : Nat → Int32) : Nat → Int := fun i => bif Nat.beq i 0 then (L : Int) else bif Nat.beq (i % 2) 0 then (xs (i / 2 - 1)).toInt else 0
theorem yx_rok {L : Nat} {xs : Nat → Int32} (hL : L ≤ 3584) : xrok (yxr L xs) := by
  intro i
  have h : -2147483648 ≤ yxr L xs i ∧ yxr L xs i ≤ 2147483647 := by
    unfold yxr
    cases Nat.beq i 0 with
    | true => show -2147483648 ≤ (L : Int) ∧ (L : Int) ≤ 2147483647; omega
    | false =>
      cases Nat.beq (i % 2) 0 with
      | true => exact xt_32 _
      | false => show (-2147483648 : Int) ≤ 0 ∧ (0 : Int) ≤ 2147483647; omega
  exact ⟨by omega, fun _ => h⟩
theorem yx_ol {L : Nat} {xs : Nat → Int32} : xolok (yxr L xs) (ykold L xs) yxol := by
  intro k
  match k with
  | 0 =>
    refine ⟨rfl, fun j _ => ?_⟩
    show (bif Nat.beq (2 * j + 2) 0 then (L : Int) else bif Nat.beq ((2 * j + 2) % 2) 0 then (xs ((2 * j + 2) / 2 - 1)).toInt else 0) = (xs j).toInt
    rw [ycbne (show 2 * j + 2 ≠ 0 by omega), show (2 * j + 2) % 2 = 0 by omega, show (2 * j + 2) / 2 - 1 = j by omega]
    rfl
  | 1 => exact ⟨rfl, fun j _ => rfl⟩
  | 2 => exact ⟨rfl, fun j _ => rfl⟩
  | 3 => exact ⟨rfl, fun j _ => rfl⟩
  | 4 => exact ⟨rfl, fun j _ => rfl⟩
  | 5 => exact ⟨rfl, fun j _ => rfl⟩
  | k + 6 => exact ⟨rfl, fun j _ => rfl⟩
def yxT : ycT := yfT (fun _ => (0, fun _ => 0))
def yxg0 : xHp := (.leaf (0, 0, 0, .leaf (0, .num 0)), 0, true)
theorem xthr_o {a1 : Nat → Nat → Option (Instr × Nat)} {a2 : Nat → Nat → Option ycFd} {a3 a4 : Nat → Nat → Option Int} {a5 : Nat → Nat → Option (Nat × Nat)} {a6 : Nat → Nat × Nat × Nat × Bool × Nat} {a7 : Nat → Nat × Nat} {a8 : Nat → List (Nat × Nat × Nat × Nat)} {a9 : Nat → Nat → Option (Nat × Nat)} {a10 : Nat → Nat → Option Nat} {a11 : Nat → Nat → Option (Nat × Nat)} {a12 a13 : Nat → Nat → Option Nat} {a14 : Nat → Nat → ycV} {o o2 : Nat → Nat × (Nat → Int)} {E : xEn} {k : xCo} {e : Nat} {F : xF} : ∀ (S : List xFr) (g : xHp) (mc ms : Nat), xthr (a1, a2, a3, a4, a5, a6, a7, a8, a9, a10, a11, a12, a13, a14, o) E k e F S g mc ms = xthr (a1, a2, a3, a4, a5, a6, a7, a8, a9, a10, a11, a12, a13, a14, o2) E k e F S g mc ms := by
  intro S
  induction S with
  | nil => intro g mc ms; rfl
  | cons f S ih =>
    intro g mc ms
    unfold xthr
    simp only [ih]
theorem xthrow_o {a1 : Nat → Nat → Option (Instr × Nat)} {a2 : Nat → Nat → Option ycFd} {a3 a4 : Nat → Nat → Option Int} {a5 : Nat → Nat → Option (Nat × Nat)} {a6 : Nat → Nat × Nat × Nat × Bool × Nat} {a7 : Nat → Nat × Nat} {a8 : Nat → List (Nat × Nat × Nat × Nat)} {a9 : Nat → Nat → Option (Nat × Nat)} {a10 : Nat → Nat → Option Nat} {a11 : Nat → Nat → Option (Nat × Nat)} {a12 a13 : Nat → Nat → Option Nat} {a14 : Nat → Nat → ycV} {o o2 : Nat → Nat × (Nat → Int)} : xthrow (a1, a2, a3, a4, a5, a6, a7, a8, a9, a10, a11, a12, a13, a14, o) = xthrow (a1, a2, a3, a4, a5, a6, a7, a8, a9, a10, a11, a12, a13, a14, o2) := by
  funext E k mid i e n fr g S mc ms F
  unfold xthrow
  simp only [xthr_o (o := o) (o2 := o2)]
theorem xbody_o {a1 : Nat → Nat → Option (Instr × Nat)} {a2 : Nat → Nat → Option ycFd} {a3 a4 : Nat → Nat → Option Int} {a5 : Nat → Nat → Option (Nat × Nat)} {a6 : Nat → Nat × Nat × Nat × Bool × Nat} {a7 : Nat → Nat × Nat} {a8 : Nat → List (Nat × Nat × Nat × Nat)} {a9 : Nat → Nat → Option (Nat × Nat)} {a10 : Nat → Nat → Option Nat} {a11 : Nat → Nat → Option (Nat × Nat)} {a12 a13 : Nat → Nat → Option Nat} {a14 : Nat → Nat → ycV} {o o2 : Nat → Nat × (Nat → Int)} : xbody (a1, a2, a3, a4, a5, a6, a7, a8, a9, a10, a11, a12, a13, a14, o) = xbody (a1, a2, a3, a4, a5, a6, a7, a8, a9, a10, a11, a12, a13, a14, o2) := by
  funext ol E k mid fr g S mc ms F
  unfold xbody xnewi
  simp only [xthrow_o (o := o) (o2 := o2)]
  rfl
theorem yx_body (old : Nat → Nat × (Nat → Int)) : xbody (yfT old) = xbody yxT := xbody_o
theorem yx_run (old : Nat → Nat × (Nat → Int)) (ol : xO) (E : xEn) (cut : Nat → Nat → Bool) (C : xCo) : ∀ n, xrun (yfT old) ol E cut C n = xrun yxT ol E cut C n := by
  intro n
  induction n with
  | zero => rfl
  | succ n ih =>
    unfold xrun
    rw [ih, yx_body]
end YTC
