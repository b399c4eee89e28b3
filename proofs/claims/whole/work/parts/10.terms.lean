section XJ1
/-! THE ENGINE, pure side: terms over unknowns, tries, intervals -/
abbrev xjE := Lean.Grind.CommRing.Expr
abbrev xjV := Nat × xjE
abbrev xjF := List (xjE × Int × Int)
/-- a tree of binary places; a leaf stands for all places below it -/
abbrev xjT (α : Type) := Lean.RArray α
def xjlf {α : Type} : xjT α → xjT α
  | .leaf a => .leaf a
  | .branch _ l _ => l
def xjrg {α : Type} : xjT α → xjT α
  | .leaf a => .leaf a
  | .branch _ _ r => r
def xjg0 {α : Type} : xjT α → Nat → α
  | .leaf a, _ => a
  | .branch _ l r, i => bif Nat.beq (i % 2) 0 then xjg0 l (i / 2) else xjg0 r (i / 2)
def xjget {α : Type} (_ : Nat) (t : xjT α) (i : Nat) : α := xjg0 t i
def xjset {α : Type} : Nat → xjT α → Nat → α → xjT α
  | 0, _, _, v => .leaf v
  | d + 1, t, i, v => bif Nat.beq (i % 2) 0 then .branch 0 (xjset d (xjlf t) (i / 2) v) (xjrg t) else .branch 0 (xjlf t) (xjset d (xjrg t) (i / 2) v)
def xjrep {α : Type} (v : α) (_ : Nat) : xjT α := .leaf v
def xjof {α : Type} : Nat → (Nat → α) → xjT α
  | 0, f => .leaf (f 0)
  | d + 1, f => .branch 0 (xjof d (fun i => f (2 * i))) (xjof d (fun i => f (2 * i + 1)))
theorem xjget_rep {α : Type} (v : α) (d e i : Nat) : xjget d (xjrep v e) i = v := rfl
theorem xjg0_of {α : Type} : ∀ (d : Nat) (f : Nat → α) (i : Nat), i < 2 ^ d → xjg0 (xjof d f) i = f i := by
  intro d
  induction d with
  | zero => intro f i h
            have h0 : i = 0 := by omega
            rw [h0]; rfl
  | succ d ih =>
    intro f i h
    show (bif Nat.beq (i % 2) 0 then xjg0 (xjof d (fun i => f (2 * i))) (i / 2) else xjg0 (xjof d (fun i => f (2 * i + 1))) (i / 2)) = f i
    have h2 : i / 2 < 2 ^ d := by rw [Nat.pow_succ] at h; omega
    cases hb : Nat.beq (i % 2) 0 with
    | true =>
      have := Nat.eq_of_beq_eq_true hb
      show xjg0 _ (i / 2) = f i
      rw [ih _ _ h2]
      congr 1; omega
    | false =>
      have := Nat.ne_of_beq_eq_false hb
      show xjg0 _ (i / 2) = f i
      rw [ih _ _ h2]
      congr 1; omega
theorem xjget_of {α : Type} (d e : Nat) (f : Nat → α) (i : Nat) (h : i < 2 ^ e) : xjget d (xjof e f) i = f i := xjg0_of e f i h
theorem xjg0_at {α : Type} (t : xjT α) (j : Nat) : xjg0 t j = bif Nat.beq (j % 2) 0 then xjg0 (xjlf t) (j / 2) else xjg0 (xjrg t) (j / 2) := by
  cases t with
  | leaf a => cases Nat.beq (j % 2) 0 <;> rfl
  | branch p l r => rfl
theorem xjg0_set {α : Type} (v : α) : ∀ (d : Nat) (t : xjT α) (i j : Nat), i < 2 ^ d → j < 2 ^ d → xjg0 (xjset d t i v) j = if j = i then v else xjg0 t j := by
  intro d
  induction d with
  | zero =>
    intro t i j hi hj
    have h0 : i = 0 := by omega
    have h1 : j = 0 := by omega
    rw [h0, h1]; rfl
  | succ d ih =>
    intro t i j hi hj
    have hi2 : i / 2 < 2 ^ d := by rw [Nat.pow_succ] at hi; omega
    have hj2 : j / 2 < 2 ^ d := by rw [Nat.pow_succ] at hj; omega
    rw [xjg0_at t j]
    show xjg0 (bif Nat.beq (i % 2) 0 then .branch 0 (xjset d (xjlf t) (i / 2) v) (xjrg t) else .branch 0 (xjlf t) (xjset d (xjrg t) (i / 2) v)) j = _
    cases hb : Nat.beq (i % 2) 0 with
    | true =>
      have hi0 := Nat.eq_of_beq_eq_true hb
      show (bif Nat.beq (j % 2) 0 then xjg0 (xjset d (xjlf t) (i / 2) v) (j / 2) else xjg0 (xjrg t) (j / 2)) = _
      cases hc : Nat.beq (j % 2) 0 with
      | true =>
        have hj0 := Nat.eq_of_beq_eq_true hc
        show xjg0 (xjset d (xjlf t) (i / 2) v) (j / 2) = if j = i then v else xjg0 (xjlf t) (j / 2)
        rw [ih _ _ _ hi2 hj2]
        by_cases h : j = i
        · rw [if_pos (by omega), if_pos h]
        · rw [if_neg (by omega), if_neg h]
      | false =>
        have hj0 := Nat.ne_of_beq_eq_false hc
        show xjg0 (xjrg t) (j / 2) = if j = i then v else xjg0 (xjrg t) (j / 2)
        rw [if_neg (by omega)]
    | false =>
      have hi0 := Nat.ne_of_beq_eq_false hb
      show (bif Nat.beq (j % 2) 0 then xjg0 (xjlf t) (j / 2) else xjg0 (xjset d (xjrg t) (i / 2) v) (j / 2)) = _
      cases hc : Nat.beq (j % 2) 0 with
      | true =>
        have hj0 := Nat.eq_of_beq_eq_true hc
        show xjg0 (xjlf t) (j / 2) = if j = i then v else xjg0 (xjlf t) (j / 2)
        rw [if_neg (by omega)]
      | false =>
        have hj0 := Nat.ne_of_beq_eq_false hc
        show xjg0 (xjset d (xjrg t) (i / 2) v) (j / 2) = if j = i then v else xjg0 (xjrg t) (j / 2)
        rw [ih _ _ _ hi2 hj2]
        by_cases h : j = i
        · rw [if_pos (by omega), if_pos h]
        · rw [if_neg (by omega), if_neg h]
theorem xjget_set {α : Type} (v : α) (d : Nat) (t : xjT α) (i j : Nat) (hi : i < 2 ^ d) (hj : j < 2 ^ d) : xjget d (xjset d t i v) j = if j = i then v else xjget d t j := xjg0_set v d t i j hi hj
/-- an operation of two ints by its number -/
def xjb (k : Nat) (x y : Int32) : Int32 := match k with
  | 1 => x &&& y
  | 2 => x ||| y
  | 3 => x ^^^ y
  | 4 => x <<< (y &&& 31)
  | 5 => x >>> (y &&& 31)
  | 6 => (x.toUInt32 >>> (y.toUInt32 &&& Int32.toUInt32 31)).toInt32
  | 7 => x / y
  | 8 => x - x / y * y
  | 20 => if x < y then 1 else 0
  | _ => if x = y then 1 else 0
/-- what a term tells: as an int, as a long -/
def xjdn (r : Nat → Int32 × Int64) : xjE → Int32 × Int64
  | .num k => (Int32.ofInt k, Int64.ofInt k)
  | .natCast _ => (0, 0)
  | .intCast _ => (0, 0)
  | .var i => r i
  | .neg a => (-(xjdn r a).1, -(xjdn r a).2)
  | .add a b => ((xjdn r a).1 + (xjdn r b).1, (xjdn r a).2 + (xjdn r b).2)
  | .sub a b => ((xjdn r a).1 - (xjdn r b).1, (xjdn r a).2 - (xjdn r b).2)
  | .mul a b => ((xjdn r a).1 * (xjdn r b).1, (xjdn r a).2 * (xjdn r b).2)
  | .pow (.add a b) k => (xjb k (xjdn r a).1 (xjdn r b).1, 0)
  | .pow a _ => ((xjdn r a).2.toInt32, (xjdn r a).1.toInt64)
/-- the same terms -/
def xjeq : xjE → xjE → Bool
  | .num a, .num b => decide (a = b)
  | .var i, .var j => Nat.beq i j
  | .neg a, .neg b => xjeq a b
  | .add a b, .add c d => xjeq a c && xjeq b d
  | .sub a b, .sub c d => xjeq a c && xjeq b d
  | .mul a b, .mul c d => xjeq a c && xjeq b d
  | .pow a k, .pow b n => xjeq a b && Nat.beq k n
  | _, _ => false
theorem xjeq_s : ∀ {a b : xjE}, xjeq a b = true → a = b := by
  intro a
  induction a with
  | num k => intro b h; cases b <;> simp_all [xjeq]
  | natCast k => intro b h; cases b <;> simp_all [xjeq]
  | intCast k => intro b h; cases b <;> simp_all [xjeq]
  | var i => intro b h; cases b <;> simp_all [xjeq]
  | neg a ih => intro b h; cases b <;> simp_all [xjeq]; exact ih h
  | add a c i1 i2 => intro b h; cases b <;> simp_all [xjeq]; exact ⟨i1 h.1, i2 h.2⟩
  | sub a c i1 i2 => intro b h; cases b <;> simp_all [xjeq]; exact ⟨i1 h.1, i2 h.2⟩
  | mul a c i1 i2 => intro b h; cases b <;> simp_all [xjeq]; exact ⟨i1 h.1, i2 h.2⟩
  | pow a k ih => intro b h; cases b <;> simp_all [xjeq]; exact ih h.1
/-- two Ints, the first not above -/
def xjle (a b : Int) : Bool := match b - a with
  | .ofNat _ => true
  | .negSucc _ => false
theorem xjle_iff {a b : Int} : xjle a b = true ↔ a ≤ b := by
  unfold xjle
  constructor
  · intro h
    cases hb : b - a with
    | ofNat n => have : (0 : Int) ≤ b - a := by rw [hb]; exact Int.natCast_nonneg n
                 omega
    | negSucc n => rw [hb] at h; cases h
  · intro h
    cases hb : b - a with
    | ofNat n => rfl
    | negSucc n => exact absurd (Int.negSucc_lt_zero n) (by omega)
/-- the facts hold -/
def xjH (r : Nat → Int32 × Int64) (F : xjF) : Prop := ∀ q ∈ F, q.2.1 ≤ (xjdn r q.1).1.toInt ∧ (xjdn r q.1).1.toInt ≤ q.2.2
/-- what is known of a term: its least and its greatest -/
def xjiv : xjF → xjE → Int × Int
  | [], e => match e with
    | .num k => ((Int32.ofInt k).toInt, (Int32.ofInt k).toInt)
    | _ => (-2147483648, 2147483647)
  | q :: F, e => bif xjeq q.1 e then q.2 else xjiv F e
theorem xjrng (x : Int32) : (-2147483648 : Int) ≤ x.toInt ∧ x.toInt ≤ (2147483647 : Int) := by
  have h1 := Int32.le_toInt x
  have h2 := Int32.toInt_lt x
  omega
theorem xjiv_s {r : Nat → Int32 × Int64} {F : xjF} (h : xjH r F) (e : xjE) : (xjiv F e).1 ≤ (xjdn r e).1.toInt ∧ (xjdn r e).1.toInt ≤ (xjiv F e).2 := by
  induction F with
  | nil =>
    cases e with
    | num k => exact ⟨Int.le_refl _, Int.le_refl _⟩
    | _ => exact xjrng _
  | cons q F ih =>
    show (bif xjeq q.1 e then q.2 else xjiv F e).1 ≤ _ ∧ _ ≤ (bif xjeq q.1 e then q.2 else xjiv F e).2
    cases hq : xjeq q.1 e with
    | true =>
      have he := xjeq_s hq
      subst he
      exact h q List.mem_cons_self
    | false => exact ih (fun q hq => h q (List.mem_cons_of_mem _ hq))
theorem xjof_toInt (x : Int32) : Int32.ofInt x.toInt = x := Int32.ofInt_toInt x
theorem xjdn_num (r : Nat → Int32 × Int64) (k : Int) : xjdn r (.num k) = (Int32.ofInt k, Int64.ofInt k) := rfl
end XJ1
