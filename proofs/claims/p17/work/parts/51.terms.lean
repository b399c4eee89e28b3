section YT1
/-! SYMBOLIC RUNS: terms over unknown Ints, what is known of them, tests -/
abbrev xjE := Lean.Grind.CommRing.Expr
/-- a value: its tag and its term -/
abbrev xV := Nat × xjE
/-- what is known: a term, its least, its greatest -/
abbrev xF := List (xjE × Int × Int)
/-- two Ints, the first not above -/
def xle (a b : Int) : Bool := match b - a with
  | .ofNat _ => true
  | .negSucc _ => false
theorem xle_iff {a b : Int} : xle a b = true ↔ a ≤ b := by
  unfold xle
  constructor
  · intro h
    cases hb : b - a with
    | ofNat n => have : (0 : Int) ≤ b - a := by rw [hb]; exact Int.natCast_nonneg n
                 omega
    | negSucc n => rw [hb] at h; cases h
  · intro h
    cases hb : b - a with
    | ofNat n => rfl
    | negSucc n => exact absurd (Int.negSucc_lt_zero n) (by omega)
/-- an Int brought to 32 bits with sign -/
def xw (v : Int) : Int := bif xle (-2147483648) v && xle v 2147483647 then v else y32 v
theorem xw_s (v : Int) : xw v = y32 v := by
  unfold xw
  cases h : xle (-2147483648) v && xle v 2147483647 with
  | true =>
    rw [Bool.and_eq_true, xle_iff, xle_iff] at h
    exact (y32_id h.1 h.2).symm
  | false => rfl
theorem xw_rng (v : Int) : -2147483648 ≤ xw v ∧ xw v ≤ 2147483647 := by rw [xw_s]; exact y32_rng v
theorem y64_rng (v : Int) : -9223372036854775808 ≤ y64 v ∧ y64 v ≤ 9223372036854775807 := by
  have h1 := Int64.le_toInt (Int64.ofInt v)
  have h2 := Int64.toInt_lt (Int64.ofInt v)
  unfold y64
  omega
theorem y64_id {v : Int} (h1 : -9223372036854775808 ≤ v) (h2 : v ≤ 9223372036854775807) : y64 v = v := Int64.toInt_ofInt_of_le (by omega) (by omega)
theorem xt_32 (x : Int32) : -2147483648 ≤ x.toInt ∧ x.toInt ≤ 2147483647 := by
  have h1 := Int32.le_toInt x
  have h2 := Int32.toInt_lt x
  omega
theorem xt_64 (x : Int64) : -9223372036854775808 ≤ x.toInt ∧ x.toInt ≤ 9223372036854775807 := by
  have h1 := Int64.le_toInt x
  have h2 := Int64.toInt_lt x
  omega
/-- operations of two by their numbers: families of 16 -/
def xop (k : Nat) (a b : Int) : Int := match k / 16 with
  | 0 => (match k with
    | 0 => xw (a + b)
    | 1 => xw (a - b)
    | _ => xw (a * b))
  | 1 => ycI (k % 16) a b
  | 2 => ycJ (k % 16) a b
  | 3 => ycJI (k % 16) a b
  | 4 => bif decide (y64 b < y64 a) then 1 else bif decide (y64 a = y64 b) then 0 else -1
  | 5 => bif xle a b then b else a
  | _ => bif xle a b then a else b
def xop1 (k : Nat) (a : Int) : Int := match k with
  | 0 => xw (-a)
  | 1 => xw a
  | _ => bif xle 0 a then a else xw (0 - a)
/-- what a term tells -/
def xden (r : Nat → Int) : xjE → Int
  | .num k => k
  | .natCast _ => 0
  | .intCast _ => 0
  | .var i => r i
  | .neg a => - xden r a
  | .add a b => xden r a + xden r b
  | .sub a b => xden r a - xden r b
  | .mul a b => xden r a * xden r b
  | .pow a k => (match a with
    | .add b c => xop k (xden r b) (xden r c)
    | .neg b => xop1 k (xden r b)
    | .sub b c => (match b with
      | .num z => r (z.toNat + 64 * (xden r c).toNat)
      | _ => 0)
    | _ => 0)
/-- the same terms -/
def xeq : xjE → xjE → Bool
  | .num a, .num b => decide (a = b)
  | .natCast a, .natCast b => Nat.beq a b
  | .intCast a, .intCast b => decide (a = b)
  | .var i, .var j => Nat.beq i j
  | .neg a, .neg b => xeq a b
  | .add a b, .add c d => xeq a c && xeq b d
  | .sub a b, .sub c d => xeq a c && xeq b d
  | .mul a b, .mul c d => xeq a c && xeq b d
  | .pow a k, .pow b n => xeq a b && Nat.beq k n
  | _, _ => false
theorem xeq_s : ∀ {a b : xjE}, xeq a b = true → a = b := by
  intro a
  induction a with
  | num k => intro b h; cases b <;> simp_all [xeq]
  | natCast k =>
    intro b h
    cases b with
    | natCast j => rw [Nat.eq_of_beq_eq_true (show Nat.beq k j = true from h)]
    | _ => cases h
  | intCast k => intro b h; cases b <;> simp_all [xeq]
  | var i => intro b h; cases b <;> simp_all [xeq]
  | neg a ih => intro b h; cases b <;> simp_all [xeq]; exact ih h
  | add a c i1 i2 => intro b h; cases b <;> simp_all [xeq]; exact ⟨i1 h.1, i2 h.2⟩
  | sub a c i1 i2 => intro b h; cases b <;> simp_all [xeq]; exact ⟨i1 h.1, i2 h.2⟩
  | mul a c i1 i2 => intro b h; cases b <;> simp_all [xeq]; exact ⟨i1 h.1, i2 h.2⟩
  | pow a k ih => intro b h; cases b <;> simp_all [xeq]; exact ih h.1
def xdef32 : Int × Int := (-2147483648, 2147483647)
def xdef64 : Int × Int := (-9223372036854775808, 9223372036854775807)
/-- what the unknowns are, by their number's rest by 64: odd ones longs, even ones ints, some of them small -/
def xvt (m : Nat) : Int × Int := bif Nat.beq m 2 then (0, 1) else bif Nat.beq m 4 then (0, 255) else bif Nat.beq m 6 then (-1, 7) else bif Nat.beq m 8 then (0, 8) else bif Nat.beq m 10 then (0, 12) else bif Nat.beq m 12 then (0, 24) else bif Nat.beq m 14 then (0, 1500) else bif Nat.beq m 16 then (0, 20000) else bif Nat.beq m 18 then (1, 16) else bif Nat.beq m 20 then (0, 2147483647) else xdef32
def xvr (i : Nat) : Int × Int := bif Nat.beq (i % 64) 0 then xdef32 else bif Nat.beq (i % 2) 0 then xvt (i % 64) else xdef64
def xrok (r : Nat → Int) : Prop := ∀ i, (xvr i).1 ≤ r i ∧ r i ≤ (xvr i).2
theorem xvr_f (b j : Nat) : xvr (b + 64 * j) = xvr b := by
  unfold xvr
  rw [show (b + 64 * j) % 64 = b % 64 by omega, show (b + 64 * j) % 2 = b % 2 by omega]
def xH (r : Nat → Int) (F : xF) : Prop := xrok r ∧ ∀ q ∈ F, q.2.1 ≤ xden r q.1 ∧ xden r q.1 ≤ q.2.2
def xlk : xF → xjE → Int × Int → Int × Int
  | [], _, d => d
  | q :: F, e, d => bif xeq q.1 e then q.2 else xlk F e d
theorem xlk_s {r : Nat → Int} {e : xjE} {d : Int × Int} (hd : d.1 ≤ xden r e ∧ xden r e ≤ d.2) : ∀ {F : xF}, (∀ q ∈ F, q.2.1 ≤ xden r q.1 ∧ xden r q.1 ≤ q.2.2) → (xlk F e d).1 ≤ xden r e ∧ xden r e ≤ (xlk F e d).2 := by
  intro F
  induction F with
  | nil => intro _; exact hd
  | cons q F ih =>
    intro h
    show (bif xeq q.1 e then q.2 else xlk F e d).1 ≤ _ ∧ _ ≤ (bif xeq q.1 e then q.2 else xlk F e d).2
    cases hq : xeq q.1 e with
    | true =>
      have he := xeq_s hq
      subst he
      exact h q List.mem_cons_self
    | false => exact ih (fun q hq => h q (List.mem_cons_of_mem _ hq))
def xmn (a b : Int) : Int := bif xle a b then a else b
def xmx (a b : Int) : Int := bif xle a b then b else a
theorem xmn_s (a b : Int) : xmn a b ≤ a ∧ xmn a b ≤ b ∧ (xmn a b = a ∨ xmn a b = b) := by
  unfold xmn
  cases h : xle a b with
  | true => rw [xle_iff] at h; exact ⟨Int.le_refl _, h, Or.inl rfl⟩
  | false =>
    have : ¬ a ≤ b := fun z => by rw [xle_iff.mpr z] at h; cases h
    exact ⟨by show b ≤ a; omega, Int.le_refl _, Or.inr rfl⟩
theorem xmx_s (a b : Int) : a ≤ xmx a b ∧ b ≤ xmx a b ∧ (xmx a b = a ∨ xmx a b = b) := by
  unfold xmx
  cases h : xle a b with
  | true => rw [xle_iff] at h; exact ⟨h, Int.le_refl _, Or.inr rfl⟩
  | false =>
    have : ¬ a ≤ b := fun z => by rw [xle_iff.mpr z] at h; cases h
    exact ⟨Int.le_refl _, by show b ≤ a; omega, Or.inl rfl⟩
/-- ends of a product -/
def xmuli (p q : Int × Int) : Int × Int := (xmn (xmn (p.1 * q.1) (p.1 * q.2)) (xmn (p.2 * q.1) (p.2 * q.2)), xmx (xmx (p.1 * q.1) (p.1 * q.2)) (xmx (p.2 * q.1) (p.2 * q.2)))
theorem xmul1 {a b x : Int} (y : Int) (h1 : a ≤ x) (h2 : x ≤ b) : (xmn (a * y) (b * y)) ≤ x * y ∧ x * y ≤ xmx (a * y) (b * y) := by
  have m := xmn_s (a * y) (b * y)
  have n := xmx_s (a * y) (b * y)
  rcases Int.le_total 0 y with h | h
  · have := Int.mul_le_mul_of_nonneg_right h1 h
    have := Int.mul_le_mul_of_nonneg_right h2 h
    omega
  · have := Int.mul_le_mul_of_nonpos_right h1 h
    have := Int.mul_le_mul_of_nonpos_right h2 h
    omega
theorem xmuli_s {p q : Int × Int} {x y : Int} (h1 : p.1 ≤ x ∧ x ≤ p.2) (h2 : q.1 ≤ y ∧ y ≤ q.2) : (xmuli p q).1 ≤ x * y ∧ x * y ≤ (xmuli p q).2 := by
  have a := xmul1 y h1.1 h1.2
  have b1 := xmul1 p.1 h2.1 h2.2
  have b2 := xmul1 p.2 h2.1 h2.2
  rw [Int.mul_comm q.1, Int.mul_comm q.2, Int.mul_comm y] at b1 b2
  unfold xmuli
  have m1 := xmn_s (p.1 * q.1) (p.1 * q.2)
  have m2 := xmn_s (p.2 * q.1) (p.2 * q.2)
  have m3 := xmn_s (xmn (p.1 * q.1) (p.1 * q.2)) (xmn (p.2 * q.1) (p.2 * q.2))
  have n1 := xmx_s (p.1 * q.1) (p.1 * q.2)
  have n2 := xmx_s (p.2 * q.1) (p.2 * q.2)
  have n3 := xmx_s (xmx (p.1 * q.1) (p.1 * q.2)) (xmx (p.2 * q.1) (p.2 * q.2))
  have k1 := xmn_s (p.1 * y) (p.2 * y)
  have k2 := xmx_s (p.1 * y) (p.2 * y)
  omega
/-- within 32 bits -/
def xr32 (p : Int × Int) : Bool := xle (-2147483648) p.1 && xle p.2 2147483647
def xr64 (p : Int × Int) : Bool := xle (-9223372036854775808) p.1 && xle p.2 9223372036854775807
theorem xofn {v : Int} (h1 : 0 ≤ v) (h2 : v ≤ 2147483647) : Int32.ofInt v = nI v.toNat := by
  have a : (Int32.ofInt v).toInt = v := y32_id (by omega) h2
  have b : (nI v.toNat).toInt = (v.toNat : Int) := nI_toInt (by omega)
  exact Int32.toInt_inj.mp (by rw [a, b]; omega)
theorem xofl {v : Int} (h1 : 0 ≤ v) (h2 : v ≤ 9223372036854775807) : Int64.ofInt v = lN v.toNat := by
  have a : (Int64.ofInt v).toInt = v := y64_id (by omega) h2
  have b : (lN v.toNat).toInt = (v.toNat : Int) := pk_lT (by omega)
  exact Int64.toInt_inj.mp (by rw [a, b]; omega)
theorem xand_r (x y : Int32) (h : 0 ≤ y.toInt) : 0 ≤ (x &&& y).toInt ∧ (x &&& y).toInt ≤ y.toInt := by
  have e1 : (x &&& y).toInt = (x.toBitVec &&& y.toBitVec).toInt := rfl
  have e2 : y.toInt = y.toBitVec.toInt := rfl
  have e3 := Nat.and_le_right (n := x.toBitVec.toNat) (m := y.toBitVec.toNat)
  have e4 : (x.toBitVec &&& y.toBitVec).toNat = x.toBitVec.toNat &&& y.toBitVec.toNat := BitVec.toNat_and _ _
  have e5 := y.toBitVec.isLt
  rw [e2, BitVec.toInt_eq_toNat_cond] at h
  rw [e1, e2, BitVec.toInt_eq_toNat_cond, BitVec.toInt_eq_toNat_cond, e4]
  split at h
  · rename_i h6
    rw [if_pos (by omega), if_pos h6]
    omega
  · omega
theorem xand_l (x y : Int32) (h : 0 ≤ x.toInt) : 0 ≤ (x &&& y).toInt ∧ (x &&& y).toInt ≤ x.toInt := by
  have e : x &&& y = y &&& x := Int32.and_comm _ _
  rw [e]
  exact xand_r y x h
theorem ycI8 {x y : Int} (h1 : 0 ≤ x) (h2 : x ≤ 2147483647) (h3 : 1 ≤ y) (h4 : y ≤ 2147483647) : ycI 8 x y = ((x.toNat % y.toNat : Nat) : Int) := by
  show (Int32.ofInt x - Int32.ofInt x / Int32.ofInt y * Int32.ofInt y).toInt = _
  rw [xofn (by omega) (by omega), xofn (by omega) (by omega), pk_rem (by omega) (by omega) (by omega)]
  exact nI_toInt (Nat.lt_of_le_of_lt (Nat.mod_le _ _) (by omega))
theorem ycJ8 {x y : Int} (h1 : 0 ≤ x) (h2 : x ≤ 9223372036854775807) (h3 : 1 ≤ y) (h4 : y ≤ 9223372036854775807) : ycJ 8 x y = ((x.toNat % y.toNat : Nat) : Int) := by
  show (Int64.ofInt x - Int64.ofInt x / Int64.ofInt y * Int64.ofInt y).toInt = _
  rw [xofl (by omega) (by omega), xofl (by omega) (by omega), pk_lRem (by omega) (by omega) (by omega)]
  exact pk_lT (Nat.lt_of_le_of_lt (Nat.mod_le _ _) (by omega))
/-- ends of an operation of two ints -/
def xivI (k : Nat) (p q : Int × Int) : Int × Int :=
  bif Nat.beq k 1 then (bif xr32 q && xle 0 q.1 then (0, q.2) else bif xr32 p && xle 0 p.1 then (0, p.2) else xdef32)
  else bif Nat.beq k 7 then (bif xr32 p && (xr32 q && (xle 0 p.1 && xle 1 q.1)) then (0, p.2 / q.1) else xdef32)
  else bif Nat.beq k 8 then (bif xr32 p && (xr32 q && (xle 0 p.1 && xle 1 q.1)) then (0, bif xle p.2 (q.2 - 1) then p.2 else q.2 - 1) else xdef32)
  else xdef32
theorem xivI_s {k : Nat} {p q : Int × Int} {x y : Int} (h1 : p.1 ≤ x ∧ x ≤ p.2) (h2 : q.1 ≤ y ∧ y ≤ q.2) : (xivI k p q).1 ≤ ycI k x y ∧ ycI k x y ≤ (xivI k p q).2 := by
  unfold xivI
  cases k1 : Nat.beq k 1 with
  | true =>
    have e := Nat.eq_of_beq_eq_true k1
    subst e
    simp only [cond_true]
    cases c1 : xr32 q && xle 0 q.1 with
    | true =>
      unfold xr32 at c1
      simp only [Bool.and_eq_true, xle_iff] at c1
      have hy : (Int32.ofInt y).toInt = y := y32_id (by omega) (by omega)
      have := xand_r (Int32.ofInt x) (Int32.ofInt y) (by omega)
      show 0 ≤ (Int32.ofInt x &&& Int32.ofInt y).toInt ∧ (Int32.ofInt x &&& Int32.ofInt y).toInt ≤ q.2
      omega
    | false =>
      simp only [cond_false]
      cases c2 : xr32 p && xle 0 p.1 with
      | true =>
        unfold xr32 at c2
        simp only [Bool.and_eq_true, xle_iff] at c2
        have hx : (Int32.ofInt x).toInt = x := y32_id (by omega) (by omega)
        have := xand_l (Int32.ofInt x) (Int32.ofInt y) (by omega)
        show 0 ≤ (Int32.ofInt x &&& Int32.ofInt y).toInt ∧ (Int32.ofInt x &&& Int32.ofInt y).toInt ≤ p.2
        omega
      | false => exact xt_32 _
  | false =>
    simp only [cond_false]
    cases k7 : Nat.beq k 7 with
    | true =>
      have e := Nat.eq_of_beq_eq_true k7
      subst e
      simp only [cond_true]
      cases c1 : xr32 p && (xr32 q && (xle 0 p.1 && xle 1 q.1)) with
      | true =>
        unfold xr32 at c1
        simp only [Bool.and_eq_true, xle_iff] at c1
        have e : ycI 7 x y = ((x.toNat / y.toNat : Nat) : Int) := by
          show (Int32.ofInt x / Int32.ofInt y).toInt = _
          rw [xofn (by omega) (by omega), xofn (by omega) (by omega), pk_div (by omega) (by omega) (by omega)]
          exact nI_toInt (Nat.lt_of_le_of_lt (Nat.div_le_self _ _) (by omega))
        rw [e]
        have a : x.toNat / y.toNat ≤ x.toNat / q.1.toNat := Nat.div_le_div_left (by omega) (by omega)
        have b : x.toNat / q.1.toNat ≤ p.2.toNat / q.1.toNat := Nat.div_le_div_right (by omega)
        have d : ((p.2.toNat / q.1.toNat : Nat) : Int) = p.2 / q.1 := by
          rw [Int.natCast_ediv, Int.toNat_of_nonneg (by omega), Int.toNat_of_nonneg (by omega)]
        show (0 : Int) ≤ ((x.toNat / y.toNat : Nat) : Int) ∧ ((x.toNat / y.toNat : Nat) : Int) ≤ p.2 / q.1
        rw [← d]
        exact ⟨Int.natCast_nonneg _, Int.ofNat_le.mpr (Nat.le_trans a b)⟩
      | false => exact xt_32 _
    | false =>
      simp only [cond_false]
      cases k8 : Nat.beq k 8 with
      | true =>
        have e := Nat.eq_of_beq_eq_true k8
        subst e
        simp only [cond_true]
        cases c1 : xr32 p && (xr32 q && (xle 0 p.1 && xle 1 q.1)) with
        | true =>
          unfold xr32 at c1
          simp only [Bool.and_eq_true, xle_iff] at c1
          rw [ycI8 (by omega) (by omega) (by omega) (by omega)]
          have a := Nat.mod_lt x.toNat (show y.toNat > 0 by omega)
          have b := Nat.mod_le x.toNat y.toNat
          show (0 : Int) ≤ _ ∧ _ ≤ (bif xle p.2 (q.2 - 1) then p.2 else q.2 - 1)
          cases xle p.2 (q.2 - 1) with
          | true => show (0 : Int) ≤ _ ∧ _ ≤ p.2; omega
          | false => show (0 : Int) ≤ _ ∧ _ ≤ q.2 - 1; omega
        | false => exact xt_32 _
      | false => exact xt_32 _
/-- ends of an operation of two longs -/
def xivJ (k : Nat) (p q : Int × Int) : Int × Int :=
  bif Nat.beq k 8 then (bif xr64 p && (xr64 q && (xle 0 p.1 && xle 1 q.1)) then (0, bif xle p.2 (q.2 - 1) then p.2 else q.2 - 1) else xdef64)
  else xdef64
theorem xivJ_s {k : Nat} {p q : Int × Int} {x y : Int} (h1 : p.1 ≤ x ∧ x ≤ p.2) (h2 : q.1 ≤ y ∧ y ≤ q.2) : (xivJ k p q).1 ≤ ycJ k x y ∧ ycJ k x y ≤ (xivJ k p q).2 := by
  unfold xivJ
  cases k8 : Nat.beq k 8 with
  | true =>
    have e := Nat.eq_of_beq_eq_true k8
    subst e
    simp only [cond_true]
    cases c1 : xr64 p && (xr64 q && (xle 0 p.1 && xle 1 q.1)) with
    | true =>
      unfold xr64 at c1
      simp only [Bool.and_eq_true, xle_iff] at c1
      rw [ycJ8 (by omega) (by omega) (by omega) (by omega)]
      have a := Nat.mod_lt x.toNat (show y.toNat > 0 by omega)
      have b := Nat.mod_le x.toNat y.toNat
      show (0 : Int) ≤ _ ∧ _ ≤ (bif xle p.2 (q.2 - 1) then p.2 else q.2 - 1)
      cases xle p.2 (q.2 - 1) with
      | true => show (0 : Int) ≤ _ ∧ _ ≤ p.2; omega
      | false => show (0 : Int) ≤ _ ∧ _ ≤ q.2 - 1; omega
    | false => exact xt_64 _
  | false => exact xt_64 _
/-- ends of a long shifted -/
def xivS (k : Nat) (q : Int × Int) : Int × Int := bif Nat.beq k 3 && (xle 33 q.1 && xle q.2 33) then (0, 2147483647) else xdef64
theorem xushr (x : Int64) : ((x.toUInt64 >>> ((33 : Int32).toInt64.toUInt64 &&& Int64.toUInt64 63)).toInt64).toInt = ((x.toUInt64.toNat / 2 ^ 33 : Nat) : Int) := by
  have e : ((33 : Int32).toInt64.toUInt64 &&& Int64.toUInt64 63) = (33 : UInt64) := by decide
  rw [e]
  have h1 : (x.toUInt64 >>> (33 : UInt64)).toNat = x.toUInt64.toNat / 2 ^ 33 := by
    rw [UInt64.toNat_shiftRight, Nat.shiftRight_eq_div_pow]
    rfl
  have h2 := x.toUInt64.toNat_lt
  have h3 : (x.toUInt64 >>> (33 : UInt64)).toInt64.toInt = (x.toUInt64 >>> (33 : UInt64)).toBitVec.toInt := rfl
  have h4 : (x.toUInt64 >>> (33 : UInt64)).toBitVec.toNat = (x.toUInt64 >>> (33 : UInt64)).toNat := rfl
  rw [h3, BitVec.toInt_eq_toNat_cond, h4, h1, if_pos (by omega)]
theorem xivS_s {k : Nat} {q : Int × Int} {x y : Int} (h2 : q.1 ≤ y ∧ y ≤ q.2) : (xivS k q).1 ≤ ycJI k x y ∧ ycJI k x y ≤ (xivS k q).2 := by
  unfold xivS
  cases c : Nat.beq k 3 && (xle 33 q.1 && xle q.2 33) with
  | true =>
    simp only [Bool.and_eq_true, xle_iff] at c
    have e := Nat.eq_of_beq_eq_true c.1
    subst e
    have ey : y = 33 := by omega
    subst ey
    have e : ycJI 3 x 33 = (((Int64.ofInt x).toUInt64.toNat / 2 ^ 33 : Nat) : Int) := xushr _
    rw [e]
    have h2 := (Int64.ofInt x).toUInt64.toNat_lt
    show (0 : Int) ≤ _ ∧ _ ≤ (2147483647 : Int)
    omega
  | false => exact xt_64 _
/-- ends of an operation of two, out of the ends of both -/
def xivop (k : Nat) (p q : Int × Int) : Int × Int := match k / 16 with
  | 0 => xdef32
  | 1 => xivI (k % 16) p q
  | 2 => xivJ (k % 16) p q
  | 3 => xivS (k % 16) q
  | 4 => (-1, 1)
  | 5 => (xmx p.1 q.1, xmx p.2 q.2)
  | _ => (xmn p.1 q.1, xmn p.2 q.2)
theorem xivop_s {k : Nat} {p q : Int × Int} {x y : Int} (h1 : p.1 ≤ x ∧ x ≤ p.2) (h2 : q.1 ≤ y ∧ y ≤ q.2) : (xivop k p q).1 ≤ xop k x y ∧ xop k x y ≤ (xivop k p q).2 := by
  unfold xivop xop
  split
  · split <;> exact xw_rng _
  · exact xivI_s h1 h2
  · exact xivJ_s h1 h2
  · exact xivS_s h2
  · cases decide (y64 y < y64 x) <;> cases decide (y64 x = y64 y) <;> decide
  · have a := xmx_s p.1 q.1
    have b := xmx_s p.2 q.2
    have c := xmx_s x y
    show xmx p.1 q.1 ≤ xmx x y ∧ xmx x y ≤ xmx p.2 q.2
    omega
  · have a := xmn_s p.1 q.1
    have b := xmn_s p.2 q.2
    have c := xmn_s x y
    show xmn p.1 q.1 ≤ xmn x y ∧ xmn x y ≤ xmn p.2 q.2
    omega
/-- what is known of a term: its least and its greatest -/
def xiv (F : xF) : xjE → Int × Int
  | .num k => (k, k)
  | .natCast _ => (0, 0)
  | .intCast _ => (0, 0)
  | .var i => xlk F (.var i) (xvr i)
  | .neg a => xlk F (.neg a) (- (xiv F a).2, - (xiv F a).1)
  | .add a b => xlk F (.add a b) ((xiv F a).1 + (xiv F b).1, (xiv F a).2 + (xiv F b).2)
  | .sub a b => xlk F (.sub a b) ((xiv F a).1 - (xiv F b).2, (xiv F a).2 - (xiv F b).1)
  | .mul a b => xlk F (.mul a b) (xmuli (xiv F a) (xiv F b))
  | .pow a k => (match a with
    | .add b c => xlk F (.pow (.add b c) k) (xivop k (xiv F b) (xiv F c))
    | .neg b => xlk F (.pow (.neg b) k) (match k with | 0 => xdef32 | 1 => xdef32 | _ => (-2147483648, xmx 2147483647 (xiv F b).2))
    | .sub b c => (match b with
      | .num z => xlk F (.pow (.sub (.num z) c) k) (xvr z.toNat)
      | _ => (0, 0))
    | _ => (0, 0))
theorem xiv_s {r : Nat → Int} {F : xF} (h : xH r F) : ∀ e : xjE, (xiv F e).1 ≤ xden r e ∧ xden r e ≤ (xiv F e).2
  | .num k => ⟨Int.le_refl _, Int.le_refl _⟩
  | .natCast _ => ⟨Int.le_refl _, Int.le_refl _⟩
  | .intCast _ => ⟨Int.le_refl _, Int.le_refl _⟩
  | .var i => xlk_s (h.1 i) h.2
  | .neg a => xlk_s (by
      have := xiv_s h a
      show - (xiv F a).2 ≤ - xden r a ∧ - xden r a ≤ - (xiv F a).1
      omega) h.2
  | .add a b => xlk_s (by
      have := xiv_s h a
      have := xiv_s h b
      show (xiv F a).1 + (xiv F b).1 ≤ xden r a + xden r b ∧ xden r a + xden r b ≤ (xiv F a).2 + (xiv F b).2
      omega) h.2
  | .sub a b => xlk_s (by
      have := xiv_s h a
      have := xiv_s h b
      show (xiv F a).1 - (xiv F b).2 ≤ xden r a - xden r b ∧ xden r a - xden r b ≤ (xiv F a).2 - (xiv F b).1
      omega) h.2
  | .mul a b => xlk_s (xmuli_s (xiv_s h a) (xiv_s h b)) h.2
  | .pow (.add b c) k => xlk_s (xivop_s (xiv_s h b) (xiv_s h c)) h.2
  | .pow (.neg b) k => xlk_s (by
      have hb := xiv_s h b
      show _ ≤ xop1 k (xden r b) ∧ xop1 k (xden r b) ≤ _
      unfold xop1
      split
      · exact xw_rng _
      · exact xw_rng _
      · show -2147483648 ≤ (bif xle 0 (xden r b) then xden r b else xw (0 - xden r b)) ∧ (bif xle 0 (xden r b) then xden r b else xw (0 - xden r b)) ≤ xmx 2147483647 (xiv F b).2
        have m := xmx_s 2147483647 (xiv F b).2
        have w := xw_rng (0 - xden r b)
        cases hx : xle 0 (xden r b) with
        | true => rw [xle_iff] at hx; show -2147483648 ≤ xden r b ∧ xden r b ≤ _; omega
        | false => show -2147483648 ≤ xw _ ∧ xw _ ≤ _; omega) h.2
  | .pow (.num _) k => ⟨Int.le_refl _, Int.le_refl _⟩
  | .pow (.natCast _) k => ⟨Int.le_refl _, Int.le_refl _⟩
  | .pow (.intCast _) k => ⟨Int.le_refl _, Int.le_refl _⟩
  | .pow (.var _) k => ⟨Int.le_refl _, Int.le_refl _⟩
  | .pow (.sub b c) k => by
      cases b
      case num z =>
        refine xlk_s ?_ h.2
        have e := h.1 (z.toNat + 64 * (xden r c).toNat)
        rw [xvr_f] at e
        exact e
      all_goals exact ⟨Int.le_refl _, Int.le_refl _⟩
  | .pow (.mul _ _) k => ⟨Int.le_refl _, Int.le_refl _⟩
  | .pow (.pow _ _) k => ⟨Int.le_refl _, Int.le_refl _⟩
end YT1
