section EZ01
/-! E2: ends of shifts, of bits put together, of longs -/
def ezp2 (s : Int) : Int := ((2 ^ s.toNat : Nat) : Int)
theorem ezp2_s {a b : Int} (h : a ≤ b) : ezp2 a ≤ ezp2 b ∧ 0 < ezp2 a := by
  unfold ezp2
  have h1 : (2 : Nat) ^ a.toNat ≤ 2 ^ b.toNat := Nat.pow_le_pow_right (by decide) (by omega)
  have h2 : 0 < (2 : Nat) ^ a.toNat := Nat.pow_pos (by decide)
  omega
theorem ezs31 {k : Nat} (h : k < 32) : ((Int32.ofInt ((k : Nat) : Int) &&& 31).toBitVec.smod 32).toNat = k := by
  have key : ∀ k : Fin 32, ((Int32.ofInt ((k.val : Nat) : Int) &&& 31).toBitVec.smod 32).toNat = k.val := by decide
  exact key ⟨k, h⟩
theorem ezu31 {k : Nat} (h : k < 32) : (((Int32.ofInt ((k : Nat) : Int)).toUInt32 &&& Int32.toUInt32 31).toBitVec % 32).toNat = k := by
  have key : ∀ k : Fin 32, (((Int32.ofInt ((k.val : Nat) : Int)).toUInt32 &&& Int32.toUInt32 31).toBitVec % 32).toNat = k.val := by decide
  exact key ⟨k, h⟩
theorem ezdvn {a b x s t u : Nat} (h1 : a ≤ x) (h2 : x ≤ b) (hs : 0 < s) (hu1 : s ≤ u) (hu2 : u ≤ t) : a / t ≤ x / u ∧ x / u ≤ b / s :=
  ⟨Nat.le_trans (Nat.div_le_div_left hu2 (by omega)) (Nat.div_le_div_right h1), Nat.le_trans (Nat.div_le_div_right h2) (Nat.div_le_div_left hu1 hs)⟩
/-- quotients of numbers not below 0, by powers of 2 -/
theorem ezdvi {p q : Int × Int} {x y : Int} (h0 : 0 ≤ p.1) (h1 : p.1 ≤ x ∧ x ≤ p.2) (h2 : q.1 ≤ y ∧ y ≤ q.2) : p.1 / ezp2 q.2 ≤ ((x.toNat / 2 ^ y.toNat : Nat) : Int) ∧ ((x.toNat / 2 ^ y.toNat : Nat) : Int) ≤ p.2 / ezp2 q.1 := by
  have a := ezdvn (a := p.1.toNat) (b := p.2.toNat) (x := x.toNat) (s := 2 ^ q.1.toNat) (t := 2 ^ q.2.toNat) (u := 2 ^ y.toNat) (by omega) (by omega) (Nat.pow_pos (by decide)) (Nat.pow_le_pow_right (by decide) (by omega)) (Nat.pow_le_pow_right (by decide) (by omega))
  have e1 : p.1 / ezp2 q.2 = ((p.1.toNat / 2 ^ q.2.toNat : Nat) : Int) := by
    unfold ezp2
    rw [Int.natCast_ediv, Int.toNat_of_nonneg h0]
  have e2 : p.2 / ezp2 q.1 = ((p.2.toNat / 2 ^ q.1.toNat : Nat) : Int) := by
    unfold ezp2
    rw [Int.natCast_ediv, Int.toNat_of_nonneg (by omega)]
  rw [e1, e2]
  exact ⟨Int.ofNat_le.mpr a.1, Int.ofNat_le.mpr a.2⟩
def ezbits (m : Int) : Int := ((2 ^ (Nat.log2 m.toNat + 1) : Nat) : Int) - 1
def ezivI (k : Nat) (p q : Int × Int) : Int × Int :=
  bif Nat.beq k 4 then (bif xle 0 p.1 && (xle 0 q.1 && (xle q.2 30 && xle (p.2 * ezp2 q.2) 2147483647)) then (p.1 * ezp2 q.1, p.2 * ezp2 q.2) else xdef32)
  else bif Nat.beq k 5 then (bif xr32 p && (xle 0 q.1 && xle q.2 31) then (bif xle 0 p.1 then (p.1 / ezp2 q.2, p.2 / ezp2 q.1) else bif xle q.2 q.1 then (p.1 / ezp2 q.1, p.2 / ezp2 q.1) else xdef32) else xdef32)
  else bif Nat.beq k 6 then (bif xr32 p && (xle 0 p.1 && (xle 0 q.1 && xle q.2 31)) then (p.1 / ezp2 q.2, p.2 / ezp2 q.1) else xdef32)
  else bif Nat.beq k 7 then (bif xr32 p && (xr32 q && (xle 0 p.1 && xle 1 q.1)) then (p.1 / q.2, p.2 / q.1) else xdef32)
  else bif Nat.beq k 2 || Nat.beq k 3 then (bif xr32 p && (xr32 q && (xle 0 p.1 && xle 0 q.1)) then (0, ezbits (xmx p.2 q.2)) else xdef32)
  else xivI k p q
theorem ezbits_s {m : Int} {n : Nat} (h : (n : Int) ≤ m) : n < 2 ^ (Nat.log2 m.toNat + 1) := by
  have h1 : n ≤ m.toNat := by omega
  have h2 : m.toNat < 2 ^ (Nat.log2 m.toNat + 1) := Nat.lt_log2_self
  omega
theorem ezI32 {x : Int} (h1 : 0 ≤ x) (h2 : x ≤ 2147483647) : (Int32.ofInt x).toBitVec.toNat = x.toNat := by
  have e : (Int32.ofInt x).toInt = x := y32_id (by omega) (by omega)
  have e2 : (Int32.ofInt x).toInt = (Int32.ofInt x).toBitVec.toInt := rfl
  rw [e2, BitVec.toInt_eq_toNat_cond] at e
  have := (Int32.ofInt x).toBitVec.isLt
  split at e <;> omega
theorem ezivI_s {k : Nat} {p q : Int × Int} {x y : Int} (h1 : p.1 ≤ x ∧ x ≤ p.2) (h2 : q.1 ≤ y ∧ y ≤ q.2) : (ezivI k p q).1 ≤ ycI k x y ∧ ycI k x y ≤ (ezivI k p q).2 := by
  unfold ezivI
  cases k4 : Nat.beq k 4 with
  | true =>
    have e := Nat.eq_of_beq_eq_true k4
    subst e
    simp only [cond_true]
    cases c : xle 0 p.1 && (xle 0 q.1 && (xle q.2 30 && xle (p.2 * ezp2 q.2) 2147483647)) with
    | false => exact xt_32 _
    | true =>
      simp only [Bool.and_eq_true, xle_iff] at c
      obtain ⟨c1, c2, c3, c4⟩ := c
      have hp := ezp2_s (show q.1 ≤ q.2 by omega)
      have hy1 := ezp2_s h2.1
      have hy2 := ezp2_s h2.2
      have m1 : p.1 * ezp2 q.1 ≤ x * ezp2 y := Int.mul_le_mul h1.1 hy1.1 (by omega) (by omega)
      have m2 : x * ezp2 y ≤ p.2 * ezp2 q.2 := Int.mul_le_mul h1.2 hy2.1 (by omega) (by omega)
      have m3 : x * 1 ≤ x * ezp2 y := Int.mul_le_mul_of_nonneg_left (by omega) (by omega)
      have e1 : (((x.toNat * 2 ^ y.toNat : Nat)) : Int) = x * ezp2 y := by
        unfold ezp2
        rw [Int.natCast_mul, Int.toNat_of_nonneg (by omega)]
      have hn : x.toNat * 2 ^ y.toNat < 2 ^ 31 := by omega
      have e2 : ycI 4 x y = ((x.toNat * 2 ^ y.toNat : Nat) : Int) := by
        show (Int32.ofInt x <<< (Int32.ofInt y &&& 31)).toInt = _
        have hs : ((Int32.ofInt y &&& 31).toBitVec.smod 32).toNat = y.toNat := by
          have := ezs31 (k := y.toNat) (by omega)
          rw [Int.toNat_of_nonneg (by omega)] at this
          exact this
        rw [xofn (v := x) (by omega) (by omega), pk_shlN (Int32.ofInt y &&& 31) y.toNat hs (by omega)]
        exact nI_toInt hn
      rw [e2, e1]
      exact ⟨m1, m2⟩
  | false =>
    simp only [cond_false]
    cases k5 : Nat.beq k 5 with
    | true =>
      have e := Nat.eq_of_beq_eq_true k5
      subst e
      simp only [cond_true]
      cases c : xr32 p && (xle 0 q.1 && xle q.2 31) with
      | false => exact xt_32 _
      | true =>
        unfold xr32 at c
        simp only [Bool.and_eq_true, xle_iff] at c
        obtain ⟨⟨c1, c2⟩, c3, c4⟩ := c
        have hs : ((Int32.ofInt y &&& 31).toBitVec.smod 32).toNat = y.toNat := by
          have := ezs31 (k := y.toNat) (by omega)
          rw [Int.toNat_of_nonneg (by omega)] at this
          exact this
        have ex : (Int32.ofInt x).toInt = x := y32_id (by omega) (by omega)
        have e2 : ycI 5 x y = x / ((2 ^ y.toNat : Nat) : Int) := by
          show (Int32.ofInt x >>> (Int32.ofInt y &&& 31)).toInt = _
          rw [pk_shr _ _ _ hs, ex, Int.shiftRight_eq_div_pow]
        simp only [cond_true]
        cases c5 : xle 0 p.1 with
        | true =>
          rw [xle_iff] at c5
          have d := ezdvi c5 h1 h2
          have e3 : x / ((2 ^ y.toNat : Nat) : Int) = ((x.toNat / 2 ^ y.toNat : Nat) : Int) := by
            rw [Int.natCast_ediv, Int.toNat_of_nonneg (by omega)]
          rw [e2, e3]
          exact d
        | false =>
          simp only [cond_false]
          cases c6 : xle q.2 q.1 with
          | false => exact xt_32 _
          | true =>
            rw [xle_iff] at c6
            have ey : q.1 = y := by omega
            rw [e2]
            show p.1 / ezp2 q.1 ≤ _ ∧ _ ≤ p.2 / ezp2 q.1
            rw [ey]
            have hp := (ezp2_s (Int.le_refl y)).2
            exact ⟨Int.ediv_le_ediv hp h1.1, Int.ediv_le_ediv hp h1.2⟩
    | false =>
      simp only [cond_false]
      cases k6 : Nat.beq k 6 with
      | true =>
        have e := Nat.eq_of_beq_eq_true k6
        subst e
        simp only [cond_true]
        cases c : xr32 p && (xle 0 p.1 && (xle 0 q.1 && xle q.2 31)) with
        | false => exact xt_32 _
        | true =>
          unfold xr32 at c
          simp only [Bool.and_eq_true, xle_iff] at c
          obtain ⟨⟨c1, c2⟩, c3, c4, c5⟩ := c
          have hs : (((Int32.ofInt y).toUInt32 &&& Int32.toUInt32 31).toBitVec % 32).toNat = y.toNat := by
            have := ezu31 (k := y.toNat) (by omega)
            rw [Int.toNat_of_nonneg (by omega)] at this
            exact this
          have d := ezdvi c3 h1 h2
          have hd := Nat.div_le_self x.toNat (2 ^ y.toNat)
          have e2 : ycI 6 x y = ((x.toNat / 2 ^ y.toNat : Nat) : Int) := by
            show ((Int32.ofInt x).toUInt32 >>> ((Int32.ofInt y).toUInt32 &&& Int32.toUInt32 31)).toInt32.toInt = _
            rw [xofn (v := x) (by omega) (by omega), pk_ushrN (by omega) (Int32.ofInt y) y.toNat hs]
            exact nI_toInt (by omega)
          rw [e2]
          exact d
      | false =>
       simp only [cond_false]
       cases k7 : Nat.beq k 7 with
       | true =>
         have e := Nat.eq_of_beq_eq_true k7
         subst e
         simp only [cond_true]
         cases c : xr32 p && (xr32 q && (xle 0 p.1 && xle 1 q.1)) with
         | false => exact xt_32 _
         | true =>
           unfold xr32 at c
           simp only [Bool.and_eq_true, xle_iff] at c
           obtain ⟨⟨c1, c2⟩, ⟨c3, c4⟩, c5, c6⟩ := c
           have e7 : ycI 7 x y = ((x.toNat / y.toNat : Nat) : Int) := by
             show (Int32.ofInt x / Int32.ofInt y).toInt = _
             rw [xofn (v := x) (by omega) (by omega), xofn (v := y) (by omega) (by omega), pk_div (by omega) (by omega) (by omega)]
             exact nI_toInt (Nat.lt_of_le_of_lt (Nat.div_le_self _ _) (by omega))
           rw [e7]
           have a1 : p.1.toNat / q.2.toNat ≤ x.toNat / y.toNat := Nat.le_trans (Nat.div_le_div_left (by omega) (by omega)) (Nat.div_le_div_right (by omega))
           have a2 : x.toNat / y.toNat ≤ p.2.toNat / q.1.toNat := Nat.le_trans (Nat.div_le_div_left (by omega) (by omega)) (Nat.div_le_div_right (by omega))
           have d1 : ((p.1.toNat / q.2.toNat : Nat) : Int) = p.1 / q.2 := by
             rw [Int.natCast_ediv, Int.toNat_of_nonneg (by omega), Int.toNat_of_nonneg (by omega)]
           have d2 : ((p.2.toNat / q.1.toNat : Nat) : Int) = p.2 / q.1 := by
             rw [Int.natCast_ediv, Int.toNat_of_nonneg (by omega), Int.toNat_of_nonneg (by omega)]
           show p.1 / q.2 ≤ ((x.toNat / y.toNat : Nat) : Int) ∧ ((x.toNat / y.toNat : Nat) : Int) ≤ p.2 / q.1
           rw [← d1, ← d2]
           exact ⟨Int.ofNat_le.mpr a1, Int.ofNat_le.mpr a2⟩
       | false =>
        simp only [cond_false]
        cases k23 : Nat.beq k 2 || Nat.beq k 3 with
        | false => exact xivI_s h1 h2
        | true =>
          simp only [cond_true]
          cases c : xr32 p && (xr32 q && (xle 0 p.1 && xle 0 q.1)) with
          | false =>
            rw [Bool.or_eq_true] at k23
            rcases k23 with e | e
            · rw [Nat.eq_of_beq_eq_true e]; exact xt_32 _
            · rw [Nat.eq_of_beq_eq_true e]; exact xt_32 _
          | true =>
            unfold xr32 at c
            simp only [Bool.and_eq_true, xle_iff] at c
            obtain ⟨⟨c1, c2⟩, ⟨c3, c4⟩, c5, c6⟩ := c
            have m := xmx_s p.2 q.2
            have bx := ezbits_s (m := xmx p.2 q.2) (n := x.toNat) (by omega)
            have by' := ezbits_s (m := xmx p.2 q.2) (n := y.toNat) (by omega)
            have hx := ezI32 (x := x) (by omega) (by omega)
            have hy := ezI32 (x := y) (by omega) (by omega)
            have fin : ∀ b : BitVec 32, b.toNat < 2 ^ (Nat.log2 (xmx p.2 q.2).toNat + 1) → b.toNat < 2 ^ 31 → 0 ≤ b.toInt ∧ b.toInt ≤ ezbits (xmx p.2 q.2) := by
              intro b h3 h4
              rw [BitVec.toInt_eq_toNat_cond, if_pos (by omega)]
              unfold ezbits
              omega
            have l31x : x.toNat < 2 ^ 31 := by omega
            have l31y : y.toNat < 2 ^ 31 := by omega
            rw [Bool.or_eq_true] at k23
            rcases k23 with e | e
            · rw [Nat.eq_of_beq_eq_true e]
              have eb : (Int32.ofInt x ||| Int32.ofInt y).toBitVec.toNat = x.toNat ||| y.toNat := by
                show ((Int32.ofInt x).toBitVec ||| (Int32.ofInt y).toBitVec).toNat = _
                rw [BitVec.toNat_or, hx, hy]
              exact fin (Int32.ofInt x ||| Int32.ofInt y).toBitVec (by rw [eb]; exact Nat.or_lt_two_pow bx by') (by rw [eb]; exact Nat.or_lt_two_pow l31x l31y)
            · rw [Nat.eq_of_beq_eq_true e]
              have eb : (Int32.ofInt x ^^^ Int32.ofInt y).toBitVec.toNat = x.toNat ^^^ y.toNat := by
                show ((Int32.ofInt x).toBitVec ^^^ (Int32.ofInt y).toBitVec).toNat = _
                rw [BitVec.toNat_xor, hx, hy]
              exact fin (Int32.ofInt x ^^^ Int32.ofInt y).toBitVec (by rw [eb]; exact Nat.xor_lt_two_pow bx by') (by rw [eb]; exact Nat.xor_lt_two_pow l31x l31y)
theorem ezI64 {x : Int} (h1 : 0 ≤ x) (h2 : x ≤ 9223372036854775807) : (Int64.ofInt x).toBitVec.toNat = x.toNat := by
  have e : (Int64.ofInt x).toInt = x := y64_id (by omega) (by omega)
  have e2 : (Int64.ofInt x).toInt = (Int64.ofInt x).toBitVec.toInt := rfl
  rw [e2, BitVec.toInt_eq_toNat_cond] at e
  have := (Int64.ofInt x).toBitVec.isLt
  split at e <;> omega
def ezivJ (k : Nat) (p q : Int × Int) : Int × Int :=
  bif Nat.beq k 1 then (bif xr64 p && (xr64 q && (xle 0 p.1 && xle 0 q.1)) then (0, xmn p.2 q.2) else xdef64)
  else bif Nat.beq k 2 || Nat.beq k 3 then (bif xr64 p && (xr64 q && (xle 0 p.1 && xle 0 q.1)) then (0, ezbits (xmx p.2 q.2)) else xdef64)
  else bif Nat.beq k 7 then (bif xr64 p && (xr64 q && (xle 0 p.1 && xle 1 q.1)) then (0, p.2 / q.1) else xdef64)
  else xivJ k p q
theorem ezivJ_s {k : Nat} {p q : Int × Int} {x y : Int} (h1 : p.1 ≤ x ∧ x ≤ p.2) (h2 : q.1 ≤ y ∧ y ≤ q.2) : (ezivJ k p q).1 ≤ ycJ k x y ∧ ycJ k x y ≤ (ezivJ k p q).2 := by
  unfold ezivJ
  cases k1 : Nat.beq k 1 with
  | true =>
    rw [Nat.eq_of_beq_eq_true k1]
    simp only [cond_true]
    cases c : xr64 p && (xr64 q && (xle 0 p.1 && xle 0 q.1)) with
    | false => exact xt_64 _
    | true =>
      unfold xr64 at c
      simp only [Bool.and_eq_true, xle_iff] at c
      obtain ⟨⟨c1, c2⟩, ⟨c3, c4⟩, c5, c6⟩ := c
      have hx := ezI64 (x := x) (by omega) (by omega)
      have hy := ezI64 (x := y) (by omega) (by omega)
      have eb : (Int64.ofInt x &&& Int64.ofInt y).toBitVec.toNat = x.toNat &&& y.toNat := by
        show ((Int64.ofInt x).toBitVec &&& (Int64.ofInt y).toBitVec).toNat = _
        rw [BitVec.toNat_and, hx, hy]
      have n1 := Nat.and_le_left (n := x.toNat) (m := y.toNat)
      have n2 := Nat.and_le_right (n := x.toNat) (m := y.toNat)
      have m := xmn_s p.2 q.2
      have et : ycJ 1 x y = (Int64.ofInt x &&& Int64.ofInt y).toBitVec.toInt := rfl
      rw [et, BitVec.toInt_eq_toNat_cond, eb, if_pos (by omega)]
      show (0 : Int) ≤ _ ∧ _ ≤ xmn p.2 q.2
      omega
  | false =>
    simp only [cond_false]
    cases k23 : Nat.beq k 2 || Nat.beq k 3 with
    | true =>
      simp only [cond_true]
      cases c : xr64 p && (xr64 q && (xle 0 p.1 && xle 0 q.1)) with
      | false =>
        rw [Bool.or_eq_true] at k23
        rcases k23 with e | e
        · rw [Nat.eq_of_beq_eq_true e]; exact xt_64 _
        · rw [Nat.eq_of_beq_eq_true e]; exact xt_64 _
      | true =>
        unfold xr64 at c
        simp only [Bool.and_eq_true, xle_iff] at c
        obtain ⟨⟨c1, c2⟩, ⟨c3, c4⟩, c5, c6⟩ := c
        have m := xmx_s p.2 q.2
        have bx := ezbits_s (m := xmx p.2 q.2) (n := x.toNat) (by omega)
        have by' := ezbits_s (m := xmx p.2 q.2) (n := y.toNat) (by omega)
        have hx := ezI64 (x := x) (by omega) (by omega)
        have hy := ezI64 (x := y) (by omega) (by omega)
        have fin : ∀ b : BitVec 64, b.toNat < 2 ^ (Nat.log2 (xmx p.2 q.2).toNat + 1) → b.toNat < 2 ^ 63 → 0 ≤ b.toInt ∧ b.toInt ≤ ezbits (xmx p.2 q.2) := by
          intro b h3 h4
          rw [BitVec.toInt_eq_toNat_cond, if_pos (by omega)]
          unfold ezbits
          omega
        have l63x : x.toNat < 2 ^ 63 := by omega
        have l63y : y.toNat < 2 ^ 63 := by omega
        rw [Bool.or_eq_true] at k23
        rcases k23 with e | e
        · rw [Nat.eq_of_beq_eq_true e]
          have eb : (Int64.ofInt x ||| Int64.ofInt y).toBitVec.toNat = x.toNat ||| y.toNat := by
            show ((Int64.ofInt x).toBitVec ||| (Int64.ofInt y).toBitVec).toNat = _
            rw [BitVec.toNat_or, hx, hy]
          exact fin (Int64.ofInt x ||| Int64.ofInt y).toBitVec (by rw [eb]; exact Nat.or_lt_two_pow bx by') (by rw [eb]; exact Nat.or_lt_two_pow l63x l63y)
        · rw [Nat.eq_of_beq_eq_true e]
          have eb : (Int64.ofInt x ^^^ Int64.ofInt y).toBitVec.toNat = x.toNat ^^^ y.toNat := by
            show ((Int64.ofInt x).toBitVec ^^^ (Int64.ofInt y).toBitVec).toNat = _
            rw [BitVec.toNat_xor, hx, hy]
          exact fin (Int64.ofInt x ^^^ Int64.ofInt y).toBitVec (by rw [eb]; exact Nat.xor_lt_two_pow bx by') (by rw [eb]; exact Nat.xor_lt_two_pow l63x l63y)
    | false =>
      simp only [cond_false]
      cases k7 : Nat.beq k 7 with
      | false => exact xivJ_s h1 h2
      | true =>
        rw [Nat.eq_of_beq_eq_true k7]
        simp only [cond_true]
        cases c : xr64 p && (xr64 q && (xle 0 p.1 && xle 1 q.1)) with
        | false => exact xt_64 _
        | true =>
          unfold xr64 at c
          simp only [Bool.and_eq_true, xle_iff] at c
          obtain ⟨⟨c1, c2⟩, ⟨c3, c4⟩, c5, c6⟩ := c
          have e : ycJ 7 x y = ((x.toNat / y.toNat : Nat) : Int) := by
            show (Int64.ofInt x / Int64.ofInt y).toInt = _
            rw [xofl (by omega) (by omega), xofl (by omega) (by omega), pk_lDiv (by omega) (by omega) (by omega)]
            exact pk_lT (Nat.lt_of_le_of_lt (Nat.div_le_self _ _) (by omega))
          rw [e]
          have a : x.toNat / y.toNat ≤ x.toNat / q.1.toNat := Nat.div_le_div_left (by omega) (by omega)
          have b : x.toNat / q.1.toNat ≤ p.2.toNat / q.1.toNat := Nat.div_le_div_right (by omega)
          have d : ((p.2.toNat / q.1.toNat : Nat) : Int) = p.2 / q.1 := by
            rw [Int.natCast_ediv, Int.toNat_of_nonneg (by omega), Int.toNat_of_nonneg (by omega)]
          show (0 : Int) ≤ ((x.toNat / y.toNat : Nat) : Int) ∧ ((x.toNat / y.toNat : Nat) : Int) ≤ p.2 / q.1
          rw [← d]
          exact ⟨Int.natCast_nonneg _, Int.ofNat_le.mpr (Nat.le_trans a b)⟩
/-- a long to the left by 16 -/
theorem ezsh16 {x : Int} (h1 : 0 ≤ x) (h2 : x * 65536 ≤ 9223372036854775807) : ycJI 1 x 16 = x * 65536 := by
  have hx := ezI64 (x := x) h1 (by omega)
  have eb : (Int64.ofInt x <<< ((Int32.ofInt 16).toInt64 &&& 63)).toBitVec.toNat = x.toNat * 65536 := by
    have e1 : (Int64.ofInt x <<< ((Int32.ofInt 16).toInt64 &&& 63)).toBitVec = (Int64.ofInt x).toBitVec <<< (16 : Nat) := by
      rw [Int64.toBitVec_shiftLeft]
      rfl
    rw [e1, BitVec.toNat_shiftLeft, hx, Nat.shiftLeft_eq]
    exact Nat.mod_eq_of_lt (by omega)
  have et : ycJI 1 x 16 = (Int64.ofInt x <<< ((Int32.ofInt 16).toInt64 &&& 63)).toBitVec.toInt := rfl
  rw [et, BitVec.toInt_eq_toNat_cond, eb, if_pos (by omega)]
  omega
def ezivS (k : Nat) (p q : Int × Int) : Int × Int := bif (Nat.beq k 49 && (xle 16 q.1 && xle q.2 16)) && (xle 0 p.1 && xle (p.2 * 65536) 9223372036854775807) then (p.1 * 65536, p.2 * 65536) else xivop k p q
theorem ezivS_s {k : Nat} {p q : Int × Int} {x y : Int} (h1 : p.1 ≤ x ∧ x ≤ p.2) (h2 : q.1 ≤ y ∧ y ≤ q.2) : (ezivS k p q).1 ≤ xop k x y ∧ xop k x y ≤ (ezivS k p q).2 := by
  unfold ezivS
  cases c : (Nat.beq k 49 && (xle 16 q.1 && xle q.2 16)) && (xle 0 p.1 && xle (p.2 * 65536) 9223372036854775807) with
  | false => exact xivop_s h1 h2
  | true =>
    simp only [Bool.and_eq_true, xle_iff] at c
    obtain ⟨⟨c1, c2, c3⟩, c4, c5⟩ := c
    have ek := Nat.eq_of_beq_eq_true c1
    have ey : y = 16 := by omega
    subst ek ey
    have e : xop 49 x 16 = ycJI 1 x 16 := rfl
    rw [e, ezsh16 (by omega) (by omega)]
    simp only [cond_true]
    omega
def ezivop (k : Nat) (p q : Int × Int) : Int × Int := match k / 16 with
  | 1 => ezivI (k % 16) p q
  | 2 => ezivJ (k % 16) p q
  | _ => ezivS k p q
theorem ezivop_s {k : Nat} {p q : Int × Int} {x y : Int} (h1 : p.1 ≤ x ∧ x ≤ p.2) (h2 : q.1 ≤ y ∧ y ≤ q.2) : (ezivop k p q).1 ≤ xop k x y ∧ xop k x y ≤ (ezivop k p q).2 := by
  unfold ezivop
  split
  · rename_i e
    have : xop k x y = ycI (k % 16) x y := by
      unfold xop
      rw [e]
      rfl
    rw [this]
    exact ezivI_s h1 h2
  · rename_i e
    have : xop k x y = ycJ (k % 16) x y := by
      unfold xop
      rw [e]
      rfl
    rw [this]
    exact ezivJ_s h1 h2
  · exact ezivS_s h1 h2
end EZ01
