section YT2
theorem xHc {r : Nat → Int} {F : xF} {e : xjE} {lo hi : Int} (h : xH r F) (h1 : lo ≤ xden r e) (h2 : xden r e ≤ hi) : xH r ((e, lo, hi) :: F) := ⟨h.1, fun q hq => (List.mem_cons.mp hq).elim (fun z => by rw [z]; exact ⟨h1, h2⟩) (h.2 q)⟩
abbrev xLf := List (xjE × Int) × Int
def xlins (e : xjE) (c : Int) : List (xjE × Int) → List (xjE × Int)
  | [] => [(e, c)]
  | q :: l => bif xeq q.1 e then (q.1, q.2 + c) :: l else q :: xlins e c l
def xlnf (c : Int) : xjE → xLf → xLf
  | .num k, a => (a.1, a.2 + c * k)
  | .neg x, a => xlnf (-c) x a
  | .add x y, a => xlnf c y (xlnf c x a)
  | .sub x y, a => xlnf (-c) y (xlnf c x a)
  | .mul x y, a => (match x with
    | .num k => xlnf (c * k) y a
    | x => (match y with
      | .num k => xlnf (c * k) x a
      | y => (xlins (.mul x y) c a.1, a.2)))
  | e, a => (xlins e c a.1, a.2)
def xls1 (r : Nat → Int) : List (xjE × Int) → Int
  | [] => 0
  | q :: l => q.2 * xden r q.1 + xls1 r l
def xls (r : Nat → Int) (a : xLf) : Int := xls1 r a.1 + a.2
theorem xlins_s {r : Nat → Int} (e : xjE) (c : Int) : ∀ l, xls1 r (xlins e c l) = c * xden r e + xls1 r l := by
  intro l
  induction l with
  | nil => rfl
  | cons q l ih =>
    show xls1 r (bif xeq q.1 e then (q.1, q.2 + c) :: l else q :: xlins e c l) = c * xden r e + (q.2 * xden r q.1 + xls1 r l)
    cases h : xeq q.1 e with
    | true =>
      have e1 := xeq_s h
      show (q.2 + c) * xden r q.1 + xls1 r l = _
      rw [e1, Int.add_mul]
      omega
    | false =>
      show q.2 * xden r q.1 + xls1 r (xlins e c l) = _
      rw [ih]
      omega
theorem xlnf_s {r : Nat → Int} : ∀ (e : xjE) (c : Int) (a : xLf), xls r (xlnf c e a) = c * xden r e + xls r a := by
  have gen : ∀ (e : xjE) (c : Int) (a : xLf), xls r (xlins e c a.1, a.2) = c * xden r e + xls r a := by
    intro e c a
    show xls1 r (xlins e c a.1) + a.2 = c * xden r e + (xls1 r a.1 + a.2)
    rw [xlins_s]
    omega
  intro e
  induction e with
  | num k =>
    intro c a
    show xls1 r a.1 + (a.2 + c * k) = c * k + (xls1 r a.1 + a.2)
    omega
  | neg x ih =>
    intro c a
    show xls r (xlnf (-c) x a) = c * (- xden r x) + xls r a
    rw [ih, Int.neg_mul, Int.mul_neg]
  | add x y ihx ihy =>
    intro c a
    show xls r (xlnf c y (xlnf c x a)) = c * (xden r x + xden r y) + xls r a
    rw [ihy, ihx, Int.mul_add]
    omega
  | sub x y ihx ihy =>
    intro c a
    show xls r (xlnf (-c) y (xlnf c x a)) = c * (xden r x - xden r y) + xls r a
    rw [ihy, ihx, Int.mul_sub, Int.neg_mul]
    omega
  | mul x y ihx ihy =>
    intro c a
    unfold xlnf
    split
    · rename_i k
      rw [ihy]
      show c * k * xden r y + xls r a = c * (k * xden r y) + xls r a
      rw [Int.mul_assoc]
    · split
      · rename_i k
        rw [ihx]
        show c * k * xden r x + xls r a = c * (xden r x * k) + xls r a
        rw [Int.mul_assoc, Int.mul_comm k]
      · exact gen _ c a
  | var i => intro c a; exact gen _ c a
  | natCast k => intro c a; exact gen _ c a
  | intCast k => intro c a; exact gen _ c a
  | pow x k ih => intro c a; exact gen _ c a
def xlv1 (F : xF) : List (xjE × Int) → Int × Int
  | [] => (0, 0)
  | q :: l => bif decide (q.2 = 0) then xlv1 F l else ((xmuli (q.2, q.2) (xiv F q.1)).1 + (xlv1 F l).1, (xmuli (q.2, q.2) (xiv F q.1)).2 + (xlv1 F l).2)
theorem xlv1_s {r : Nat → Int} {F : xF} (H : xH r F) : ∀ l, (xlv1 F l).1 ≤ xls1 r l ∧ xls1 r l ≤ (xlv1 F l).2 := by
  intro l
  induction l with
  | nil => exact ⟨Int.le_refl _, Int.le_refl _⟩
  | cons q l ih =>
    have a := xmuli_s (p := (q.2, q.2)) (q := xiv F q.1) (x := q.2) (y := xden r q.1) ⟨Int.le_refl _, Int.le_refl _⟩ (xiv_s H q.1)
    unfold xlv1
    show _ ≤ q.2 * xden r q.1 + xls1 r l ∧ q.2 * xden r q.1 + xls1 r l ≤ _
    cases h : decide (q.2 = 0) with
    | true =>
      have e := of_decide_eq_true h
      rw [e, Int.zero_mul, Int.zero_add]
      exact ih
    | false =>
      simp only [cond_false]
      omega
/-- a term is known to lie not below, not above, between -/
def xblo (F : xF) (e : xjE) (lo : Int) : Bool := xle lo (xiv F e).1 || (xle lo ((xlv1 F (xlnf 1 e ([], 0)).1).1 + (xlnf 1 e ([], 0)).2) ||
  F.any (fun q => xle lo (q.2.1 + ((xlv1 F (xlnf (-1) q.1 (xlnf 1 e ([], 0))).1).1 + (xlnf (-1) q.1 (xlnf 1 e ([], 0))).2)) || xle lo ((xlv1 F (xlnf 1 q.1 (xlnf 1 e ([], 0))).1).1 + (xlnf 1 q.1 (xlnf 1 e ([], 0))).2 - q.2.2)))
def xbhi (F : xF) (e : xjE) (hi : Int) : Bool := xle (xiv F e).2 hi || (xle ((xlv1 F (xlnf 1 e ([], 0)).1).2 + (xlnf 1 e ([], 0)).2) hi ||
  F.any (fun q => xle (q.2.2 + ((xlv1 F (xlnf (-1) q.1 (xlnf 1 e ([], 0))).1).2 + (xlnf (-1) q.1 (xlnf 1 e ([], 0))).2)) hi || xle ((xlv1 F (xlnf 1 q.1 (xlnf 1 e ([], 0))).1).2 + (xlnf 1 q.1 (xlnf 1 e ([], 0))).2 - q.2.1) hi))
def xbd (F : xF) (e : xjE) (lo hi : Int) : Bool := xblo F e lo && xbhi F e hi
theorem xbd_s {r : Nat → Int} {F : xF} (H : xH r F) {e : xjE} {lo hi : Int} (h : xbd F e lo hi = true) : lo ≤ xden r e ∧ xden r e ≤ hi := by
  unfold xbd at h
  rw [Bool.and_eq_true] at h
  obtain ⟨hl, hh⟩ := h
  have e0 : xls r (([], 0) : xLf) = 0 := rfl
  have e1 : xls r (xlnf 1 e ([], 0)) = xden r e := by rw [xlnf_s, e0]; omega
  have e2 : xls1 r (xlnf 1 e ([], 0)).1 + (xlnf 1 e ([], 0)).2 = xden r e := e1
  have i1 := xiv_s H e
  have i2 := xlv1_s H (xlnf 1 e ([], 0)).1
  have i3 : ∀ q : xjE × Int × Int, (xlv1 F (xlnf (-1) q.1 (xlnf 1 e ([], 0))).1).1 + (xlnf (-1) q.1 (xlnf 1 e ([], 0))).2 ≤ xden r e - xden r q.1 ∧ xden r e - xden r q.1 ≤ (xlv1 F (xlnf (-1) q.1 (xlnf 1 e ([], 0))).1).2 + (xlnf (-1) q.1 (xlnf 1 e ([], 0))).2 := by
    intro q
    have a := xlv1_s H (xlnf (-1) q.1 (xlnf 1 e ([], 0))).1
    have c : xls r (xlnf (-1) q.1 (xlnf 1 e ([], 0))) = xden r e - xden r q.1 := by rw [xlnf_s, e1]; omega
    have c : xls1 r (xlnf (-1) q.1 (xlnf 1 e ([], 0))).1 + (xlnf (-1) q.1 (xlnf 1 e ([], 0))).2 = xden r e - xden r q.1 := c
    omega
  have i4 : ∀ q : xjE × Int × Int, (xlv1 F (xlnf 1 q.1 (xlnf 1 e ([], 0))).1).1 + (xlnf 1 q.1 (xlnf 1 e ([], 0))).2 ≤ xden r e + xden r q.1 ∧ xden r e + xden r q.1 ≤ (xlv1 F (xlnf 1 q.1 (xlnf 1 e ([], 0))).1).2 + (xlnf 1 q.1 (xlnf 1 e ([], 0))).2 := by
    intro q
    have a := xlv1_s H (xlnf 1 q.1 (xlnf 1 e ([], 0))).1
    have c : xls r (xlnf 1 q.1 (xlnf 1 e ([], 0))) = xden r e + xden r q.1 := by rw [xlnf_s, e1]; omega
    have c : xls1 r (xlnf 1 q.1 (xlnf 1 e ([], 0))).1 + (xlnf 1 q.1 (xlnf 1 e ([], 0))).2 = xden r e + xden r q.1 := c
    omega
  constructor
  · unfold xblo at hl
    rw [Bool.or_eq_true, Bool.or_eq_true, xle_iff, xle_iff] at hl
    rcases hl with h | h | h
    · omega
    · omega
    · obtain ⟨q, hq, h1⟩ := List.any_eq_true.mp h
      have hb := H.2 q hq
      rw [Bool.or_eq_true, xle_iff, xle_iff] at h1
      have := i3 q
      have := i4 q
      omega
  · unfold xbhi at hh
    rw [Bool.or_eq_true, Bool.or_eq_true, xle_iff, xle_iff] at hh
    rcases hh with h | h | h
    · omega
    · omega
    · obtain ⟨q, hq, h1⟩ := List.any_eq_true.mp h
      have hb := H.2 q hq
      rw [Bool.or_eq_true, xle_iff, xle_iff] at h1
      have := i3 q
      have := i4 q
      omega
/-- facts that don't go together -/
def xctra (F : xF) : Bool := F.any (fun q => match q.1 with
  | .var i => xle ((xiv F (.var i)).2 + 1) q.2.1 || xle (q.2.2 + 1) (xiv F (.var i)).1
  | e => xle ((xlv1 F (xlnf 1 e ([], 0)).1).2 + (xlnf 1 e ([], 0)).2 + 1) q.2.1 || xle (q.2.2 + 1) ((xlv1 F (xlnf 1 e ([], 0)).1).1 + (xlnf 1 e ([], 0)).2))
theorem xctra_s {r : Nat → Int} {F : xF} (H : xH r F) : xctra F = false := by
  cases h : xctra F with
  | false => rfl
  | true =>
    unfold xctra at h
    obtain ⟨q, hq, h1⟩ := List.any_eq_true.mp h
    have hb := H.2 q hq
    split at h1
    · rename_i i e
      rw [e] at hb
      have := xiv_s H (.var i)
      rw [Bool.or_eq_true, xle_iff, xle_iff] at h1
      omega
    · have := xlv1_s H (xlnf 1 q.1 ([], 0)).1
      have e0 : xls r (([], 0) : xLf) = 0 := rfl
      have e1 : xls r (xlnf 1 q.1 ([], 0)) = xden r q.1 := by rw [xlnf_s, e0]; omega
      have e2 : xls1 r (xlnf 1 q.1 ([], 0)).1 + (xlnf 1 q.1 ([], 0)).2 = xden r q.1 := e1
      rw [Bool.or_eq_true, xle_iff, xle_iff] at h1
      omega
/-- a term of which one value alone is left is that number -/
def xcon (F : xF) (e : xjE) : xjE := match e with
  | .num v => .num v
  | e => bif decide ((xiv F e).1 = (xiv F e).2) then .num (xiv F e).1 else e
theorem xcon_s {r : Nat → Int} {F : xF} (H : xH r F) (e : xjE) : xden r (xcon F e) = xden r e := by
  unfold xcon
  split
  · rfl
  · cases h : decide ((xiv F e).1 = (xiv F e).2) with
    | true =>
      have h1 := of_decide_eq_true h
      have h2 := xiv_s H e
      show (xiv F e).1 = xden r e
      omega
    | false => rfl
/-- a term and a number together, exactly -/
def xlinc (a : xjE) (k : Int) : xjE := match a with
  | .num x => .num (x + k)
  | .add a2 (.num x) => bif decide (x + k = 0) then a2 else .add a2 (.num (x + k))
  | a => bif decide (k = 0) then a else .add a (.num k)
theorem xlinc_s (r : Nat → Int) (a : xjE) (k : Int) : xden r (xlinc a k) = xden r a + k := by
  unfold xlinc
  split
  · rfl
  · rename_i a2 x
    show xden r (bif decide (x + k = 0) then a2 else .add a2 (.num (x + k))) = xden r a2 + x + k
    cases h : decide (x + k = 0) with
    | true =>
      have := of_decide_eq_true h
      show xden r a2 = _
      omega
    | false => show xden r a2 + (x + k) = _; omega
  · cases h : decide (k = 0) with
    | true =>
      have := of_decide_eq_true h
      show xden r a = _
      omega
    | false => rfl
def xlin (a b : xjE) : xjE := match b with
  | .num k => xlinc a k
  | b => (match a with
    | .num k => xlinc b k
    | a => .add a b)
theorem xlin_s (r : Nat → Int) (a b : xjE) : xden r (xlin a b) = xden r a + xden r b := by
  unfold xlin
  split
  · exact xlinc_s r a _
  · split
    · rw [xlinc_s]; show _ = _ + xden r b; rw [Int.add_comm]; rfl
    · rfl
theorem xr32_s {p : Int × Int} {x : Int} (h : xr32 p = true) (h1 : p.1 ≤ x ∧ x ≤ p.2) : xw x = x := by
  unfold xr32 at h
  rw [Bool.and_eq_true, xle_iff, xle_iff] at h
  rw [xw_s]
  exact y32_id (by omega) (by omega)
def xin32 (F : xF) (a : xjE) : Bool := xr32 (xiv F a)
theorem xin32_s {r : Nat → Int} {F : xF} {a : xjE} (h : xH r F) (h1 : xin32 F a = true) : y32 (xden r a) = xden r a := by rw [← xw_s]; exact xr32_s h1 (xiv_s h a)
def xadd (F : xF) (a b : xjE) : xjE := match a, b with
  | .num x, .num y => .num (xw (x + y))
  | a, b => bif xr32 ((xiv F a).1 + (xiv F b).1, (xiv F a).2 + (xiv F b).2) then xlin a b else .pow (.add a b) 0
theorem xadd_s {r : Nat → Int} {F : xF} (h : xH r F) (a b : xjE) : xden r (xadd F a b) = y32 (xden r a + xden r b) := by
  rw [← xw_s]
  unfold xadd
  split
  · rfl
  · cases h1 : xr32 ((xiv F a).1 + (xiv F b).1, (xiv F a).2 + (xiv F b).2) with
    | true =>
      have p := xiv_s h a
      have q := xiv_s h b
      rw [xr32_s h1 (show (xiv F a).1 + (xiv F b).1 ≤ xden r a + xden r b ∧ xden r a + xden r b ≤ (xiv F a).2 + (xiv F b).2 by omega)]
      exact xlin_s r a b
    | false => rfl
def xsub (F : xF) (a b : xjE) : xjE := match a, b with
  | .num x, .num y => .num (xw (x - y))
  | a, b => bif xr32 ((xiv F a).1 - (xiv F b).2, (xiv F a).2 - (xiv F b).1) then (match b with
    | .num y => xlinc a (-y)
    | b => bif xeq a b then .num 0 else .sub a b) else .pow (.add a b) 1
theorem xsub_s {r : Nat → Int} {F : xF} (h : xH r F) (a b : xjE) : xden r (xsub F a b) = y32 (xden r a - xden r b) := by
  rw [← xw_s]
  unfold xsub
  split
  · rfl
  · cases h1 : xr32 ((xiv F a).1 - (xiv F b).2, (xiv F a).2 - (xiv F b).1) with
    | true =>
      have p := xiv_s h a
      have q := xiv_s h b
      rw [xr32_s h1 (show (xiv F a).1 - (xiv F b).2 ≤ xden r a - xden r b ∧ xden r a - xden r b ≤ (xiv F a).2 - (xiv F b).1 by omega)]
      simp only [cond_true]
      split
      · rw [xlinc_s]; rfl
      · cases h2 : xeq a b with
        | true =>
          rw [xeq_s h2]
          show (0 : Int) = _
          omega
        | false => rfl
    | false => rfl
def xmul (F : xF) (a b : xjE) : xjE := match a, b with
  | .num x, .num y => .num (xw (x * y))
  | a, b => bif xr32 (xmuli (xiv F a) (xiv F b)) then .mul a b else .pow (.add a b) 2
theorem xmul_s {r : Nat → Int} {F : xF} (h : xH r F) (a b : xjE) : xden r (xmul F a b) = y32 (xden r a * xden r b) := by
  rw [← xw_s]
  unfold xmul
  split
  · rfl
  · cases h1 : xr32 (xmuli (xiv F a) (xiv F b)) with
    | true =>
      rw [xr32_s h1 (xmuli_s (xiv_s h a) (xiv_s h b))]
      rfl
    | false => rfl
def xbin (k : Nat) (a b : xjE) : xjE := match a, b with
  | .num x, .num y => .num (xop k x y)
  | a, b => .pow (.add a b) k
theorem xbin_s (r : Nat → Int) (k : Nat) (a b : xjE) : xden r (xbin k a b) = xop k (xden r a) (xden r b) := by
  unfold xbin
  split <;> rfl
def xun (k : Nat) (a : xjE) : xjE := match a with
  | .num x => .num (xop1 k x)
  | a => .pow (.neg a) k
theorem xun_s (r : Nat → Int) (k : Nat) (a : xjE) : xden r (xun k a) = xop1 k (xden r a) := by
  unfold xun
  split <;> rfl
/-- longs together, exactly where they fit -/
def xladd (F : xF) (a b : xjE) : xjE := match a, b with
  | .num x, .num y => .num (xop 36 x y)
  | a, b => bif xr64 ((xiv F a).1 + (xiv F b).1, (xiv F a).2 + (xiv F b).2) then xlin a b else .pow (.add a b) 36
theorem xladd_s {r : Nat → Int} {F : xF} (h : xH r F) (a b : xjE) : xden r (xladd F a b) = ycJ 4 (xden r a) (xden r b) := by
  unfold xladd
  split
  · rfl
  · cases h1 : xr64 ((xiv F a).1 + (xiv F b).1, (xiv F a).2 + (xiv F b).2) with
    | true =>
      unfold xr64 at h1
      rw [Bool.and_eq_true, xle_iff, xle_iff] at h1
      have h1 : -9223372036854775808 ≤ (xiv F a).1 + (xiv F b).1 ∧ (xiv F a).2 + (xiv F b).2 ≤ 9223372036854775807 := h1
      have p := xiv_s h a
      have q := xiv_s h b
      have e : ycJ 4 (xden r a) (xden r b) = y64 (xden r a + xden r b) := by
        show (Int64.ofInt (xden r a) + Int64.ofInt (xden r b)).toInt = (Int64.ofInt (xden r a + xden r b)).toInt
        rw [Int64.ofInt_add]
      rw [e, y64_id (by omega) (by omega)]
      exact xlin_s r a b
    | false => rfl
def xlsub (F : xF) (a b : xjE) : xjE := match a, b with
  | .num x, .num y => .num (xop 37 x y)
  | a, b => bif xr64 ((xiv F a).1 - (xiv F b).2, (xiv F a).2 - (xiv F b).1) then .sub a b else .pow (.add a b) 37
theorem xlsub_s {r : Nat → Int} {F : xF} (h : xH r F) (a b : xjE) : xden r (xlsub F a b) = ycJ 5 (xden r a) (xden r b) := by
  unfold xlsub
  split
  · rfl
  · cases h1 : xr64 ((xiv F a).1 - (xiv F b).2, (xiv F a).2 - (xiv F b).1) with
    | true =>
      unfold xr64 at h1
      rw [Bool.and_eq_true, xle_iff, xle_iff] at h1
      have h1 : -9223372036854775808 ≤ (xiv F a).1 - (xiv F b).2 ∧ (xiv F a).2 - (xiv F b).1 ≤ 9223372036854775807 := h1
      have p := xiv_s h a
      have q := xiv_s h b
      have e : ycJ 5 (xden r a) (xden r b) = y64 (xden r a - xden r b) := by
        show (Int64.ofInt (xden r a) - Int64.ofInt (xden r b)).toInt = (Int64.ofInt (xden r a - xden r b)).toInt
        rw [Int64.ofInt_sub]
      rw [e, y64_id (by omega) (by omega)]
      rfl
    | false => rfl
/-- the greater, the smaller -/
def xmaxs (F : xF) (a b : xjE) : xjE := bif xle (xiv F a).2 (xiv F b).1 then b else bif xle (xiv F b).2 (xiv F a).1 then a else xbin 80 a b
theorem xmaxs_s {r : Nat → Int} {F : xF} (h : xH r F) (a b : xjE) : xden r (xmaxs F a b) = xop 80 (xden r a) (xden r b) := by
  have p := xiv_s h a
  have q := xiv_s h b
  have e : xop 80 (xden r a) (xden r b) = bif xle (xden r a) (xden r b) then xden r b else xden r a := rfl
  unfold xmaxs
  cases h1 : xle (xiv F a).2 (xiv F b).1 with
  | true =>
    rw [xle_iff] at h1
    have h3 : xle (xden r a) (xden r b) = true := xle_iff.mpr (by omega)
    rw [e, h3]; rfl
  | false =>
    simp only [cond_false]
    cases h2 : xle (xiv F b).2 (xiv F a).1 with
    | true =>
      rw [xle_iff] at h2
      rw [e]
      cases h3 : xle (xden r a) (xden r b) with
      | true => rw [xle_iff] at h3; show xden r a = xden r b; omega
      | false => rfl
    | false => exact xbin_s r 80 a b
def xmins (F : xF) (a b : xjE) : xjE := bif xle (xiv F a).2 (xiv F b).1 then a else bif xle (xiv F b).2 (xiv F a).1 then b else xbin 96 a b
theorem xmins_s {r : Nat → Int} {F : xF} (h : xH r F) (a b : xjE) : xden r (xmins F a b) = xop 96 (xden r a) (xden r b) := by
  have p := xiv_s h a
  have q := xiv_s h b
  have e : xop 96 (xden r a) (xden r b) = bif xle (xden r a) (xden r b) then xden r a else xden r b := rfl
  unfold xmins
  cases h1 : xle (xiv F a).2 (xiv F b).1 with
  | true =>
    rw [xle_iff] at h1
    have h3 : xle (xden r a) (xden r b) = true := xle_iff.mpr (by omega)
    rw [e, h3]; rfl
  | false =>
    simp only [cond_false]
    cases h2 : xle (xiv F b).2 (xiv F a).1 with
    | true =>
      rw [xle_iff] at h2
      rw [e]
      cases h3 : xle (xden r a) (xden r b) with
      | true => rw [xle_iff] at h3; show xden r b = xden r a; omega
      | false => rfl
    | false => exact xbin_s r 96 a b
/-- a term brought to 32 bits, if it isn't there -/
def xto32 (F : xF) (a : xjE) : xjE := bif xin32 F a then a else xun 1 a
theorem xto32_s {r : Nat → Int} {F : xF} (h : xH r F) (a : xjE) : xden r (xto32 F a) = y32 (xden r a) := by
  unfold xto32
  cases h1 : xin32 F a with
  | true => exact (xin32_s h h1).symm
  | false => show xden r (xun 1 a) = _; rw [xun_s]; exact xw_s _
/-- ends of a test: is it below c -/
def xlt (F : xF) (e : xjE) (c : Int) : List (Bool × xF) :=
  bif xle (xiv F e).2 (c - 1) then [(true, F)] else bif xle c (xiv F e).1 then [(false, F)] else [(true, (e, (xiv F e).1, c - 1) :: F), (false, (e, c, (xiv F e).2) :: F)]
theorem xlt_s {r : Nat → Int} {F : xF} (h : xH r F) (e : xjE) (c : Int) : ∃ q ∈ xlt F e c, xH r q.2 ∧ (q.1 = true ↔ xden r e < c) := by
  have h2 := xiv_s h e
  unfold xlt
  cases h3 : xle (xiv F e).2 (c - 1) with
  | true =>
    rw [xle_iff] at h3
    exact ⟨_, List.mem_singleton.mpr rfl, h, ⟨fun _ => by omega, fun _ => rfl⟩⟩
  | false =>
    cases h4 : xle c (xiv F e).1 with
    | true =>
      rw [xle_iff] at h4
      exact ⟨_, List.mem_singleton.mpr rfl, h, ⟨fun z => absurd z (by simp), fun _ => by omega⟩⟩
    | false =>
      by_cases h5 : xden r e < c
      · exact ⟨_, List.mem_cons_self, xHc h h2.1 (by omega), ⟨fun _ => h5, fun _ => rfl⟩⟩
      · exact ⟨_, List.mem_cons_of_mem _ (List.mem_singleton.mpr rfl), xHc h (by omega) h2.2, ⟨fun z => absurd z (by simp), fun z => absurd z h5⟩⟩
/-- ends of a test: is it c -/
def xis (F : xF) (e : xjE) (c : Int) : List (Bool × xF) :=
  bif xle (xiv F e).2 (c - 1) || xle (c + 1) (xiv F e).1 then [(false, F)] else bif xle (xiv F e).2 c && xle c (xiv F e).1 then [(true, F)] else
    (true, (e, c, c) :: F) :: ((bif xle (xiv F e).2 c then [] else [(false, (e, c + 1, (xiv F e).2) :: F)]) ++ (bif xle c (xiv F e).1 then [] else [(false, (e, (xiv F e).1, c - 1) :: F)]))
theorem xis_s {r : Nat → Int} {F : xF} (h : xH r F) (e : xjE) (c : Int) : ∃ q ∈ xis F e c, xH r q.2 ∧ (q.1 = true ↔ xden r e = c) := by
  have h2 := xiv_s h e
  unfold xis
  cases h3 : xle (xiv F e).2 (c - 1) || xle (c + 1) (xiv F e).1 with
  | true =>
    rw [Bool.or_eq_true, xle_iff, xle_iff] at h3
    exact ⟨_, List.mem_singleton.mpr rfl, h, ⟨fun z => absurd z (by simp), fun _ => by omega⟩⟩
  | false =>
    cases h4 : xle (xiv F e).2 c && xle c (xiv F e).1 with
    | true =>
      rw [Bool.and_eq_true, xle_iff, xle_iff] at h4
      exact ⟨_, List.mem_singleton.mpr rfl, h, ⟨fun _ => by omega, fun _ => rfl⟩⟩
    | false =>
      simp only [cond_false]
      by_cases h5 : xden r e = c
      · exact ⟨_, List.mem_cons_self, xHc h (by omega) (by omega), ⟨fun _ => h5, fun _ => rfl⟩⟩
      · by_cases h6 : c < xden r e
        · have h7 : xle (xiv F e).2 c = false := by
            cases h8 : xle (xiv F e).2 c with
            | false => rfl
            | true => rw [xle_iff] at h8; omega
          rw [h7]
          exact ⟨_, List.mem_cons_of_mem _ (List.mem_append_left _ (List.mem_singleton.mpr rfl)), xHc h (by omega) h2.2, ⟨fun z => absurd z (by simp), fun z => absurd z h5⟩⟩
        · have h7 : xle c (xiv F e).1 = false := by
            cases h8 : xle c (xiv F e).1 with
            | false => rfl
            | true => rw [xle_iff] at h8; omega
          rw [h7]
          exact ⟨_, List.mem_cons_of_mem _ (List.mem_append_right _ (List.mem_singleton.mpr rfl)), xHc h h2.1 (by omega), ⟨fun z => absurd z (by simp), fun z => absurd z h5⟩⟩
def xnot (l : List (Bool × xF)) : List (Bool × xF) := l.map fun q => (!q.1, q.2)
theorem xnot_s {r : Nat → Int} {l : List (Bool × xF)} {P : Prop} (h : ∃ q ∈ l, xH r q.2 ∧ (q.1 = true ↔ P)) : ∃ q ∈ xnot l, xH r q.2 ∧ (q.1 = true ↔ ¬ P) := by
  obtain ⟨q, h1, h2, h3⟩ := h
  refine ⟨_, List.mem_map.mpr ⟨q, h1, rfl⟩, h2, ?_⟩
  show (!q.1) = true ↔ ¬ P
  rw [← h3]
  cases q.1 <;> simp
theorem xcg {r : Nat → Int} {l : List (Bool × xF)} {P P' : Prop} (h : ∃ q ∈ l, xH r q.2 ∧ (q.1 = true ↔ P)) (hp : P ↔ P') : ∃ q ∈ l, xH r q.2 ∧ (q.1 = true ↔ P') := by
  obtain ⟨q, h1, h2, h3⟩ := h
  exact ⟨q, h1, h2, h3.trans hp⟩
/-- a term with a number taken off: the test moves along -/
def xpe : xjE → Int → xjE × Int
  | .add a (.num x), c => (a, c - x)
  | a, c => (a, c)
theorem xpe_s (r : Nat → Int) (e : xjE) (c : Int) : xden r e - c = xden r (xpe e c).1 - (xpe e c).2 := by
  unfold xpe
  split
  · rename_i a x
    show xden r a + x - c = xden r a - (c - x)
    omega
  · rfl
/-- ends of a comparison with a number -/
def xtn (F : xF) (c : ClassFile.Cond) (a : xjE) (k : Int) : List (Bool × xF) := match c with
  | .eq => xis F (xpe a k).1 (xpe a k).2
  | .ne => xnot (xis F (xpe a k).1 (xpe a k).2)
  | .lt => xlt F (xpe a k).1 (xpe a k).2
  | .ge => xnot (xlt F (xpe a k).1 (xpe a k).2)
  | .gt => xnot (xlt F (xpe a k).1 ((xpe a k).2 + 1))
  | .le => xlt F (xpe a k).1 ((xpe a k).2 + 1)
theorem xtn_s {r : Nat → Int} {F : xF} (h : xH r F) (c : ClassFile.Cond) (a : xjE) (k : Int) : ∃ q ∈ xtn F c a k, xH r q.2 ∧ (q.1 = true ↔ yccd c (xden r a) k = true) := by
  have e := xpe_s r a k
  cases c with
  | eq => exact xcg (xis_s h _ _) (by show _ ↔ decide _ = true; rw [decide_eq_true_iff]; omega)
  | ne => exact xcg (xnot_s (xis_s h _ _)) (by show _ ↔ decide _ = true; rw [decide_eq_true_iff]; omega)
  | lt => exact xcg (xlt_s h _ _) (by show _ ↔ decide _ = true; rw [decide_eq_true_iff]; omega)
  | ge => exact xcg (xnot_s (xlt_s h _ _)) (by show _ ↔ decide _ = true; rw [decide_eq_true_iff]; omega)
  | gt => exact xcg (xnot_s (xlt_s h _ _)) (by show _ ↔ decide _ = true; rw [decide_eq_true_iff]; omega)
  | le => exact xcg (xlt_s h _ _) (by show _ ↔ decide _ = true; rw [decide_eq_true_iff]; omega)
/-- the comparison the other way round -/
def xflip : ClassFile.Cond → ClassFile.Cond
  | .eq => .eq
  | .ne => .ne
  | .lt => .gt
  | .ge => .le
  | .gt => .lt
  | .le => .ge
theorem xflip_s (c : ClassFile.Cond) (x y : Int) : yccd (xflip c) y x = yccd c x y := by
  cases c <;> simp only [xflip, yccd, eq_comm, ne_eq]
theorem xcd0 (c : ClassFile.Cond) (x y : Int) : yccd c (x - y) 0 = yccd c x y := by
  cases c <;> (show decide _ = decide _; rw [decide_eq_decide]; omega)
/-- the same difference, the same comparison -/
theorem xcds (c : ClassFile.Cond) {u v x y : Int} (h : u - v = x - y) : yccd c u v = yccd c x y := by rw [← xcd0 c u v, ← xcd0 c x y, h]
def xkey : xjE → Nat
  | .num _ => 0
  | .natCast _ => 0
  | .intCast _ => 0
  | .var i => i + 1
  | .neg a => xkey a
  | .add a b => xkey a + xkey b
  | .sub a b => xkey a + xkey b
  | .mul a b => xkey a + xkey b
  | .pow a _ => (match a with
    | .add b c => xkey b + xkey c
    | .neg b => xkey b
    | .sub _ c => xkey c
    | _ => 0)
def xtxy (F : xF) (c : ClassFile.Cond) (x y : xjE) (d : Int) : List (Bool × xF) := bif Nat.ble (xkey x) (xkey y) then xtn F c (.sub x y) (-d) else xtn F (xflip c) (.sub y x) d
theorem xtxy_s {r : Nat → Int} {F : xF} (h : xH r F) (c : ClassFile.Cond) (x y : xjE) (d u v : Int) (e : u - v = xden r x - xden r y + d) : ∃ q ∈ xtxy F c x y d, xH r q.2 ∧ (q.1 = true ↔ yccd c u v = true) := by
  unfold xtxy
  cases Nat.ble (xkey x) (xkey y) with
  | true => exact xcg (xtn_s h c _ _) (by
      show yccd c (xden r x - xden r y) (-d) = true ↔ _
      rw [xcds c (x := u) (y := v) (show (xden r x - xden r y) - (-d) = u - v by omega)])
  | false => exact xcg (xtn_s h (xflip c) _ _) (by
      show yccd (xflip c) (xden r y - xden r x) d = true ↔ _
      rw [xflip_s, xcds c (x := u) (y := v) (show d - (xden r y - xden r x) = u - v by omega)])
def xfz : List (xjE × Int) → List (xjE × Int)
  | [] => []
  | q :: l => bif decide (q.2 = 0) then xfz l else q :: xfz l
theorem xfz_s {r : Nat → Int} : ∀ l, xls1 r (xfz l) = xls1 r l := by
  intro l
  induction l with
  | nil => rfl
  | cons q l ih =>
    show xls1 r (bif decide (q.2 = 0) then xfz l else q :: xfz l) = q.2 * xden r q.1 + xls1 r l
    cases h : decide (q.2 = 0) with
    | true =>
      rw [of_decide_eq_true h, Int.zero_mul, Int.zero_add]
      exact ih
    | false =>
      show q.2 * xden r q.1 + xls1 r (xfz l) = _
      rw [ih]
def xtl (F : xF) (c : ClassFile.Cond) (a b : xjE) (l : List (xjE × Int)) (d : Int) : List (Bool × xF) := match l with
  | [] => xtn F c (.num d) 0
  | [q] => bif decide (q.2 = 1) then xtn F c q.1 (-d) else bif decide (q.2 = -1) then xtn F (xflip c) q.1 d else xtn F c (.sub a b) 0
  | [q, s] => bif decide (q.2 = 1) && decide (s.2 = -1) then xtxy F c q.1 s.1 d else bif decide (q.2 = -1) && decide (s.2 = 1) then xtxy F c s.1 q.1 d else xtn F c (.sub a b) 0
  | _ => xtn F c (.sub a b) 0
theorem xtl_s {r : Nat → Int} {F : xF} (h : xH r F) (c : ClassFile.Cond) (a b : xjE) (l : List (xjE × Int)) (d : Int) (e : xden r a - xden r b = xls1 r l + d) : ∃ q ∈ xtl F c a b l d, xH r q.2 ∧ (q.1 = true ↔ yccd c (xden r a) (xden r b) = true) := by
  have gen : ∃ q ∈ xtn F c (.sub a b) 0, xH r q.2 ∧ (q.1 = true ↔ yccd c (xden r a) (xden r b) = true) := xcg (xtn_s h c _ _) (by rw [← xcd0 c (xden r a) (xden r b)]; rfl)
  unfold xtl
  split
  · have e : xden r a - xden r b = 0 + d := e
    exact xcg (xtn_s h c _ _) (by
      show yccd c d 0 = true ↔ _
      rw [xcds c (x := xden r a) (y := xden r b) (show d - 0 = _ by omega)])
  · rename_i q
    have e : xden r a - xden r b = q.2 * xden r q.1 + 0 + d := e
    cases h1 : decide (q.2 = 1) with
    | true =>
      rw [of_decide_eq_true h1] at e
      exact xcg (xtn_s h c _ _) (by rw [xcds c (x := xden r a) (y := xden r b) (show xden r q.1 - (-d) = _ by omega)])
    | false =>
      simp only [cond_false]
      cases h2 : decide (q.2 = -1) with
      | true =>
        rw [of_decide_eq_true h2] at e
        exact xcg (xtn_s h (xflip c) _ _) (by rw [xflip_s, xcds c (x := xden r a) (y := xden r b) (show d - xden r q.1 = _ by omega)])
      | false => exact gen
  · rename_i q s
    have e : xden r a - xden r b = q.2 * xden r q.1 + (s.2 * xden r s.1 + 0) + d := e
    cases h1 : decide (q.2 = 1) && decide (s.2 = -1) with
    | true =>
      rw [Bool.and_eq_true] at h1
      rw [of_decide_eq_true h1.1, of_decide_eq_true h1.2] at e
      exact xtxy_s h c _ _ _ _ _ (by omega)
    | false =>
      simp only [cond_false]
      cases h2 : decide (q.2 = -1) && decide (s.2 = 1) with
      | true =>
        rw [Bool.and_eq_true] at h2
        rw [of_decide_eq_true h2.1, of_decide_eq_true h2.2] at e
        exact xtxy_s h c _ _ _ _ _ (by omega)
      | false => exact gen
  · exact gen
/-- ends of a comparison -/
def xtest (F : xF) (c : ClassFile.Cond) (a b : xjE) : List (Bool × xF) := match b with
  | .num k => xtn F c a k
  | b => (match a with
    | .num k => xtn F (xflip c) b k
    | a => xtl F c a b (xfz (xlnf 1 a (xlnf (-1) b ([], 0))).1) (xlnf 1 a (xlnf (-1) b ([], 0))).2)
theorem xtest_s {r : Nat → Int} {F : xF} (h : xH r F) (c : ClassFile.Cond) (a b : xjE) : ∃ q ∈ xtest F c a b, xH r q.2 ∧ (q.1 = true ↔ yccd c (xden r a) (xden r b) = true) := by
  unfold xtest
  split
  · exact xtn_s h c _ _
  · split
    · exact xcg (xtn_s h (xflip c) _ _) (by rw [xflip_s]; rfl)
    · refine xtl_s h c a b _ _ ?_
      rw [xfz_s]
      have e0 : xls r (([], 0) : xLf) = 0 := rfl
      have e1 : xls r (xlnf 1 a (xlnf (-1) b ([], 0))) = xden r a - xden r b := by rw [xlnf_s, xlnf_s, e0]; omega
      exact e1.symm
/-- a rest or a quotient -/
def xdm (F : xF) (k : Nat) (a b : xjE) : xjE := bif (Nat.beq k 24 && xr32 (xiv F b) || Nat.beq k 40 && xr64 (xiv F b)) && (xle 0 (xiv F a).1 && xle ((xiv F a).2 + 1) (xiv F b).1) then a else xbin k a b
theorem xdm_s {r : Nat → Int} {F : xF} (h : xH r F) (k : Nat) (a b : xjE) : xden r (xdm F k a b) = xop k (xden r a) (xden r b) := by
  unfold xdm
  cases h1 : (Nat.beq k 24 && xr32 (xiv F b) || Nat.beq k 40 && xr64 (xiv F b)) && (xle 0 (xiv F a).1 && xle ((xiv F a).2 + 1) (xiv F b).1) with
  | false => exact xbin_s r k a b
  | true =>
    have p := xiv_s h a
    have q := xiv_s h b
    simp only [Bool.and_eq_true, Bool.or_eq_true, xle_iff] at h1
    obtain ⟨h2, h3, h4⟩ := h1
    show xden r a = _
    rcases h2 with ⟨h2, h5⟩ | ⟨h2, h5⟩
    · have e := Nat.eq_of_beq_eq_true h2
      subst e
      unfold xr32 at h5
      rw [Bool.and_eq_true, xle_iff, xle_iff] at h5
      show _ = ycI 8 (xden r a) (xden r b)
      rw [ycI8 (by omega) (by omega) (by omega) (by omega), Nat.mod_eq_of_lt (by omega)]
      omega
    · have e := Nat.eq_of_beq_eq_true h2
      subst e
      unfold xr64 at h5
      rw [Bool.and_eq_true, xle_iff, xle_iff] at h5
      show _ = ycJ 8 (xden r a) (xden r b)
      rw [ycJ8 (by omega) (by omega) (by omega) (by omega), Nat.mod_eq_of_lt (by omega)]
      omega
/-- the values of a term, one by one, if they are few -/
def xenum (F : xF) (e : xjE) (k : xF → Int → Bool) : Bool := match e with
  | .num v => k F v
  | e => xle ((xiv F e).2 - (xiv F e).1) 600 && (List.range ((xiv F e).2 - (xiv F e).1 + 1).toNat).all fun j => xctra ((e, (xiv F e).1 + j, (xiv F e).1 + j) :: F) || k ((e, (xiv F e).1 + j, (xiv F e).1 + j) :: F) ((xiv F e).1 + j)
theorem xenum_s {r : Nat → Int} {F : xF} (h : xH r F) {e : xjE} {k : xF → Int → Bool} (hk : xenum F e k = true) : ∃ F2, xH r F2 ∧ k F2 (xden r e) = true := by
  unfold xenum at hk
  split at hk
  · exact ⟨F, h, hk⟩
  · rw [Bool.and_eq_true] at hk
    have h2 := xiv_s h e
    have h3 := List.all_eq_true.mp hk.2 (xden r e - (xiv F e).1).toNat (List.mem_range.mpr (by omega))
    have e1 : (xiv F e).1 + (((xden r e - (xiv F e).1).toNat : Nat) : Int) = xden r e := by omega
    rw [e1] at h3
    have h5 := xHc h (Int.le_refl (xden r e)) (Int.le_refl _)
    rw [xctra_s h5] at h3
    exact ⟨_, h5, h3⟩
end YT2
