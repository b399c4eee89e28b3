section YT2
theorem xHc {r : Nat → Int} {F : xF} {e : xjE} {lo hi : Int} (h : xH r F) (h1 : lo ≤ xden r e) (h2 : xden r e ≤ hi) : xH r ((e, lo, hi) :: F) := ⟨h.1, fun q hq => (List.mem_cons.mp hq).elim (fun z => by rw [z]; exact ⟨h1, h2⟩) (h.2 q)⟩
/-- a term and a number together, exactly -/
def xlinc (a : xjE) (k : Int) : xjE := match a with
  | .num x => .num (x + k)
  | .add a2 (.num x) => bif decide (x + k = 0) then a2 else .add a2 (.num (x + k))
  | a => bif decide (k = 0) then a else .add a (.num k)
theorem xlinc_s (r : Nat → Int) (a : xjE) (k : Int) : xden r (xlinc a k) = xden r a + k := by
  unfold xlinc
  split
  · rfl
  · rename_i a2 x
    show xden r (bif decide (x + k = 0) then a2 else .add a2 (.num (x + k))) = xden r a2 + x + k
    cases h : decide (x + k = 0) with
    | true =>
      have := of_decide_eq_true h
      show xden r a2 = _
      omega
    | false => show xden r a2 + (x + k) = _; omega
  · cases h : decide (k = 0) with
    | true =>
      have := of_decide_eq_true h
      show xden r a = _
      omega
    | false => rfl
def xlin (a b : xjE) : xjE := match b with
  | .num k => xlinc a k
  | b => (match a with
    | .num k => xlinc b k
    | a => .add a b)
theorem xlin_s (r : Nat → Int) (a b : xjE) : xden r (xlin a b) = xden r a + xden r b := by
  unfold xlin
  split
  · exact xlinc_s r a _
  · split
    · rw [xlinc_s]; show _ = _ + xden r b; rw [Int.add_comm]; rfl
    · rfl
theorem xr32_s {p : Int × Int} {x : Int} (h : xr32 p = true) (h1 : p.1 ≤ x ∧ x ≤ p.2) : xw x = x := by
  unfold xr32 at h
  rw [Bool.and_eq_true, xle_iff, xle_iff] at h
  rw [xw_s]
  exact y32_id (by omega) (by omega)
def xin32 (F : xF) (a : xjE) : Bool := xr32 (xiv F a)
theorem xin32_s {r : Nat → Int} {F : xF} {a : xjE} (h : xH r F) (h1 : xin32 F a = true) : y32 (xden r a) = xden r a := by rw [← xw_s]; exact xr32_s h1 (xiv_s h a)
def xadd (F : xF) (a b : xjE) : xjE := match a, b with
  | .num x, .num y => .num (xw (x + y))
  | a, b => bif xr32 ((xiv F a).1 + (xiv F b).1, (xiv F a).2 + (xiv F b).2) then xlin a b else .pow (.add a b) 0
theorem xadd_s {r : Nat → Int} {F : xF} (h : xH r F) (a b : xjE) : xden r (xadd F a b) = y32 (xden r a + xden r b) := by
  rw [← xw_s]
  unfold xadd
  split
  · rfl
  · cases h1 : xr32 ((xiv F a).1 + (xiv F b).1, (xiv F a).2 + (xiv F b).2) with
    | true =>
      have p := xiv_s h a
      have q := xiv_s h b
      rw [xr32_s h1 (show (xiv F a).1 + (xiv F b).1 ≤ xden r a + xden r b ∧ xden r a + xden r b ≤ (xiv F a).2 + (xiv F b).2 by omega)]
      exact xlin_s r a b
    | false => rfl
def xsub (F : xF) (a b : xjE) : xjE := match a, b with
  | .num x, .num y => .num (xw (x - y))
  | a, b => bif xr32 ((xiv F a).1 - (xiv F b).2, (xiv F a).2 - (xiv F b).1) then (match b with
    | .num y => xlinc a (-y)
    | b => bif xeq a b then .num 0 else .sub a b) else .pow (.add a b) 1
theorem xsub_s {r : Nat → Int} {F : xF} (h : xH r F) (a b : xjE) : xden r (xsub F a b) = y32 (xden r a - xden r b) := by
  rw [← xw_s]
  unfold xsub
  split
  · rfl
  · cases h1 : xr32 ((xiv F a).1 - (xiv F b).2, (xiv F a).2 - (xiv F b).1) with
    | true =>
      have p := xiv_s h a
      have q := xiv_s h b
      rw [xr32_s h1 (show (xiv F a).1 - (xiv F b).2 ≤ xden r a - xden r b ∧ xden r a - xden r b ≤ (xiv F a).2 - (xiv F b).1 by omega)]
      simp only [cond_true]
      split
      · rw [xlinc_s]; rfl
      · cases h2 : xeq a b with
        | true =>
          rw [xeq_s h2]
          show (0 : Int) = _
          omega
        | false => rfl
    | false => rfl
def xmul (F : xF) (a b : xjE) : xjE := match a, b with
  | .num x, .num y => .num (xw (x * y))
  | a, b => bif xr32 (xmuli (xiv F a) (xiv F b)) then .mul a b else .pow (.add a b) 2
theorem xmul_s {r : Nat → Int} {F : xF} (h : xH r F) (a b : xjE) : xden r (xmul F a b) = y32 (xden r a * xden r b) := by
  rw [← xw_s]
  unfold xmul
  split
  · rfl
  · cases h1 : xr32 (xmuli (xiv F a) (xiv F b)) with
    | true =>
      rw [xr32_s h1 (xmuli_s (xiv_s h a) (xiv_s h b))]
      rfl
    | false => rfl
def xbin (k : Nat) (a b : xjE) : xjE := match a, b with
  | .num x, .num y => .num (xop k x y)
  | a, b => .pow (.add a b) k
theorem xbin_s (r : Nat → Int) (k : Nat) (a b : xjE) : xden r (xbin k a b) = xop k (xden r a) (xden r b) := by
  unfold xbin
  split <;> rfl
def xun (k : Nat) (a : xjE) : xjE := match a with
  | .num x => .num (xop1 k x)
  | a => .pow (.neg a) k
theorem xun_s (r : Nat → Int) (k : Nat) (a : xjE) : xden r (xun k a) = xop1 k (xden r a) := by
  unfold xun
  split <;> rfl
/-- longs together, exactly where they fit -/
def xladd (F : xF) (a b : xjE) : xjE := match a, b with
  | .num x, .num y => .num (xop 36 x y)
  | a, b => bif xr64 ((xiv F a).1 + (xiv F b).1, (xiv F a).2 + (xiv F b).2) then xlin a b else .pow (.add a b) 36
theorem xladd_s {r : Nat → Int} {F : xF} (h : xH r F) (a b : xjE) : xden r (xladd F a b) = ycJ 4 (xden r a) (xden r b) := by
  unfold xladd
  split
  · rfl
  · cases h1 : xr64 ((xiv F a).1 + (xiv F b).1, (xiv F a).2 + (xiv F b).2) with
    | true =>
      unfold xr64 at h1
      rw [Bool.and_eq_true, xle_iff, xle_iff] at h1
      have h1 : -9223372036854775808 ≤ (xiv F a).1 + (xiv F b).1 ∧ (xiv F a).2 + (xiv F b).2 ≤ 9223372036854775807 := h1
      have p := xiv_s h a
      have q := xiv_s h b
      have e : ycJ 4 (xden r a) (xden r b) = y64 (xden r a + xden r b) := by
        show (Int64.ofInt (xden r a) + Int64.ofInt (xden r b)).toInt = (Int64.ofInt (xden r a + xden r b)).toInt
        rw [Int64.ofInt_add]
      rw [e, y64_id (by omega) (by omega)]
      exact xlin_s r a b
    | false => rfl
def xlsub (F : xF) (a b : xjE) : xjE := match a, b with
  | .num x, .num y => .num (xop 37 x y)
  | a, b => bif xr64 ((xiv F a).1 - (xiv F b).2, (xiv F a).2 - (xiv F b).1) then .sub a b else .pow (.add a b) 37
theorem xlsub_s {r : Nat → Int} {F : xF} (h : xH r F) (a b : xjE) : xden r (xlsub F a b) = ycJ 5 (xden r a) (xden r b) := by
  unfold xlsub
  split
  · rfl
  · cases h1 : xr64 ((xiv F a).1 - (xiv F b).2, (xiv F a).2 - (xiv F b).1) with
    | true =>
      unfold xr64 at h1
      rw [Bool.and_eq_true, xle_iff, xle_iff] at h1
      have h1 : -9223372036854775808 ≤ (xiv F a).1 - (xiv F b).2 ∧ (xiv F a).2 - (xiv F b).1 ≤ 9223372036854775807 := h1
      have p := xiv_s h a
      have q := xiv_s h b
      have e : ycJ 5 (xden r a) (xden r b) = y64 (xden r a - xden r b) := by
        show (Int64.ofInt (xden r a) - Int64.ofInt (xden r b)).toInt = (Int64.ofInt (xden r a - xden r b)).toInt
        rw [Int64.ofInt_sub]
      rw [e, y64_id (by omega) (by omega)]
      rfl
    | false => rfl
/-- the greater, the smaller -/
def xmaxs (F : xF) (a b : xjE) : xjE := bif xle (xiv F a).2 (xiv F b).1 then b else bif xle (xiv F b).2 (xiv F a).1 then a else xbin 80 a b
theorem xmaxs_s {r : Nat → Int} {F : xF} (h : xH r F) (a b : xjE) : xden r (xmaxs F a b) = xop 80 (xden r a) (xden r b) := by
  have p := xiv_s h a
  have q := xiv_s h b
  have e : xop 80 (xden r a) (xden r b) = bif xle (xden r a) (xden r b) then xden r b else xden r a := rfl
  unfold xmaxs
  cases h1 : xle (xiv F a).2 (xiv F b).1 with
  | true =>
    rw [xle_iff] at h1
    rw [e, xle_iff.mpr (by omega)]; rfl
  | false =>
    simp only [cond_false]
    cases h2 : xle (xiv F b).2 (xiv F a).1 with
    | true =>
      rw [xle_iff] at h2
      rw [e]
      cases h3 : xle (xden r a) (xden r b) with
      | true => rw [xle_iff] at h3; show xden r a = xden r b; omega
      | false => rfl
    | false => exact xbin_s r 80 a b
def xmins (F : xF) (a b : xjE) : xjE := bif xle (xiv F a).2 (xiv F b).1 then a else bif xle (xiv F b).2 (xiv F a).1 then b else xbin 96 a b
theorem xmins_s {r : Nat → Int} {F : xF} (h : xH r F) (a b : xjE) : xden r (xmins F a b) = xop 96 (xden r a) (xden r b) := by
  have p := xiv_s h a
  have q := xiv_s h b
  have e : xop 96 (xden r a) (xden r b) = bif xle (xden r a) (xden r b) then xden r a else xden r b := rfl
  unfold xmins
  cases h1 : xle (xiv F a).2 (xiv F b).1 with
  | true =>
    rw [xle_iff] at h1
    rw [e, xle_iff.mpr (by omega)]; rfl
  | false =>
    simp only [cond_false]
    cases h2 : xle (xiv F b).2 (xiv F a).1 with
    | true =>
      rw [xle_iff] at h2
      rw [e]
      cases h3 : xle (xden r a) (xden r b) with
      | true => rw [xle_iff] at h3; show xden r b = xden r a; omega
      | false => rfl
    | false => exact xbin_s r 96 a b
/-- a term brought to 32 bits, if it isn't there -/
def xto32 (F : xF) (a : xjE) : xjE := bif xin32 F a then a else xun 1 a
theorem xto32_s {r : Nat → Int} {F : xF} (h : xH r F) (a : xjE) : xden r (xto32 F a) = y32 (xden r a) := by
  unfold xto32
  cases h1 : xin32 F a with
  | true => exact (xin32_s h h1).symm
  | false => show xden r (xun 1 a) = _; rw [xun_s]; exact xw_s _
/-- ends of a test: is it below c -/
def xlt (F : xF) (e : xjE) (c : Int) : List (Bool × xF) :=
  bif xle (xiv F e).2 (c - 1) then [(true, F)] else bif xle c (xiv F e).1 then [(false, F)] else [(true, (e, (xiv F e).1, c - 1) :: F), (false, (e, c, (xiv F e).2) :: F)]
theorem xlt_s {r : Nat → Int} {F : xF} (h : xH r F) (e : xjE) (c : Int) : ∃ q ∈ xlt F e c, xH r q.2 ∧ (q.1 = true ↔ xden r e < c) := by
  have h2 := xiv_s h e
  unfold xlt
  cases h3 : xle (xiv F e).2 (c - 1) with
  | true =>
    rw [xle_iff] at h3
    exact ⟨_, List.mem_singleton.mpr rfl, h, ⟨fun _ => by omega, fun _ => rfl⟩⟩
  | false =>
    cases h4 : xle c (xiv F e).1 with
    | true =>
      rw [xle_iff] at h4
      exact ⟨_, List.mem_singleton.mpr rfl, h, ⟨fun z => absurd z (by simp), fun _ => by omega⟩⟩
    | false =>
      by_cases h5 : xden r e < c
      · exact ⟨_, List.mem_cons_self, xHc h h2.1 (by omega), ⟨fun _ => h5, fun _ => rfl⟩⟩
      · exact ⟨_, List.mem_cons_of_mem _ (List.mem_singleton.mpr rfl), xHc h (by omega) h2.2, ⟨fun z => absurd z (by simp), fun z => absurd z h5⟩⟩
/-- ends of a test: is it c -/
def xis (F : xF) (e : xjE) (c : Int) : List (Bool × xF) :=
  bif xle (xiv F e).2 (c - 1) || xle (c + 1) (xiv F e).1 then [(false, F)] else bif xle (xiv F e).2 c && xle c (xiv F e).1 then [(true, F)] else
    [(true, (e, c, c) :: F), (false, bif xle c (xiv F e).1 then (e, c + 1, (xiv F e).2) :: F else bif xle (xiv F e).2 c then (e, (xiv F e).1, c - 1) :: F else F)]
theorem xis_s {r : Nat → Int} {F : xF} (h : xH r F) (e : xjE) (c : Int) : ∃ q ∈ xis F e c, xH r q.2 ∧ (q.1 = true ↔ xden r e = c) := by
  have h2 := xiv_s h e
  unfold xis
  cases h3 : xle (xiv F e).2 (c - 1) || xle (c + 1) (xiv F e).1 with
  | true =>
    rw [Bool.or_eq_true, xle_iff, xle_iff] at h3
    exact ⟨_, List.mem_singleton.mpr rfl, h, ⟨fun z => absurd z (by simp), fun _ => by omega⟩⟩
  | false =>
    cases h4 : xle (xiv F e).2 c && xle c (xiv F e).1 with
    | true =>
      rw [Bool.and_eq_true, xle_iff, xle_iff] at h4
      exact ⟨_, List.mem_singleton.mpr rfl, h, ⟨fun _ => by omega, fun _ => rfl⟩⟩
    | false =>
      by_cases h5 : xden r e = c
      · exact ⟨_, List.mem_cons_self, xHc h (by omega) (by omega), ⟨fun _ => h5, fun _ => rfl⟩⟩
      · refine ⟨_, List.mem_cons_of_mem _ (List.mem_singleton.mpr rfl), ?_, ⟨fun z => absurd z (by simp), fun z => absurd z h5⟩⟩
        show xH r (bif xle c (xiv F e).1 then _ else _)
        cases h6 : xle c (xiv F e).1 with
        | true =>
          rw [xle_iff] at h6
          exact xHc h (by omega) h2.2
        | false =>
          show xH r (bif xle (xiv F e).2 c then _ else _)
          cases h7 : xle (xiv F e).2 c with
          | true =>
            rw [xle_iff] at h7
            exact xHc h h2.1 (by omega)
          | false => exact h
def xnot (l : List (Bool × xF)) : List (Bool × xF) := l.map fun q => (!q.1, q.2)
theorem xnot_s {r : Nat → Int} {l : List (Bool × xF)} {P : Prop} (h : ∃ q ∈ l, xH r q.2 ∧ (q.1 = true ↔ P)) : ∃ q ∈ xnot l, xH r q.2 ∧ (q.1 = true ↔ ¬ P) := by
  obtain ⟨q, h1, h2, h3⟩ := h
  refine ⟨_, List.mem_map.mpr ⟨q, h1, rfl⟩, h2, ?_⟩
  show (!q.1) = true ↔ ¬ P
  rw [← h3]
  cases q.1 <;> simp
theorem xcg {r : Nat → Int} {l : List (Bool × xF)} {P P' : Prop} (h : ∃ q ∈ l, xH r q.2 ∧ (q.1 = true ↔ P)) (hp : P ↔ P') : ∃ q ∈ l, xH r q.2 ∧ (q.1 = true ↔ P') := by
  obtain ⟨q, h1, h2, h3⟩ := h
  exact ⟨q, h1, h2, h3.trans hp⟩
/-- a term with a number taken off: the test moves along -/
def xpe : xjE → Int → xjE × Int
  | .add a (.num x), c => (a, c - x)
  | a, c => (a, c)
theorem xpe_s (r : Nat → Int) (e : xjE) (c : Int) : xden r e - c = xden r (xpe e c).1 - (xpe e c).2 := by
  unfold xpe
  split
  · rename_i a x
    show xden r a + x - c = xden r a - (c - x)
    omega
  · rfl
/-- ends of a comparison with a number -/
def xtn (F : xF) (c : ClassFile.Cond) (a : xjE) (k : Int) : List (Bool × xF) := match c with
  | .eq => xis F (xpe a k).1 (xpe a k).2
  | .ne => xnot (xis F (xpe a k).1 (xpe a k).2)
  | .lt => xlt F (xpe a k).1 (xpe a k).2
  | .ge => xnot (xlt F (xpe a k).1 (xpe a k).2)
  | .gt => xnot (xlt F (xpe a k).1 ((xpe a k).2 + 1))
  | .le => xlt F (xpe a k).1 ((xpe a k).2 + 1)
theorem xtn_s {r : Nat → Int} {F : xF} (h : xH r F) (c : ClassFile.Cond) (a : xjE) (k : Int) : ∃ q ∈ xtn F c a k, xH r q.2 ∧ (q.1 = true ↔ yccd c (xden r a) k = true) := by
  have e := xpe_s r a k
  cases c with
  | eq => exact xcg (xis_s h _ _) (by show _ ↔ decide _ = true; rw [decide_eq_true_iff]; omega)
  | ne => exact xcg (xnot_s (xis_s h _ _)) (by show _ ↔ decide _ = true; rw [decide_eq_true_iff]; omega)
  | lt => exact xcg (xlt_s h _ _) (by show _ ↔ decide _ = true; rw [decide_eq_true_iff]; omega)
  | ge => exact xcg (xnot_s (xlt_s h _ _)) (by show _ ↔ decide _ = true; rw [decide_eq_true_iff]; omega)
  | gt => exact xcg (xnot_s (xlt_s h _ _)) (by show _ ↔ decide _ = true; rw [decide_eq_true_iff]; omega)
  | le => exact xcg (xlt_s h _ _) (by show _ ↔ decide _ = true; rw [decide_eq_true_iff]; omega)
/-- the comparison the other way round -/
def xflip : ClassFile.Cond → ClassFile.Cond
  | .eq => .eq
  | .ne => .ne
  | .lt => .gt
  | .ge => .le
  | .gt => .lt
  | .le => .ge
theorem xflip_s (c : ClassFile.Cond) (x y : Int) : yccd (xflip c) y x = yccd c x y := by
  cases c <;> simp only [xflip, yccd, eq_comm, ne_eq]
theorem xcd0 (c : ClassFile.Cond) (x y : Int) : yccd c (x - y) 0 = yccd c x y := by
  cases c <;> (show decide _ = decide _; rw [decide_eq_decide]; omega)
/-- ends of a comparison -/
def xtest (F : xF) (c : ClassFile.Cond) (a b : xjE) : List (Bool × xF) := match b with
  | .num k => xtn F c a k
  | b => (match a with
    | .num k => xtn F (xflip c) b k
    | a => bif xeq a b then xtn F c (.num 0) 0 else xtn F c (.sub a b) 0)
theorem xtest_s {r : Nat → Int} {F : xF} (h : xH r F) (c : ClassFile.Cond) (a b : xjE) : ∃ q ∈ xtest F c a b, xH r q.2 ∧ (q.1 = true ↔ yccd c (xden r a) (xden r b) = true) := by
  unfold xtest
  split
  · exact xtn_s h c _ _
  · split
    · exact xcg (xtn_s h (xflip c) _ _) (by rw [xflip_s]; rfl)
    · cases h1 : xeq a b with
      | true =>
        rw [xeq_s h1]
        exact xcg (xtn_s h c _ _) (by rw [← xcd0 c (xden r b) (xden r b), Int.sub_self]; rfl)
      | false => exact xcg (xtn_s h c _ _) (by rw [← xcd0 c (xden r a) (xden r b)]; rfl)
/-- the values of a term, one by one, if they are few -/
def xenum (F : xF) (e : xjE) (k : xF → Int → Bool) : Bool := match e with
  | .num v => k F v
  | e => xle ((xiv F e).2 - (xiv F e).1) 600 && (List.range ((xiv F e).2 - (xiv F e).1 + 1).toNat).all fun j => k ((e, (xiv F e).1 + j, (xiv F e).1 + j) :: F) ((xiv F e).1 + j)
theorem xenum_s {r : Nat → Int} {F : xF} (h : xH r F) {e : xjE} {k : xF → Int → Bool} (hk : xenum F e k = true) : ∃ F2, xH r F2 ∧ k F2 (xden r e) = true := by
  unfold xenum at hk
  split at hk
  · exact ⟨F, h, hk⟩
  · rw [Bool.and_eq_true] at hk
    have h2 := xiv_s h e
    have h3 := List.all_eq_true.mp hk.2 (xden r e - (xiv F e).1).toNat (List.mem_range.mpr (by omega))
    have e1 : (xiv F e).1 + (((xden r e - (xiv F e).1).toNat : Nat) : Int) = xden r e := by omega
    rw [e1] at h3
    exact ⟨_, xHc h (Int.le_refl _) (Int.le_refl _), h3⟩
end YT2
