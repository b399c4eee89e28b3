section XJ2
/-- an Int brought to 32 bits with sign -/
def xjw (v : Int) : Int := bif xjle (-2147483648) v && xjle v 2147483647 then v else (Int32.ofInt v).toInt
theorem xjw_t (v : Int) : (Int32.ofInt v).toInt = xjw v := by
  unfold xjw
  cases h : xjle (-2147483648) v && xjle v 2147483647 with
  | true =>
    rw [Bool.and_eq_true, xjle_iff, xjle_iff] at h
    exact Int32.toInt_ofInt_of_le (by omega) (by omega)
  | false => rfl
theorem xjw_s (v : Int) : Int32.ofInt (xjw v) = Int32.ofInt v := by rw [← xjw_t, Int32.ofInt_toInt]
def xjadd : xjE → xjE → xjE
  | .num a, .num b => .num (xjw (a + b))
  | a, b => .add a b
def xjsub : xjE → xjE → xjE
  | .num a, .num b => .num (xjw (a - b))
  | a, b => .sub a b
def xjmul : xjE → xjE → xjE
  | .num a, .num b => .num (xjw (a * b))
  | a, b => .mul a b
def xjneg : xjE → xjE
  | .num a => .num (xjw (-a))
  | a => .neg a
def xjbin (k : Nat) : xjE → xjE → xjE
  | .num a, .num b => .num (xjb k (Int32.ofInt a) (Int32.ofInt b)).toInt
  | a, b => .pow (.add a b) k
theorem xjadd_s (r : Nat → Int32 × Int64) (a b : xjE) : (xjdn r (xjadd a b)).1 = (xjdn r a).1 + (xjdn r b).1 := by
  unfold xjadd
  split
  · show Int32.ofInt (xjw _) = Int32.ofInt _ + Int32.ofInt _
    rw [xjw_s, Int32.ofInt_add]
  · rfl
theorem xjsub_s (r : Nat → Int32 × Int64) (a b : xjE) : (xjdn r (xjsub a b)).1 = (xjdn r a).1 - (xjdn r b).1 := by
  unfold xjsub
  split
  · show Int32.ofInt (xjw _) = Int32.ofInt _ - Int32.ofInt _
    rw [xjw_s, Int32.ofInt_sub]
  · rfl
theorem xjmul_s (r : Nat → Int32 × Int64) (a b : xjE) : (xjdn r (xjmul a b)).1 = (xjdn r a).1 * (xjdn r b).1 := by
  unfold xjmul
  split
  · show Int32.ofInt (xjw _) = Int32.ofInt _ * Int32.ofInt _
    rw [xjw_s, Int32.ofInt_mul]
  · rfl
theorem xjneg_s (r : Nat → Int32 × Int64) (a : xjE) : (xjdn r (xjneg a)).1 = -(xjdn r a).1 := by
  unfold xjneg
  split
  · show Int32.ofInt (xjw _) = -Int32.ofInt _
    rw [xjw_s, Int32.ofInt_neg]
  · rfl
theorem xjbin_s (r : Nat → Int32 × Int64) (k : Nat) (a b : xjE) : (xjdn r (xjbin k a b)).1 = xjb k (xjdn r a).1 (xjdn r b).1 := by
  unfold xjbin
  split
  · show Int32.ofInt (Int32.toInt _) = _
    rw [Int32.ofInt_toInt]; rfl
  · rfl
theorem xjHc {r : Nat → Int32 × Int64} {F : xjF} {e : xjE} {lo hi : Int} (h : xjH r F) (h1 : lo ≤ (xjdn r e).1.toInt) (h2 : (xjdn r e).1.toInt ≤ hi) : xjH r ((e, lo, hi) :: F) := fun q hq => (List.mem_cons.mp hq).elim (fun z => by rw [z]; exact ⟨h1, h2⟩) (h q)
/-- a term that is known is written as a number -/
def xjnorm (F : xjF) (e : xjE) : xjE := match e with
  | .num k => .num k
  | e => bif decide ((xjiv F e).1 = (xjiv F e).2) then .num (xjiv F e).1 else e
theorem xjnorm_s {r : Nat → Int32 × Int64} {F : xjF} (h : xjH r F) (e : xjE) : (xjdn r (xjnorm F e)).1 = (xjdn r e).1 := by
  unfold xjnorm
  split
  · rfl
  · cases hd : decide ((xjiv F e).1 = (xjiv F e).2) with
    | false => rfl
    | true =>
      have h1 := of_decide_eq_true hd
      have h2 := xjiv_s h e
      show Int32.ofInt _ = _
      rw [show (xjiv F e).1 = (xjdn r e).1.toInt by omega, Int32.ofInt_toInt]
/-- ends of a test: is it below c -/
def xjlt (F : xjF) (e : xjE) (c : Int) : List (Bool × xjF) :=
  bif xjle (xjiv F e).2 (c - 1) then [(true, F)] else bif xjle c (xjiv F e).1 then [(false, F)] else [(true, (e, (xjiv F e).1, c - 1) :: F), (false, (e, c, (xjiv F e).2) :: F)]
theorem xjlt_s {r : Nat → Int32 × Int64} {F : xjF} (h : xjH r F) (e : xjE) (c : Int) : ∃ q ∈ xjlt F e c, xjH r q.2 ∧ (q.1 = true ↔ (xjdn r e).1.toInt < c) := by
  have h2 := xjiv_s h e
  unfold xjlt
  cases h3 : xjle (xjiv F e).2 (c - 1) with
  | true =>
    rw [xjle_iff] at h3
    exact ⟨_, List.mem_singleton.mpr rfl, h, ⟨fun _ => by omega, fun _ => rfl⟩⟩
  | false =>
    cases h4 : xjle c (xjiv F e).1 with
    | true =>
      rw [xjle_iff] at h4
      exact ⟨_, List.mem_singleton.mpr rfl, h, ⟨fun z => absurd z (by simp), fun _ => by omega⟩⟩
    | false =>
      by_cases h5 : (xjdn r e).1.toInt < c
      · exact ⟨_, List.mem_cons_self, xjHc h h2.1 (by omega), ⟨fun _ => h5, fun _ => rfl⟩⟩
      · exact ⟨_, List.mem_cons_of_mem _ (List.mem_singleton.mpr rfl), xjHc h (by omega) h2.2, ⟨fun z => absurd z (by simp), fun z => absurd z h5⟩⟩
/-- ends of a test: is it c -/
def xjis (F : xjF) (e : xjE) (c : Int) : List (Bool × xjF) :=
  bif xjle (xjiv F e).2 (c - 1) || xjle (c + 1) (xjiv F e).1 then [(false, F)] else bif xjle (xjiv F e).2 c && xjle c (xjiv F e).1 then [(true, F)] else
    [(true, (e, c, c) :: F), (false, bif xjle c (xjiv F e).1 then (e, c + 1, (xjiv F e).2) :: F else bif xjle (xjiv F e).2 c then (e, (xjiv F e).1, c - 1) :: F else F)]
theorem xjis_s {r : Nat → Int32 × Int64} {F : xjF} (h : xjH r F) (e : xjE) (c : Int) : ∃ q ∈ xjis F e c, xjH r q.2 ∧ (q.1 = true ↔ (xjdn r e).1.toInt = c) := by
  have h2 := xjiv_s h e
  unfold xjis
  cases h3 : xjle (xjiv F e).2 (c - 1) || xjle (c + 1) (xjiv F e).1 with
  | true =>
    rw [Bool.or_eq_true, xjle_iff, xjle_iff] at h3
    exact ⟨_, List.mem_singleton.mpr rfl, h, ⟨fun z => absurd z (by simp), fun _ => by omega⟩⟩
  | false =>
    cases h4 : xjle (xjiv F e).2 c && xjle c (xjiv F e).1 with
    | true =>
      rw [Bool.and_eq_true, xjle_iff, xjle_iff] at h4
      exact ⟨_, List.mem_singleton.mpr rfl, h, ⟨fun _ => by omega, fun _ => rfl⟩⟩
    | false =>
      by_cases h5 : (xjdn r e).1.toInt = c
      · exact ⟨_, List.mem_cons_self, xjHc h (by omega) (by omega), ⟨fun _ => h5, fun _ => rfl⟩⟩
      · refine ⟨_, List.mem_cons_of_mem _ (List.mem_singleton.mpr rfl), ?_, ⟨fun z => absurd z (by simp), fun z => absurd z h5⟩⟩
        show xjH r (bif xjle c (xjiv F e).1 then _ else _)
        cases h6 : xjle c (xjiv F e).1 with
        | true =>
          rw [xjle_iff] at h6
          exact xjHc h (by omega) h2.2
        | false =>
          show xjH r (bif xjle (xjiv F e).2 c then _ else _)
          cases h7 : xjle (xjiv F e).2 c with
          | true =>
            rw [xjle_iff] at h7
            exact xjHc h h2.1 (by omega)
          | false => exact h
/-- ends of a test whose answer is 1 or 0 -/
def xjone (F : xjF) (e : xjE) : List (Bool × xjF) :=
  bif xjle 1 (xjiv F e).1 then [(true, F)] else bif xjle (xjiv F e).2 0 then [(false, F)] else [(true, (e, 1, 1) :: F), (false, (e, 0, 0) :: F)]
theorem xjone_s {r : Nat → Int32 × Int64} {F : xjF} (h : xjH r F) (e : xjE) {P : Prop} (hP : (P ∧ (xjdn r e).1 = 1) ∨ (¬ P ∧ (xjdn r e).1 = 0)) : ∃ q ∈ xjone F e, xjH r q.2 ∧ (q.1 = true ↔ P) := by
  have h2 := xjiv_s h e
  have t1 : (1 : Int32).toInt = 1 := rfl
  have t0 : (0 : Int32).toInt = 0 := rfl
  unfold xjone
  cases h3 : xjle 1 (xjiv F e).1 with
  | true =>
    rw [xjle_iff] at h3
    rcases hP with ⟨p, z⟩ | ⟨p, z⟩
    · exact ⟨_, List.mem_singleton.mpr rfl, h, ⟨fun _ => p, fun _ => rfl⟩⟩
    · rw [z, t0] at h2; omega
  | false =>
    cases h4 : xjle (xjiv F e).2 0 with
    | true =>
      rw [xjle_iff] at h4
      rcases hP with ⟨p, z⟩ | ⟨p, z⟩
      · rw [z, t1] at h2; omega
      · exact ⟨_, List.mem_singleton.mpr rfl, h, ⟨fun z => absurd z (by simp), fun z => absurd z p⟩⟩
    | false =>
      rcases hP with ⟨p, z⟩ | ⟨p, z⟩
      · exact ⟨_, List.mem_cons_self, fun q hq => (List.mem_cons.mp hq).elim (fun y => by rw [y]; show (1 : Int) ≤ (xjdn r e).1.toInt ∧ (xjdn r e).1.toInt ≤ 1; rw [z, t1]; omega) (h q), ⟨fun _ => p, fun _ => rfl⟩⟩
      · exact ⟨_, List.mem_cons_of_mem _ (List.mem_singleton.mpr rfl), fun q hq => (List.mem_cons.mp hq).elim (fun y => by rw [y]; show (0 : Int) ≤ (xjdn r e).1.toInt ∧ (xjdn r e).1.toInt ≤ 0; rw [z, t0]; omega) (h q), ⟨fun z => absurd z (by simp), fun z => absurd z p⟩⟩
def xjnot (l : List (Bool × xjF)) : List (Bool × xjF) := l.map fun q => (!q.1, q.2)
theorem xjnot_s {r : Nat → Int32 × Int64} {l : List (Bool × xjF)} {P : Prop} (h : ∃ q ∈ l, xjH r q.2 ∧ (q.1 = true ↔ P)) : ∃ q ∈ xjnot l, xjH r q.2 ∧ (q.1 = true ↔ ¬ P) := by
  obtain ⟨q, h1, h2, h3⟩ := h
  refine ⟨_, List.mem_map.mpr ⟨q, h1, rfl⟩, h2, ?_⟩
  show (!q.1) = true ↔ ¬ P
  rw [← h3]
  cases q.1 <;> simp
theorem xjcg {r : Nat → Int32 × Int64} {l : List (Bool × xjF)} {P P' : Prop} (h : ∃ q ∈ l, xjH r q.2 ∧ (q.1 = true ↔ P)) (hp : P ↔ P') : ∃ q ∈ l, xjH r q.2 ∧ (q.1 = true ↔ P') := by
  obtain ⟨q, h1, h2, h3⟩ := h
  exact ⟨q, h1, h2, h3.trans hp⟩
/-- what a comparison of two ints says -/
def xjcd (c : ClassFile.Cond) (x y : Int32) : Prop := match c with
  | .eq => x = y
  | .ne => ¬ x = y
  | .lt => x < y
  | .ge => y ≤ x
  | .gt => y < x
  | .le => x ≤ y
/-- ends of a comparison with a number -/
def xjtn (F : xjF) (c : ClassFile.Cond) (a : xjE) (k : Int) : List (Bool × xjF) := match c with
  | .eq => xjis F a k
  | .ne => xjnot (xjis F a k)
  | .lt => xjlt F a k
  | .ge => xjnot (xjlt F a k)
  | .gt => xjnot (xjlt F a (k + 1))
  | .le => xjlt F a (k + 1)
theorem xjtn_s {r : Nat → Int32 × Int64} {F : xjF} (h : xjH r F) (c : ClassFile.Cond) (a : xjE) {y : Int32} {k : Int} (hy : y.toInt = k) : ∃ q ∈ xjtn F c a k, xjH r q.2 ∧ (q.1 = true ↔ xjcd c (xjdn r a).1 y) := by
  subst hy
  cases c with
  | eq => exact xjcg (xjis_s h a _) Int32.toInt_inj
  | ne => exact xjnot_s (xjcg (xjis_s h a _) Int32.toInt_inj)
  | lt => exact xjcg (xjlt_s h a _) Int32.lt_iff_toInt_lt.symm
  | ge => exact xjcg (xjnot_s (xjlt_s h a _)) (by show _ ↔ y ≤ (xjdn r a).1; rw [Int32.le_iff_toInt_le]; omega)
  | gt => exact xjcg (xjnot_s (xjlt_s h a _)) (by show _ ↔ y < (xjdn r a).1; rw [Int32.lt_iff_toInt_lt]; omega)
  | le => exact xjcg (xjlt_s h a _) (by show _ ↔ (xjdn r a).1 ≤ y; rw [Int32.le_iff_toInt_le]; omega)
/-- the comparison the other way round -/
def xjflip : ClassFile.Cond → ClassFile.Cond
  | .eq => .eq
  | .ne => .ne
  | .lt => .gt
  | .ge => .le
  | .gt => .lt
  | .le => .ge
theorem xjflip_s (c : ClassFile.Cond) (x y : Int32) : xjcd (xjflip c) y x ↔ xjcd c x y := by
  cases c <;> simp only [xjflip, xjcd, eq_comm]
/-- ends of a comparison of two unknowns -/
def xjtt (F : xjF) (c : ClassFile.Cond) (a b : xjE) : List (Bool × xjF) := match c with
  | .eq => xjone F (.pow (.add a b) 21)
  | .ne => xjnot (xjone F (.pow (.add a b) 21))
  | .lt => xjone F (.pow (.add a b) 20)
  | .ge => xjnot (xjone F (.pow (.add a b) 20))
  | .gt => xjone F (.pow (.add b a) 20)
  | .le => xjnot (xjone F (.pow (.add b a) 20))
theorem xjb20 (x y : Int32) : (x < y ∧ xjb 20 x y = 1) ∨ (¬ x < y ∧ xjb 20 x y = 0) := by
  by_cases h : x < y
  · exact Or.inl ⟨h, by simp [xjb, h]⟩
  · exact Or.inr ⟨h, by simp [xjb, h]⟩
theorem xjb21 (x y : Int32) : (x = y ∧ xjb 21 x y = 1) ∨ (¬ x = y ∧ xjb 21 x y = 0) := by
  by_cases h : x = y
  · exact Or.inl ⟨h, by simp [xjb, h]⟩
  · exact Or.inr ⟨h, by simp [xjb, h]⟩
theorem xjtt_s {r : Nat → Int32 × Int64} {F : xjF} (h : xjH r F) (c : ClassFile.Cond) (a b : xjE) : ∃ q ∈ xjtt F c a b, xjH r q.2 ∧ (q.1 = true ↔ xjcd c (xjdn r a).1 (xjdn r b).1) := by
  cases c with
  | eq => exact xjone_s h _ (xjb21 _ _)
  | ne => exact xjnot_s (xjone_s h _ (xjb21 _ _))
  | lt => exact xjone_s h _ (xjb20 _ _)
  | ge => exact xjcg (xjnot_s (xjone_s h _ (xjb20 (xjdn r a).1 (xjdn r b).1))) Int32.not_lt
  | gt => exact xjone_s h _ (xjb20 _ _)
  | le => exact xjcg (xjnot_s (xjone_s h _ (xjb20 (xjdn r b).1 (xjdn r a).1))) Int32.not_lt
def xjtest (F : xjF) (c : ClassFile.Cond) : xjE → xjE → List (Bool × xjF)
  | a, .num k => xjtn F c a (xjw k)
  | .num k, b => xjtn F (xjflip c) b (xjw k)
  | a, b => xjtt F c a b
theorem xjtest_s {r : Nat → Int32 × Int64} {F : xjF} (h : xjH r F) (c : ClassFile.Cond) (a b : xjE) : ∃ q ∈ xjtest F c a b, xjH r q.2 ∧ (q.1 = true ↔ xjcd c (xjdn r a).1 (xjdn r b).1) := by
  unfold xjtest
  split
  · exact xjtn_s h c _ (xjw_t _)
  · exact xjcg (xjtn_s h (xjflip c) _ (xjw_t _)) (xjflip_s c _ _)
  · exact xjtt_s h c _ _
end XJ2
