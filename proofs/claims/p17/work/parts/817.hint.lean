noncomputable section EZB6
/-! E2: facts told at places of a method's own: each kind is shown here once, for all values -/
variable {Q : ezR → Prop} {T : ycT} {r : ezR} {F : xF}
abbrev ezHts := List (Nat × List (Nat × List xjE))
theorem ezsh1 : ∀ n : Fin 30, xop 20 1 ((n.val : Int) + 1) = 2 * xop 20 1 (n.val : Int) := by decide +kernel
theorem ezhm2 {a b c : Int} (h : 0 ≤ b - a) (hc : 0 ≤ c) : 0 ≤ b * c - a * c := by
  have := Int.mul_le_mul_of_nonneg_right (show a ≤ b by omega) hc
  omega
theorem ezhdq {x c : Int} (h0 : 0 ≤ x) (h1 : x ≤ 2147483647) (c1 : 1 ≤ c) (c2 : c ≤ 2147483647) : xop 23 x c = x / c ∧ xop 24 x c = x % c := by
  have e7 : xop 23 x c = ((x.toNat / c.toNat : Nat) : Int) := by
    show (Int32.ofInt x / Int32.ofInt c).toInt = _
    rw [xofn (v := x) (by omega) (by omega), xofn (v := c) (by omega) (by omega), pk_div (by omega) (by omega) (by omega)]
    exact nI_toInt (Nat.lt_of_le_of_lt (Nat.div_le_self _ _) (by omega))
  have e8 : xop 24 x c = ((x.toNat % c.toNat : Nat) : Int) := by
    show (Int32.ofInt x - Int32.ofInt x / Int32.ofInt c * Int32.ofInt c).toInt = _
    rw [xofn (v := x) (by omega) (by omega), xofn (v := c) (by omega) (by omega), pk_rem (by omega) (by omega) (by omega)]
    exact nI_toInt (Nat.lt_of_le_of_lt (Nat.mod_le _ _) (by omega))
  rw [e7, e8, Int.natCast_ediv, Int.natCast_emod, Int.toNat_of_nonneg h0, Int.toNat_of_nonneg (by omega)]
  exact ⟨rfl, rfl⟩
/-- w a - w b >= 1, w >= 1: a - b >= 1 -/
def ezh6 (a b w : xjE) (F : xF) (K : xF → Bool) : Bool := bif ezblo F w 1 && (ezblo F (.sub (ezml a w) (ezml b w)) 1 || (ezblo F (.sub (ezml a w) (ezml w b)) 1 || (ezblo F (.sub (ezml w a) (ezml b w)) 1 || ezblo F (.sub (ezml w a) (ezml w b)) 1))) then xfi (eziv F (.sub a b)).2 (fun u => ezpt F (.sub a b) 1 u K) else K F
theorem ezh6_s (H : ezH Q r F) {a b w : xjE} {K : xF → Bool} (h : ezh6 a b w F K = true) : ∃ F2, ezH Q r F2 ∧ K F2 = true := by
  unfold ezh6 at h
  revert h
  cases hb : ezblo F w 1 && (ezblo F (.sub (ezml a w) (ezml b w)) 1 || (ezblo F (.sub (ezml a w) (ezml w b)) 1 || (ezblo F (.sub (ezml w a) (ezml b w)) 1 || ezblo F (.sub (ezml w a) (ezml w b)) 1))) with
  | false => intro h; exact ⟨F, H, h⟩
  | true =>
    simp only [cond_true, xfi_s]
    intro h
    rw [Bool.and_eq_true, Bool.or_eq_true, Bool.or_eq_true, Bool.or_eq_true] at hb
    have d0 := ezblo_s H hb.1
    have d : 1 ≤ ezden r a * ezden r w - ezden r b * ezden r w := by
      rcases hb.2 with t | t | t | t
      · have t : 1 ≤ ezden r (ezml a w) - ezden r (ezml b w) := ezblo_s H t
        rw [ezml_s, ezml_s] at t; exact t
      · have t : 1 ≤ ezden r (ezml a w) - ezden r (ezml w b) := ezblo_s H t
        rw [ezml_s, ezml_s, Int.mul_comm (ezden r w) (ezden r b)] at t; exact t
      · have t : 1 ≤ ezden r (ezml w a) - ezden r (ezml b w) := ezblo_s H t
        rw [ezml_s, ezml_s, Int.mul_comm (ezden r w) (ezden r a)] at t; exact t
      · have t : 1 ≤ ezden r (ezml w a) - ezden r (ezml w b) := ezblo_s H t
        rw [ezml_s, ezml_s, Int.mul_comm (ezden r w) (ezden r a), Int.mul_comm (ezden r w) (ezden r b)] at t; exact t
    have q : 1 ≤ ezden r a - ezden r b := by
      rcases Int.lt_or_le (ezden r b) (ezden r a) with t | t
      · omega
      · have := Int.mul_le_mul_of_nonneg_right t (show 0 ≤ ezden r w by omega)
        omega
    exact ezpt_s H h q (eziv_s H (.sub a b)).2
/-- a = b (a / b) + a % b -/
def ezh7 (a b : xjE) (F : xF) (K : xF → Bool) : Bool := bif !(eznm a) && (ezblo F a 0 && (ezblo F b 1 && (xle (eziv F a).2 2147483647 && xle (eziv F b).2 2147483647))) then
    xfi ((eziv F b).2 - 1) (fun u => ezpt F (.sub a (ezml b (.pow (.add a b) 23))) 0 u (fun F => xfi (eziv F b).2 (fun u => ezpt F (.sub b (.sub a (ezml b (.pow (.add a b) 23)))) 1 u (fun F => ezpt F (.sub (.sub a (ezml b (.pow (.add a b) 23))) (.pow (.add a b) 24)) 0 0 (fun F =>
      xfi (eziv F a).2 (fun u => ezpt F (.pow (.add a b) 23) 0 u (fun F => xfi (eziv F a).2 (fun u => ezpt F (.sub a (.pow (.add a b) 24)) 0 u K)))))))) else K F
theorem ezh7_s (H : ezH Q r F) {a b : xjE} {K : xF → Bool} (h : ezh7 a b F K = true) : ∃ F2, ezH Q r F2 ∧ K F2 = true := by
  unfold ezh7 at h
  revert h
  cases hb : !(eznm a) && (ezblo F a 0 && (ezblo F b 1 && (xle (eziv F a).2 2147483647 && xle (eziv F b).2 2147483647))) with
  | false => intro h; exact ⟨F, H, h⟩
  | true =>
    simp only [cond_true, xfi_s]
    intro h
    simp only [Bool.and_eq_true, xle_iff] at hb
    obtain ⟨-, b1, b2, b3, b4⟩ := hb
    have b1 := ezblo_s H b1
    have b2 := ezblo_s H b2
    have i1 := (eziv_s H a).2
    have i2 := (eziv_s H b).2
    have q := ezhdq (x := ezden r a) (c := ezden r b) (by omega) (by omega) (by omega) (by omega)
    have m1 := Int.emod_nonneg (ezden r a) (show ezden r b ≠ 0 by omega)
    have m2 := Int.emod_lt_of_pos (ezden r a) (show 0 < ezden r b by omega)
    have m3 := Int.emod_def (ezden r a) (ezden r b)
    have m4 := Int.ediv_nonneg (show 0 ≤ ezden r a by omega) (show 0 ≤ ezden r b by omega)
    have m5 := Int.ediv_le_self (ezden r b) (show 0 ≤ ezden r a by omega)
    have m6 := Int.mul_nonneg (show 0 ≤ ezden r b by omega) m4
    have t1 : ezden r (.sub a (ezml b (.pow (.add a b) 23))) = ezden r a - ezden r b * (ezden r a / ezden r b) := by
      show ezden r a - ezden r (ezml b (.pow (.add a b) 23)) = _
      rw [ezml_s, ← q.1]; rfl
    have t2 : ezden r (.pow (.add a b) 23) = ezden r a / ezden r b := q.1
    have t3 : ezden r (.pow (.add a b) 24) = ezden r a % ezden r b := q.2
    obtain ⟨F2, H2, h⟩ := ezpt_s H h (by rw [t1]; omega) (by rw [t1]; omega)
    have i3 := (eziv_s H2 b).2
    obtain ⟨F3, H3, h⟩ := ezpt_s H2 h (by show 1 ≤ ezden r b - ezden r (.sub a (ezml b (.pow (.add a b) 23))); rw [t1]; omega) (by show ezden r b - ezden r (.sub a (ezml b (.pow (.add a b) 23))) ≤ _; rw [t1]; omega)
    obtain ⟨F4, H4, h⟩ := ezpt_s H3 h (by show 0 ≤ ezden r (.sub a (ezml b (.pow (.add a b) 23))) - ezden r (.pow (.add a b) 24); rw [t1, t3]; omega) (by show ezden r (.sub a (ezml b (.pow (.add a b) 23))) - ezden r (.pow (.add a b) 24) ≤ 0; rw [t1, t3]; omega)
    have i4 := (eziv_s H4 a).2
    obtain ⟨F5, H5, h⟩ := ezpt_s H4 h (by rw [t2]; omega) (by rw [t2]; omega)
    have i5 := (eziv_s H5 a).2
    exact ezpt_s H5 h (by show 0 ≤ ezden r a - ezden r (.pow (.add a b) 24); rw [t3]; omega) (by show ezden r a - ezden r (.pow (.add a b) 24) ≤ _; rw [t3]; omega)
/-- two reads of one cell at the same place; the same operation upon the same numbers -/
def ezh8 (a b : xjE) (F : xF) (K : xF → Bool) : Bool := match a, b with
  | .pow (.mul c j) v, .pow (.mul c2 j2) v2 => bif Nat.beq v v2 && (xeq c c2 && (!(xeq j j2) && ezbd F (.sub j j2) 0 0)) then ezpt F (.sub (.pow (.mul c j) v) (.pow (.mul c2 j2) v2)) 0 0 K else K F
  | _, _ => K F
theorem ezh8_s (H : ezH Q r F) {a b : xjE} {K : xF → Bool} (h : ezh8 a b F K = true) : ∃ F2, ezH Q r F2 ∧ K F2 = true := by
  unfold ezh8 at h
  split at h
  · rename_i c j v c2 j2 v2
    revert h
    cases hb : Nat.beq v v2 && (xeq c c2 && (!(xeq j j2) && ezbd F (.sub j j2) 0 0)) with
    | false => intro h; exact ⟨F, H, h⟩
    | true =>
      simp only [cond_true]
      intro h
      simp only [Bool.and_eq_true] at hb
      obtain ⟨b1, b2, -, b3⟩ := hb
      have d : 0 ≤ ezden r j - ezden r j2 ∧ ezden r j - ezden r j2 ≤ 0 := ezbd_s H b3
      have e : ezden r (.sub (.pow (.mul c j) v) (.pow (.mul c2 j2) v2)) = 0 := by
        show r.2.1 v (ezden r c) (ezden r j) - r.2.1 v2 (ezden r c2) (ezden r j2) = 0
        rw [Nat.eq_of_beq_eq_true b1, xeq_s b2, show ezden r j = ezden r j2 by omega]
        exact Int.sub_self _
      exact ezpt_s H h (by rw [e]; decide) (by rw [e]; decide)
  · exact ⟨F, H, h⟩
def ezh13 (a b : xjE) (F : xF) (K : xF → Bool) : Bool := match a, b with
  | .pow (.add x y) k, .pow (.add x2 y2) k2 => bif Nat.beq k k2 && (!(xeq (.pow (.add x y) k) (.pow (.add x2 y2) k2)) && (ezbd F (.sub x x2) 0 0 && ezbd F (.sub y y2) 0 0)) then ezpt F (.sub (.pow (.add x y) k) (.pow (.add x2 y2) k2)) 0 0 K else K F
  | _, _ => K F
theorem ezh13_s (H : ezH Q r F) {a b : xjE} {K : xF → Bool} (h : ezh13 a b F K = true) : ∃ F2, ezH Q r F2 ∧ K F2 = true := by
  unfold ezh13 at h
  split at h
  · rename_i x y k x2 y2 k2
    revert h
    cases hb : Nat.beq k k2 && (!(xeq (.pow (.add x y) k) (.pow (.add x2 y2) k2)) && (ezbd F (.sub x x2) 0 0 && ezbd F (.sub y y2) 0 0)) with
    | false => intro h; exact ⟨F, H, h⟩
    | true =>
      simp only [cond_true]
      intro h
      simp only [Bool.and_eq_true] at hb
      obtain ⟨b1, -, b2, b3⟩ := hb
      have d : 0 ≤ ezden r x - ezden r x2 ∧ ezden r x - ezden r x2 ≤ 0 := ezbd_s H b2
      have d2 : 0 ≤ ezden r y - ezden r y2 ∧ ezden r y - ezden r y2 ≤ 0 := ezbd_s H b3
      have e : ezden r (.sub (.pow (.add x y) k) (.pow (.add x2 y2) k2)) = 0 := by
        show xop k (ezden r x) (ezden r y) - xop k2 (ezden r x2) (ezden r y2) = 0
        rw [Nat.eq_of_beq_eq_true b1, show ezden r x = ezden r x2 by omega, show ezden r y = ezden r y2 by omega]
        exact Int.sub_self _
      exact ezpt_s H h (by rw [e]; decide) (by rw [e]; decide)
  · exact ⟨F, H, h⟩
/-- the same number: what is known of one is known of the other -/
def ezh9 (a b : xjE) (F : xF) (K : xF → Bool) : Bool := bif (!(eznm a) && !(eznm b)) && ezbd F (.sub a b) 0 0 then xfi (eziv F b).1 (fun x => xfi (eziv F b).2 (fun y => ezpt F a x y (fun F => xfi (eziv F a).1 (fun x => xfi (eziv F a).2 (fun y => ezpt F b x y K))))) else K F
theorem ezh9_s (H : ezH Q r F) {a b : xjE} {K : xF → Bool} (h : ezh9 a b F K = true) : ∃ F2, ezH Q r F2 ∧ K F2 = true := by
  unfold ezh9 at h
  revert h
  cases hb : (!(eznm a) && !(eznm b)) && ezbd F (.sub a b) 0 0 with
  | false => intro h; exact ⟨F, H, h⟩
  | true =>
    simp only [cond_true, xfi_s]
    intro h
    rw [Bool.and_eq_true] at hb
    have d : 0 ≤ ezden r a - ezden r b ∧ ezden r a - ezden r b ≤ 0 := ezbd_s H hb.2
    have i1 := eziv_s H b
    obtain ⟨F2, H2, h⟩ := ezpt_s H h (by omega) (by omega)
    have i2 := eziv_s H2 a
    exact ezpt_s H2 h (by omega) (by omega)
/-- what is found of a term, told -/
def ezh10 (e a b : xjE) (F : xF) (K : xF → Bool) : Bool := match a, b with
  | .num x, .num y => bif !(eznm e) && ezbd F e x y then ezpt F e x y K else K F
  | _, _ => K F
theorem ezh10_s (H : ezH Q r F) {e a b : xjE} {K : xF → Bool} (h : ezh10 e a b F K = true) : ∃ F2, ezH Q r F2 ∧ K F2 = true := by
  unfold ezh10 at h
  split at h
  · rename_i x y
    revert h
    cases hb : !(eznm e) && ezbd F e x y with
    | false => intro h; exact ⟨F, H, h⟩
    | true =>
      intro h
      rw [Bool.and_eq_true] at hb
      have d := ezbd_s H hb.2
      exact ezpt_s H h d.1 d.2
  · exact ⟨F, H, h⟩
/-- a b >= 1, neither below 0: both are 1 or more -/
def ezh11 (a b : xjE) (F : xF) (K : xF → Bool) : Bool := bif ezblo F a 0 && (ezblo F b 0 && ezblo F (ezml a b) 1) then xfi (eziv F a).2 (fun u => xfi (eziv F b).2 (fun v => ezpt F a 1 u (fun F => ezpt F b 1 v K))) else K F
theorem ezh11_s (H : ezH Q r F) {a b : xjE} {K : xF → Bool} (h : ezh11 a b F K = true) : ∃ F2, ezH Q r F2 ∧ K F2 = true := by
  unfold ezh11 at h
  revert h
  cases hb : ezblo F a 0 && (ezblo F b 0 && ezblo F (ezml a b) 1) with
  | false => intro h; exact ⟨F, H, h⟩
  | true =>
    simp only [cond_true, xfi_s]
    intro h
    simp only [Bool.and_eq_true] at hb
    have d1 := ezblo_s H hb.1
    have d2 := ezblo_s H hb.2.1
    have d3 := ezblo_s H hb.2.2
    rw [ezml_s] at d3
    have e1 : ezden r a ≠ 0 := fun z => by rw [z, Int.zero_mul] at d3; omega
    have e2 : ezden r b ≠ 0 := fun z => by rw [z, Int.mul_zero] at d3; omega
    have i1 := (eziv_s H a).2
    have i2 := (eziv_s H b).2
    obtain ⟨F2, H2, h⟩ := ezpt_s H h (by omega) i1
    exact ezpt_s H2 h (by omega) i2
theorem ezhmn (k : Nat) (x y : Int) : (xop 97 x y = x ∧ x ≤ y ∨ xop 97 x y = y ∧ y ≤ x) ∧ (xop 81 x y = y ∧ x ≤ y ∨ xop 81 x y = x ∧ y ≤ x) := by
  have e1 : xop 97 x y = bif xle x y then x else y := rfl
  have e2 : xop 81 x y = bif xle x y then y else x := rfl
  rw [e1, e2]
  cases h : xle x y with
  | true =>
    rw [xle_iff] at h
    exact ⟨Or.inl ⟨rfl, h⟩, Or.inl ⟨rfl, h⟩⟩
  | false =>
    have h : ¬ x ≤ y := fun z => by rw [xle_iff.mpr z] at h; cases h
    exact ⟨Or.inr ⟨rfl, by omega⟩, Or.inr ⟨rfl, by omega⟩⟩
/-- the lesser, the greater of two, told apart -/
def ezh12 (a b : xjE) (F : xF) (K : xF → Bool) : Bool := bif ezbhi F (.sub a b) 0 then ezpt F (.sub (.pow (.add a b) 97) a) 0 0 (fun F => ezpt F (.sub (.pow (.add a b) 81) b) 0 0 K) else bif ezblo F (.sub a b) 0 then ezpt F (.sub (.pow (.add a b) 97) b) 0 0 (fun F => ezpt F (.sub (.pow (.add a b) 81) a) 0 0 K) else K F
theorem ezh12_s (H : ezH Q r F) {a b : xjE} {K : xF → Bool} (h : ezh12 a b F K = true) : ∃ F2, ezH Q r F2 ∧ K F2 = true := by
  have m := ezhmn 0 (ezden r a) (ezden r b)
  have t1 : ezden r (.sub (.pow (.add a b) 97) a) = xop 97 (ezden r a) (ezden r b) - ezden r a := rfl
  have t2 : ezden r (.sub (.pow (.add a b) 81) b) = xop 81 (ezden r a) (ezden r b) - ezden r b := rfl
  have t3 : ezden r (.sub (.pow (.add a b) 97) b) = xop 97 (ezden r a) (ezden r b) - ezden r b := rfl
  have t4 : ezden r (.sub (.pow (.add a b) 81) a) = xop 81 (ezden r a) (ezden r b) - ezden r a := rfl
  unfold ezh12 at h
  revert h
  cases hb : ezbhi F (.sub a b) 0 with
  | true =>
    simp only [cond_true]
    intro h
    have d : ezden r a - ezden r b ≤ 0 := ezbhi_s H hb
    obtain ⟨F2, H2, h⟩ := ezpt_s H h (by rw [t1]; omega) (by rw [t1]; omega)
    exact ezpt_s H2 h (by rw [t2]; omega) (by rw [t2]; omega)
  | false =>
    simp only [cond_false]
    cases hb : ezblo F (.sub a b) 0 with
    | false => intro h; exact ⟨F, H, h⟩
    | true =>
      simp only [cond_true]
      intro h
      have d : 0 ≤ ezden r a - ezden r b := ezblo_s H hb
      obtain ⟨F2, H2, h⟩ := ezpt_s H h (by rw [t3]; omega) (by rw [t3]; omega)
      exact ezpt_s H2 h (by rw [t4]; omega) (by rw [t4]; omega)
/-- the lesser of two is not above z, the first one is: the other one isn't -/
def ezh14 (a b c : xjE) (F : xF) (K : xF → Bool) : Bool := match c with
  | .num z => bif ezbhi F (.pow (.add a b) 97) z && ezblo F a (z + 1) then xfi (eziv F b).1 (fun u => ezpt F b u z K) else K F
  | _ => K F
theorem ezh14_s (H : ezH Q r F) {a b c : xjE} {K : xF → Bool} (h : ezh14 a b c F K = true) : ∃ F2, ezH Q r F2 ∧ K F2 = true := by
  unfold ezh14 at h
  split at h
  · rename_i z
    revert h
    cases hb : ezbhi F (.pow (.add a b) 97) z && ezblo F a (z + 1) with
    | false => intro h; exact ⟨F, H, h⟩
    | true =>
      simp only [cond_true, xfi_s]
      intro h
      rw [Bool.and_eq_true] at hb
      have m := ezhmn 0 (ezden r a) (ezden r b)
      have d1 : xop 97 (ezden r a) (ezden r b) ≤ z := ezbhi_s H hb.1
      have d2 := ezblo_s H hb.2
      exact ezpt_s H h (eziv_s H b).1 (by omega)
  · exact ⟨F, H, h⟩
/-- the greater of two is not above z: neither is -/
def ezh15 (a b c : xjE) (F : xF) (K : xF → Bool) : Bool := match c with
  | .num z => bif ezbhi F (.pow (.add a b) 81) z then xfi (eziv F a).1 (fun u => xfi (eziv F b).1 (fun v => ezpt F a u z (fun F => ezpt F b v z K))) else K F
  | _ => K F
theorem ezh15_s (H : ezH Q r F) {a b c : xjE} {K : xF → Bool} (h : ezh15 a b c F K = true) : ∃ F2, ezH Q r F2 ∧ K F2 = true := by
  unfold ezh15 at h
  split at h
  · rename_i z
    revert h
    cases hb : ezbhi F (.pow (.add a b) 81) z with
    | false => intro h; exact ⟨F, H, h⟩
    | true =>
      simp only [cond_true, xfi_s]
      intro h
      have m := ezhmn 0 (ezden r a) (ezden r b)
      have d1 : xop 81 (ezden r a) (ezden r b) ≤ z := ezbhi_s H hb
      have i1 := (eziv_s H a).1
      have i2 := (eziv_s H b).1
      obtain ⟨F2, H2, h⟩ := ezpt_s H h i1 (by omega)
      exact ezpt_s H2 h i2 (by omega)
  · exact ⟨F, H, h⟩
/-- a + d <= b, c >= 0: c a + d c <= c b -/
def ezt18 (a b c d : xjE) : xjE := .sub (.sub (ezml c b) (ezml c a)) (ezml d c)
def ezh18 (a b c d : xjE) (F : xF) (K : xF → Bool) : Bool := bif ezblo F (.sub (.sub b a) d) 0 && ezblo F c 0 then xfi (eziv F (ezt18 a b c d)).2 (fun u => ezpt F (ezt18 a b c d) 0 u K) else K F
theorem ezh18_s (H : ezH Q r F) {a b c d : xjE} {K : xF → Bool} (h : ezh18 a b c d F K = true) : ∃ F2, ezH Q r F2 ∧ K F2 = true := by
  unfold ezh18 at h
  revert h
  cases hb : ezblo F (.sub (.sub b a) d) 0 && ezblo F c 0 with
  | false => intro h; exact ⟨F, H, h⟩
  | true =>
    simp only [cond_true, xfi_s]
    intro h
    rw [Bool.and_eq_true] at hb
    have d1 : 0 ≤ ezden r b - ezden r a - ezden r d := ezblo_s H hb.1
    have d2 : 0 ≤ ezden r c := ezblo_s H hb.2
    have e2 : ezden r (ezt18 a b c d) = ezden r c * ezden r b - ezden r c * ezden r a - ezden r d * ezden r c := by
      show ezden r (ezml c b) - ezden r (ezml c a) - ezden r (ezml d c) = _
      rw [ezml_s, ezml_s, ezml_s]
    have iv := eziv_s H (ezt18 a b c d)
    have m := Int.mul_nonneg d1 d2
    rw [Int.sub_mul, Int.sub_mul, Int.mul_comm (ezden r b), Int.mul_comm (ezden r a)] at m
    exact ezpt_s H h (by rw [e2]; exact m) iv.2
/-- a product of two between their ends: four lines -/
theorem ezm17a {a b x y : Int} (h1 : x ≤ a) (h2 : y ≤ b) : -(x * y) ≤ a * b - (x * b + y * a) := by
  have m := Int.mul_nonneg (show 0 ≤ a - x by omega) (show 0 ≤ b - y by omega)
  rw [Int.sub_mul, Int.mul_sub, Int.mul_sub, Int.mul_comm a y] at m
  omega
theorem ezm17b {a b x y : Int} (h1 : a ≤ x) (h2 : b ≤ y) : -(x * y) ≤ a * b - (x * b + y * a) := by
  have m := Int.mul_nonneg (show 0 ≤ x - a by omega) (show 0 ≤ y - b by omega)
  rw [Int.sub_mul, Int.mul_sub, Int.mul_sub, Int.mul_comm a y] at m
  omega
theorem ezm17c {a b x y : Int} (h1 : a ≤ x) (h2 : y ≤ b) : x * y ≤ (x * b + y * a) - a * b := by
  have m := Int.mul_nonneg (show 0 ≤ x - a by omega) (show 0 ≤ b - y by omega)
  rw [Int.sub_mul, Int.mul_sub, Int.mul_sub, Int.mul_comm a y] at m
  omega
theorem ezm17d {a b x y : Int} (h1 : x ≤ a) (h2 : b ≤ y) : x * y ≤ (x * b + y * a) - a * b := by
  have m := Int.mul_nonneg (show 0 ≤ a - x by omega) (show 0 ≤ y - b by omega)
  rw [Int.sub_mul, Int.mul_sub, Int.mul_sub, Int.mul_comm a y] at m
  omega
def ezt17 (a b : xjE) (x y : Int) : xjE := .sub (ezml a b) (.add (ezml (.num x) b) (ezml (.num y) a))
def ezu17 (a b : xjE) (x y : Int) : xjE := .sub (.add (ezml (.num x) b) (ezml (.num y) a)) (ezml a b)
theorem ezt17_s {a b : xjE} {x y : Int} : ezden r (ezt17 a b x y) = ezden r a * ezden r b - (x * ezden r b + y * ezden r a) := by
  show ezden r (ezml a b) - (ezden r (ezml (.num x) b) + ezden r (ezml (.num y) a)) = _
  rw [ezml_s, ezml_s, ezml_s]; rfl
theorem ezu17_s {a b : xjE} {x y : Int} : ezden r (ezu17 a b x y) = (x * ezden r b + y * ezden r a) - ezden r a * ezden r b := by
  show (ezden r (ezml (.num x) b) + ezden r (ezml (.num y) a)) - ezden r (ezml a b) = _
  rw [ezml_s, ezml_s, ezml_s]; rfl
/-- x, y, x2, y2 are told: the ends of a and b -/
def ezh17 (a b : xjE) (x y x2 y2 : Int) (F : xF) (K : xF → Bool) : Bool := bif ezbd F a x x2 && ezbd F b y y2 then
  xfi (eziv F (ezt17 a b x y)).2 (fun u => ezpt F (ezt17 a b x y) (-(x * y)) u (fun F => xfi (eziv F (ezt17 a b x2 y2)).2 (fun u => ezpt F (ezt17 a b x2 y2) (-(x2 * y2)) u (fun F =>
  xfi (eziv F (ezu17 a b x2 y)).2 (fun u => ezpt F (ezu17 a b x2 y) (x2 * y) u (fun F => xfi (eziv F (ezu17 a b x y2)).2 (fun u => ezpt F (ezu17 a b x y2) (x * y2) u K))))))) else K F
theorem ezh17_s (H : ezH Q r F) {a b : xjE} {x y x2 y2 : Int} {K : xF → Bool} (h : ezh17 a b x y x2 y2 F K = true) : ∃ F2, ezH Q r F2 ∧ K F2 = true := by
  unfold ezh17 at h
  revert h
  cases hb : ezbd F a x x2 && ezbd F b y y2 with
  | false => intro h; exact ⟨F, H, h⟩
  | true =>
    simp only [cond_true, xfi_s]
    intro h
    rw [Bool.and_eq_true] at hb
    have d1 := ezbd_s H hb.1
    have d2 := ezbd_s H hb.2
    obtain ⟨F2, H2, h⟩ := ezpt_s H h (by rw [ezt17_s]; exact ezm17a d1.1 d2.1) (eziv_s H _).2
    obtain ⟨F3, H3, h⟩ := ezpt_s H2 h (by rw [ezt17_s]; exact ezm17b d1.2 d2.2) (eziv_s H2 _).2
    obtain ⟨F4, H4, h⟩ := ezpt_s H3 h (by rw [ezu17_s]; exact ezm17c d1.2 d2.1) (eziv_s H3 _).2
    exact ezpt_s H4 h (by rw [ezu17_s]; exact ezm17d d1.1 d2.2) (eziv_s H4 _).2
/-- what the parts of a term tell -/
def ezh16 (e : xjE) (F : xF) (K : xF → Bool) : Bool := match e with
  | .mul a b => xfi (xmuli (eziv F a) (eziv F b)).1 (fun lo => xfi (xmuli (eziv F a) (eziv F b)).2 (fun hi => ezfact F (.mul a b) lo hi K))
  | .pow (.add a b) k => xfi (ezivop k (eziv F a) (eziv F b)).1 (fun lo => xfi (ezivop k (eziv F a) (eziv F b)).2 (fun hi => ezfact F (.pow (.add a b) k) lo hi K))
  | _ => K F
theorem ezh16_s (H : ezH Q r F) {e : xjE} {K : xF → Bool} (h : ezh16 e F K = true) : ∃ F2, ezH Q r F2 ∧ K F2 = true := by
  unfold ezh16 at h
  split at h
  · rename_i a b
    rw [xfi_s, xfi_s] at h
    exact ezfact_s H h (xmuli_s (eziv_s H a) (eziv_s H b))
  · rename_i a b k
    rw [xfi_s, xfi_s] at h
    exact ezfact_s H h (ezivop_s (eziv_s H a) (eziv_s H b))
  · exact ⟨F, H, h⟩
/-- a <= b, c >= 0: a c <= b c, c a <= c b -/
def ezh2 (a b c : xjE) (F : xF) (K : xF → Bool) : Bool := bif ezblo F (.sub b a) 0 && ezblo F c 0 then xfi (eziv F (.sub (ezml b c) (ezml a c))).2 (fun u => ezpt F (.sub (ezml b c) (ezml a c)) 0 u (fun F => xfi (eziv F (.sub (ezml c b) (ezml c a))).2 (fun u => ezpt F (.sub (ezml c b) (ezml c a)) 0 u K))) else K F
theorem ezh2_s (H : ezH Q r F) {a b c : xjE} {K : xF → Bool} (h : ezh2 a b c F K = true) : ∃ F2, ezH Q r F2 ∧ K F2 = true := by
  unfold ezh2 at h
  revert h
  cases hb : ezblo F (.sub b a) 0 && ezblo F c 0 with
  | false => intro h; exact ⟨F, H, h⟩
  | true =>
    simp only [cond_true, xfi_s]
    intro h
    rw [Bool.and_eq_true] at hb
    have d : 0 ≤ ezden r b - ezden r a := ezblo_s H hb.1
    have d2 := ezblo_s H hb.2
    have e2 : ezden r (.sub (ezml b c) (ezml a c)) = ezden r b * ezden r c - ezden r a * ezden r c := by
      show ezden r (ezml b c) - ezden r (ezml a c) = _
      rw [ezml_s, ezml_s]
    have e3 : ezden r (.sub (ezml c b) (ezml c a)) = ezden r b * ezden r c - ezden r a * ezden r c := by
      show ezden r (ezml c b) - ezden r (ezml c a) = _
      rw [ezml_s, ezml_s, Int.mul_comm (ezden r c) (ezden r b), Int.mul_comm (ezden r c) (ezden r a)]
    obtain ⟨F2, H2, h⟩ := ezpt_s H h (by rw [e2]; exact ezhm2 d d2) (eziv_s H _).2
    exact ezpt_s H2 h (by rw [e3]; exact ezhm2 d d2) (eziv_s H2 _).2
/-- both numbers known: the operation's -/
def ezh19 (e : xjE) (F : xF) (K : xF → Bool) : Bool := match e with
  | .pow (.add a b) k => bif xle (eziv F a).2 (eziv F a).1 && xle (eziv F b).2 (eziv F b).1 then xfi (xop k (eziv F a).1 (eziv F b).1) (fun u => ezpt F (.pow (.add a b) k) u u K) else K F
  | _ => K F
theorem ezh19_s (H : ezH Q r F) {e : xjE} {K : xF → Bool} (h : ezh19 e F K = true) : ∃ F2, ezH Q r F2 ∧ K F2 = true := by
  unfold ezh19 at h
  split at h
  · rename_i a b k
    revert h
    cases hb : xle (eziv F a).2 (eziv F a).1 && xle (eziv F b).2 (eziv F b).1 with
    | false => intro h; exact ⟨F, H, h⟩
    | true =>
      simp only [cond_true, xfi_s]
      intro h
      rw [Bool.and_eq_true, xle_iff, xle_iff] at hb
      have i1 := eziv_s H a
      have i2 := eziv_s H b
      have e : ezden r (.pow (.add a b) k) = xop k (eziv F a).1 (eziv F b).1 := by
        show xop k (ezden r a) (ezden r b) = _
        rw [show ezden r a = (eziv F a).1 by omega, show ezden r b = (eziv F b).1 by omega]
      exact ezpt_s H h (by rw [e]; exact Int.le_refl _) (by rw [e]; exact Int.le_refl _)
  · exact ⟨F, H, h⟩
/-- two reads at the same place of the same cell, both told by numbers -/
def ezh29 (a b : xjE) (F : xF) (K : xF → Bool) : Bool := match a, b with
  | .pow (.mul c j) v, .pow (.mul c2 j2) v2 => bif Nat.beq v v2 && (!(xeq c c2 && xeq j j2) && (ezbd F (.sub c c2) 0 0 && ezbd F (.sub j j2) 0 0)) then ezpt F (.sub (.pow (.mul c j) v) (.pow (.mul c2 j2) v2)) 0 0 K else K F
  | _, _ => K F
theorem ezh29_s (H : ezH Q r F) {a b : xjE} {K : xF → Bool} (h : ezh29 a b F K = true) : ∃ F2, ezH Q r F2 ∧ K F2 = true := by
  unfold ezh29 at h
  split at h
  · rename_i c j v c2 j2 v2
    revert h
    cases hb : Nat.beq v v2 && (!(xeq c c2 && xeq j j2) && (ezbd F (.sub c c2) 0 0 && ezbd F (.sub j j2) 0 0)) with
    | false => intro h; exact ⟨F, H, h⟩
    | true =>
      simp only [cond_true]
      intro h
      rw [Bool.and_eq_true, Bool.and_eq_true, Bool.and_eq_true] at hb
      obtain ⟨b1, -, b2, b3⟩ := hb
      have d : 0 ≤ ezden r c - ezden r c2 ∧ ezden r c - ezden r c2 ≤ 0 := ezbd_s H b2
      have d2 : 0 ≤ ezden r j - ezden r j2 ∧ ezden r j - ezden r j2 ≤ 0 := ezbd_s H b3
      have e : ezden r (.sub (.pow (.mul c j) v) (.pow (.mul c2 j2) v2)) = 0 := by
        show r.2.1 v (ezden r c) (ezden r j) - r.2.1 v2 (ezden r c2) (ezden r j2) = 0
        rw [Nat.eq_of_beq_eq_true b1, show ezden r c = ezden r c2 by omega, show ezden r j = ezden r j2 by omega]
        exact Int.sub_self _
      exact ezpt_s H h (by rw [e]; decide) (by rw [e]; decide)
  · exact ⟨F, H, h⟩
/-- a b is b a -/
theorem ezh30_s (H : ezH Q r F) {a b : xjE} {K : xF → Bool} (h : ezpt F (.sub (ezml a b) (ezml b a)) 0 0 K = true) : ∃ F2, ezH Q r F2 ∧ K F2 = true := by
  have e : ezden r (.sub (ezml a b) (ezml b a)) = 0 := by
    show ezden r (ezml a b) - ezden r (ezml b a) = 0
    rw [ezml_s, ezml_s, Int.mul_comm]
    exact Int.sub_self _
  exact ezpt_s H h (by rw [e]; decide) (by rw [e]; decide)
/-- (a b) c is a (b c) -/
theorem ezh31_s (H : ezH Q r F) {a b c : xjE} {K : xF → Bool} (h : ezpt F (.sub (ezml (ezml a b) c) (ezml a (ezml b c))) 0 0 K = true) : ∃ F2, ezH Q r F2 ∧ K F2 = true := by
  have e : ezden r (.sub (ezml (ezml a b) c) (ezml a (ezml b c))) = 0 := by
    show ezden r (ezml (ezml a b) c) - ezden r (ezml a (ezml b c)) = 0
    rw [ezml_s, ezml_s, ezml_s, ezml_s, Int.mul_assoc]
    exact Int.sub_self _
  exact ezpt_s H h (by rw [e]; decide) (by rw [e]; decide)
/-- a fact by its kind, where what it asks is seen -/
def ezhc (k : Nat) (es : List xjE) (F : xF) (K : xF → Bool) : Bool := match es with
  | [e] => bif Nat.beq k 1 then (bif ezbd F e 0 29 then ezpt F (.sub (xbin 20 (.num 1) (xlinc e 1)) (.mul (.num 2) (xbin 20 (.num 1) e))) 0 0 K else K F)
    else bif Nat.beq k 3 then (bif xle ((eziv F e).2 - (eziv F e).1) 64 then ezenum F e (fun F _ => K F) else K F)
    else bif Nat.beq k 4 then xfi (xpe e 0).2 (fun c => (ezlt F (xpe e 0).1 c).all (fun q => ezctra q.2 || K q.2)) else bif Nat.beq k 16 then ezh16 e F K else bif Nat.beq k 19 then ezh19 e F K else K F
  | [a, b] => bif Nat.beq k 5 then (bif ezbd F (.sub a b) 0 0 then ezpt F (.sub (xbin 20 (.num 1) a) (xbin 20 (.num 1) b)) 0 0 K else K F)
    else bif Nat.beq k 7 then ezh7 a b F K else bif Nat.beq k 8 then ezh8 a b F K else bif Nat.beq k 9 then ezh9 a b F K else bif Nat.beq k 11 then ezh11 a b F K else bif Nat.beq k 12 then ezh12 a b F K else bif Nat.beq k 13 then ezh13 a b F K else bif Nat.beq k 29 then ezh29 a b F K else bif Nat.beq k 30 then ezpt F (.sub (ezml a b) (ezml b a)) 0 0 K else K F
  | [a, b, c] => bif Nat.beq k 2 then ezh2 a b c F K
    else bif Nat.beq k 6 then ezh6 a b c F K else bif Nat.beq k 10 then ezh10 a b c F K else bif Nat.beq k 14 then ezh14 a b c F K else bif Nat.beq k 15 then ezh15 a b c F K else bif Nat.beq k 31 then ezpt F (.sub (ezml (ezml a b) c) (ezml a (ezml b c))) 0 0 K else K F
  | [a, b, c, d] => bif Nat.beq k 18 then ezh18 a b c d F K else K F
  | [a, b, .num x, .num x2, .num y, .num y2] => bif Nat.beq k 17 then ezh17 a b x y x2 y2 F K else K F
  | _ => K F
theorem ezhc_s (H : ezH Q r F) {k : Nat} {es : List xjE} {K : xF → Bool} (h : ezhc k es F K = true) : ∃ F2, ezH Q r F2 ∧ K F2 = true := by
  unfold ezhc at h
  split at h
  · rename_i e
    revert h
    cases Nat.beq k 1 with
    | true =>
      simp only [cond_true]
      cases hb : ezbd F e 0 29 with
      | false => intro h; exact ⟨F, H, h⟩
      | true =>
        simp only [cond_true]
        intro h
        have b := ezbd_s H hb
        have e1 : ezden r (xbin 20 (.num 1) (xlinc e 1)) = xop 20 1 (ezden r e + 1) := by
          rw [ezbin_s, ezlinc_s]; rfl
        have e2 : ezden r (xbin 20 (.num 1) e) = xop 20 1 (ezden r e) := by
          rw [ezbin_s]; rfl
        have q := ezsh1 ⟨(ezden r e).toNat, by omega⟩
        have q : xop 20 1 (((ezden r e).toNat : Int) + 1) = 2 * xop 20 1 ((ezden r e).toNat : Int) := q
        rw [Int.toNat_of_nonneg b.1, ← e1, ← e2] at q
        have d : ezden r (.sub (xbin 20 (.num 1) (xlinc e 1)) (.mul (.num 2) (xbin 20 (.num 1) e))) = ezden r (xbin 20 (.num 1) (xlinc e 1)) - 2 * ezden r (xbin 20 (.num 1) e) := rfl
        exact ezpt_s H h (by rw [d]; omega) (by rw [d]; omega)
    | false =>
      simp only [cond_false]
      cases Nat.beq k 3 with
      | true =>
        simp only [cond_true]
        cases xle ((eziv F e).2 - (eziv F e).1) 64 with
        | false => intro h; exact ⟨F, H, h⟩
        | true =>
          simp only [cond_true]
          intro h
          obtain ⟨F2, H2, h2⟩ := ezenum_s H h
          exact ⟨F2, H2, h2⟩
      | false =>
        simp only [cond_false]
        cases Nat.beq k 4 with
        | false =>
          simp only [cond_false]
          cases Nat.beq k 16 with
          | true => exact fun h => ezh16_s H h
          | false =>
          simp only [cond_false]
          cases Nat.beq k 19 with
          | true => exact fun h => ezh19_s H h
          | false => intro h; exact ⟨F, H, h⟩
        | true =>
          simp only [cond_true, xfi_s]
          intro h
          obtain ⟨q, hq, H2, -⟩ := ezlt_s H (xpe e 0).1 (xpe e 0).2
          have h2 := List.all_eq_true.mp h q hq
          rw [ezctra_s H2, Bool.false_or] at h2
          exact ⟨q.2, H2, h2⟩
  · rename_i a b
    revert h
    cases Nat.beq k 5 with
    | true =>
      simp only [cond_true]
      cases hb : ezbd F (.sub a b) 0 0 with
      | false => intro h; exact ⟨F, H, h⟩
      | true =>
        simp only [cond_true]
        intro h
        have d := ezbd_s H hb
        have d : 0 ≤ ezden r a - ezden r b ∧ ezden r a - ezden r b ≤ 0 := d
        have e : ezden r a = ezden r b := by omega
        have e2 : ezden r (.sub (xbin 20 (.num 1) a) (xbin 20 (.num 1) b)) = 0 := by
          show ezden r (xbin 20 (.num 1) a) - ezden r (xbin 20 (.num 1) b) = 0
          rw [ezbin_s, ezbin_s, e]
          exact Int.sub_self _
        exact ezpt_s H h (by rw [e2]; decide) (by rw [e2]; decide)
    | false =>
      simp only [cond_false]
      cases Nat.beq k 7 with
      | true => exact fun h => ezh7_s H h
      | false =>
      simp only [cond_false]
      cases Nat.beq k 8 with
      | true => exact fun h => ezh8_s H h
      | false =>
      simp only [cond_false]
      cases Nat.beq k 9 with
      | true => exact fun h => ezh9_s H h
      | false =>
      simp only [cond_false]
      cases Nat.beq k 11 with
      | true => exact fun h => ezh11_s H h
      | false =>
      simp only [cond_false]
      cases Nat.beq k 12 with
      | true => exact fun h => ezh12_s H h
      | false =>
      simp only [cond_false]
      cases Nat.beq k 13 with
      | true => exact fun h => ezh13_s H h
      | false =>
      simp only [cond_false]
      cases Nat.beq k 29 with
      | true => exact fun h => ezh29_s H h
      | false =>
      simp only [cond_false]
      cases Nat.beq k 30 with
      | true => exact fun h => ezh30_s H h
      | false => exact fun h => ⟨F, H, h⟩
  · rename_i a b c
    revert h
    cases Nat.beq k 2 with
    | true => exact fun h => ezh2_s H h
    | false =>
      simp only [cond_false]
      cases Nat.beq k 6 with
      | true => exact fun h => ezh6_s H h
      | false =>
      simp only [cond_false]
      cases Nat.beq k 10 with
      | true => exact fun h => ezh10_s H h
      | false =>
      simp only [cond_false]
      cases Nat.beq k 14 with
      | true => exact fun h => ezh14_s H h
      | false =>
      simp only [cond_false]
      cases Nat.beq k 15 with
      | true => exact fun h => ezh15_s H h
      | false =>
      simp only [cond_false]
      cases Nat.beq k 31 with
      | true => exact fun h => ezh31_s H h
      | false => exact fun h => ⟨F, H, h⟩
  · revert h
    cases Nat.beq k 18 with
    | true => exact fun h => ezh18_s H h
    | false => exact fun h => ⟨F, H, h⟩
  · revert h
    cases Nat.beq k 17 with
    | true => exact fun h => ezh17_s H h
    | false => exact fun h => ⟨F, H, h⟩
  · exact ⟨F, H, h⟩
/-! what is told of ghosts -/
/-- the most that a body makes of a place -/
def ezgm : xjE → Int
  | .num k => bif xle 0 k then k else 0
  | .natCast _ => 0
  | .intCast _ => 0
  | .var _ => 4611686018427387904
  | .neg _ => 0
  | .add _ _ => 4611686018427387904
  | .sub _ _ => 4611686018427387904
  | .mul _ _ => 4611686018427387904
  | .pow a _ => (match a with
    | .mul q w => (match q with
      | .sub _ _ => (match w with
        | .mul t e => xmx (ezgm t) (ezgm e)
        | _ => 0)
      | _ => 0)
    | .add _ _ => 4611686018427387904
    | _ => 0)
theorem ezgm_s (j x y p : Int) : ∀ b : xjE, ezbv j x y p b ≤ ezgm b
  | .num k => by
      show ezcl k ≤ bif xle 0 k then k else 0
      unfold ezcl
      cases h : xle 0 k with
      | true =>
        cases h2 : xle k 4611686018427387904 with
        | true => exact Int.le_refl _
        | false => rw [xle_iff] at h; exact h
      | false => exact Int.le_refl _
  | .natCast _ => Int.le_refl _
  | .intCast _ => Int.le_refl _
  | .var _ => (ezcl_r _).2
  | .neg _ => Int.le_refl _
  | .add _ _ => (ezcl_r _).2
  | .sub _ _ => (ezcl_r _).2
  | .mul _ _ => (ezcl_r _).2
  | .pow (.mul (.sub a b) (.mul t e)) c => by
      show (bif yccd (ezcd c) (ezlf j x y p a) (ezlf j x y p b) then ezbv j x y p t else ezbv j x y p e) ≤ xmx (ezgm t) (ezgm e)
      have m := xmx_s (ezgm t) (ezgm e)
      cases yccd (ezcd c) (ezlf j x y p a) (ezlf j x y p b) with
      | true => exact Int.le_trans (ezgm_s j x y p t) m.1
      | false => exact Int.le_trans (ezgm_s j x y p e) m.2.1
  | .pow (.add _ _) _ => (ezcl_r _).2
  | .pow (.num _) _ => Int.le_refl _
  | .pow (.natCast _) _ => Int.le_refl _
  | .pow (.intCast _) _ => Int.le_refl _
  | .pow (.var _) _ => Int.le_refl _
  | .pow (.neg _) _ => Int.le_refl _
  | .pow (.sub _ _) _ => Int.le_refl _
  | .pow (.pow _ _) _ => Int.le_refl _
  | .pow (.mul (.num _) _) _ => Int.le_refl _
  | .pow (.mul (.natCast _) _) _ => Int.le_refl _
  | .pow (.mul (.intCast _) _) _ => Int.le_refl _
  | .pow (.mul (.var _) _) _ => Int.le_refl _
  | .pow (.mul (.neg _) _) _ => Int.le_refl _
  | .pow (.mul (.add _ _) _) _ => Int.le_refl _
  | .pow (.mul (.mul _ _) _) _ => Int.le_refl _
  | .pow (.mul (.pow _ _) _) _ => Int.le_refl _
  | .pow (.mul (.sub _ _) (.num _)) _ => Int.le_refl _
  | .pow (.mul (.sub _ _) (.natCast _)) _ => Int.le_refl _
  | .pow (.mul (.sub _ _) (.intCast _)) _ => Int.le_refl _
  | .pow (.mul (.sub _ _) (.var _)) _ => Int.le_refl _
  | .pow (.mul (.sub _ _) (.neg _)) _ => Int.le_refl _
  | .pow (.mul (.sub _ _) (.add _ _)) _ => Int.le_refl _
  | .pow (.mul (.sub _ _) (.sub _ _)) _ => Int.le_refl _
  | .pow (.mul (.sub _ _) (.pow _ _)) _ => Int.le_refl _
theorem ezgm_0 (b : xjE) : 0 ≤ ezgm b := Int.le_trans (ezbv_r 0 0 0 0 b).1 (ezgm_s 0 0 0 0 b)
theorem ezgh_1 {z c k p d : Int} {G : Int → Int → Int} (h0 : 0 ≤ k) (h1 : k ≤ 65535) : ezgh z G c (k + 1) p d = ezgh z G c k p d + ezbv k (G c k) (G d k) p (ezGB z) := by
  obtain ⟨n, rfl⟩ := Int.eq_ofNat_of_zero_le h0
  have e1 : ezgN (((n : Nat) : Int) + 1) = n + 1 := by
    unfold ezgN
    rw [show (((n : Nat) : Int) + 1).toNat = n + 1 by omega, Nat.ble_eq.mpr (show n + 1 ≤ 65536 by omega)]
    rfl
  have e2 : ezgN ((n : Nat) : Int) = n := by
    unfold ezgN
    rw [show (((n : Nat) : Int)).toNat = n by omega, Nat.ble_eq.mpr (show n ≤ 65536 by omega)]
    rfl
  unfold ezgh
  rw [e1, e2]
  rfl
theorem ezgs_m {b : xjE} {G : Int → Int → Int} {c d p : Int} {n : Nat} : ∀ m : Nat, n ≤ m → 0 ≤ ezgs b G c d p m - ezgs b G c d p n ∧ ezgs b G c d p m - ezgs b G c d p n ≤ ezgm b * ((m : Int) - (n : Int)) := by
  intro m
  induction m with
  | zero =>
    intro h
    rw [show n = 0 by omega, Int.sub_self, Int.sub_self, Int.mul_zero]
    exact ⟨Int.le_refl _, Int.le_refl _⟩
  | succ m ih =>
    intro h
    by_cases e : n = m + 1
    · rw [e, Int.sub_self, Int.sub_self, Int.mul_zero]
      exact ⟨Int.le_refl _, Int.le_refl _⟩
    · have ih := ih (by omega)
      have q := ezbv_r (m : Int) (G c m) (G d m) p b
      have q2 := ezgm_s (m : Int) (G c m) (G d m) p b
      have e1 : ezgs b G c d p (m + 1) = ezgs b G c d p m + ezbv (m : Int) (G c m) (G d m) p b := rfl
      have e2 : ezgm b * (((m + 1 : Nat) : Int) - (n : Int)) = ezgm b * ((m : Int) - (n : Int)) + ezgm b := by
        rw [show ((m + 1 : Nat) : Int) - (n : Int) = ((m : Int) - (n : Int)) + 1 by omega, Int.mul_add, Int.mul_one]
      rw [e1, e2]
      omega
theorem ezgs_b {b : xjE} {G : Int → Int → Int} {c d p : Int} {i : Nat} : ∀ m : Nat, i < m → ezbv (i : Int) (G c i) (G d i) p b ≤ ezgs b G c d p m := by
  intro m
  induction m with
  | zero => intro h; omega
  | succ m ih =>
    intro h
    have e1 : ezgs b G c d p (m + 1) = ezgs b G c d p m + ezbv (m : Int) (G c m) (G d m) p b := rfl
    have q := ezbv_r (m : Int) (G c m) (G d m) p b
    have q2 := (ezgs_r b G c d p m).1
    by_cases e : i = m
    · rw [e1, e]; omega
    · have := ih (by omega)
      rw [e1]; omega
theorem ezgN_m {k l : Int} (h : k ≤ l) : ezgN k ≤ ezgN l ∧ ((ezgN l : Int) - (ezgN k : Int) ≤ l - k) := by
  unfold ezgN
  cases h1 : Nat.ble k.toNat 65536 with
  | true =>
    have h1 := Nat.ble_eq.mp h1
    cases h2 : Nat.ble l.toNat 65536 with
    | true => show k.toNat ≤ l.toNat ∧ (l.toNat : Int) - (k.toNat : Int) ≤ _; omega
    | false =>
      have h2 : ¬ l.toNat ≤ 65536 := fun z => by rw [Nat.ble_eq.mpr z] at h2; cases h2
      show k.toNat ≤ 65536 ∧ ((65536 : Nat) : Int) - (k.toNat : Int) ≤ _
      omega
  | false =>
    have h1 : ¬ k.toNat ≤ 65536 := fun z => by rw [Nat.ble_eq.mpr z] at h1; cases h1
    cases h2 : Nat.ble l.toNat 65536 with
    | true => have h2 := Nat.ble_eq.mp h2; omega
    | false => show 65536 ≤ 65536 ∧ ((65536 : Nat) : Int) - ((65536 : Nat) : Int) ≤ _; omega
/-- a sum's next place -/
def ezg20 (L1 : List ezLy) (z : Int) (c k p d : xjE) (F : xF) (K : xF → Bool) : Bool := bif ezblo F k 0 && ezbhi F k 65535 then
    ezgg z c (xlinc k 1) p d L1 F (fun F s1 => ezgg z c k p d L1 F (fun F s0 => ezget F L1 c k (fun F x => ezget F L1 d k (fun F y => ezbk k x y p (ezGB z) F (fun F b => xfe (ezdf (ezdf s1 s0) b) (fun e => ezfact F e 0 0 K))))))
  else K F
theorem ezg20_s (H : ezH Q r F) {L1 : List ezLy} {z : Int} {c k p d : xjE} {K : xF → Bool} (h : ezg20 L1 z c k p d F K = true) : ∃ F2, ezH Q r F2 ∧ K F2 = true := by
  unfold ezg20 at h
  revert h
  cases hb : ezblo F k 0 && ezbhi F k 65535 with
  | false => intro h; exact ⟨F, H, h⟩
  | true =>
    simp only [cond_true]
    intro h
    rw [Bool.and_eq_true] at hb
    have k0 := ezblo_s H hb.1
    have k1 := ezbhi_s H hb.2
    obtain ⟨F1, s1, H1, h, d1⟩ := ezgg_s _ H h
    obtain ⟨F2, s0, H2, h, d0⟩ := ezgg_s _ H1 h
    obtain ⟨F3, x, H3, h, dx⟩ := ezget_s H2 h
    obtain ⟨F4, y, H4, h, dy⟩ := ezget_s H3 h
    obtain ⟨F5, b, H5, h, db⟩ := ezbk_s _ H4 h
    rw [xfe_s] at h
    have e : ezden r (ezdf (ezdf s1 s0) b) = 0 := by
      rw [ezdf_s, ezdf_s, d1, d0, db, dx, dy, ezlinc_s, ezgh_1 k0 k1]
      omega
    exact ezfact_s H5 h ⟨by rw [e]; decide, by rw [e]; decide⟩
/-- a place's share is not more than the sum -/
def ezg21 (L1 : List ezLy) (z : Int) (c k p d i : xjE) (F : xF) (K : xF → Bool) : Bool := bif ezblo F i 0 && (ezbhi F i 65535 && ezblo F (.sub k i) 1) then
    ezgg z c k p d L1 F (fun F s => ezget F L1 c i (fun F x => ezget F L1 d i (fun F y => ezbk i x y p (ezGB z) F (fun F b => xfe (ezdf s b) (fun e => xfi (eziv F e).2 (fun u => ezfact F e 0 u K))))))
  else K F
theorem ezg21_s (H : ezH Q r F) {L1 : List ezLy} {z : Int} {c k p d i : xjE} {K : xF → Bool} (h : ezg21 L1 z c k p d i F K = true) : ∃ F2, ezH Q r F2 ∧ K F2 = true := by
  unfold ezg21 at h
  revert h
  cases hb : ezblo F i 0 && (ezbhi F i 65535 && ezblo F (.sub k i) 1) with
  | false => intro h; exact ⟨F, H, h⟩
  | true =>
    simp only [cond_true]
    intro h
    rw [Bool.and_eq_true, Bool.and_eq_true] at hb
    have k0 := ezblo_s H hb.1
    have k1 := ezbhi_s H hb.2.1
    have k2 : 1 ≤ ezden r k - ezden r i := ezblo_s H hb.2.2
    obtain ⟨F2, s, H2, h, d0⟩ := ezgg_s _ H h
    obtain ⟨F3, x, H3, h, dx⟩ := ezget_s H2 h
    obtain ⟨F4, y, H4, h, dy⟩ := ezget_s H3 h
    obtain ⟨F5, b, H5, h, db⟩ := ezbk_s _ H4 h
    rw [xfe_s, xfi_s] at h
    have lt : (ezden r i).toNat < ezgN (ezden r k) := by
      unfold ezgN
      cases h9 : Nat.ble (ezden r k).toNat 65536 with
      | true => show _ < (ezden r k).toNat; omega
      | false => show _ < 65536; omega
    have ei : (((ezden r i).toNat : Nat) : Int) = ezden r i := by omega
    have q := ezgs_b (b := ezGB z) (G := ezhh r L1) (c := ezden r c) (d := ezden r d) (p := ezden r p) (i := (ezden r i).toNat) _ lt
    rw [ei] at q
    have e : ezden r (ezdf s b) = ezgh z (ezhh r L1) (ezden r c) (ezden r k) (ezden r p) (ezden r d) - ezbv (ezden r i) (ezhh r L1 (ezden r c) (ezden r i)) (ezhh r L1 (ezden r d) (ezden r i)) (ezden r p) (ezGB z) := by
      rw [ezdf_s, d0, db, dx, dy]
    refine ezfact_s H5 h ⟨?_, (eziv_s H5 _).2⟩
    rw [e]
    have q : ezbv (ezden r i) (ezhh r L1 (ezden r c) (ezden r i)) (ezhh r L1 (ezden r d) (ezden r i)) (ezden r p) (ezGB z) ≤ ezgh z (ezhh r L1) (ezden r c) (ezden r k) (ezden r p) (ezden r d) := q
    omega
/-- a sum over fewer places is not more, nor less than the most that the others can make -/
def ezg22 (L1 : List ezLy) (z : Int) (c k p d k2 : xjE) (F : xF) (K : xF → Bool) : Bool := bif ezblo F (.sub k2 k) 0 then
    ezgg z c k2 p d L1 F (fun F s2 => ezgg z c k p d L1 F (fun F s1 => xfe (ezdf s2 s1) (fun e => xfi (eziv F e).2 (fun u => ezfact F e 0 u (fun F => ezctra F || xfe (ezdf (ezml (.num (ezgm (ezGB z))) (ezdf k2 k)) e) (fun e2 => xfi (eziv F e2).2 (fun u => ezfact F e2 0 u K)))))))
  else K F
theorem ezg22_s (H : ezH Q r F) {L1 : List ezLy} {z : Int} {c k p d k2 : xjE} {K : xF → Bool} (h : ezg22 L1 z c k p d k2 F K = true) : ∃ F2, ezH Q r F2 ∧ K F2 = true := by
  unfold ezg22 at h
  revert h
  cases hb : ezblo F (.sub k2 k) 0 with
  | false => intro h; exact ⟨F, H, h⟩
  | true =>
    simp only [cond_true]
    intro h
    have k0 : 0 ≤ ezden r k2 - ezden r k := ezblo_s H hb
    obtain ⟨F2, s2, H2, h, d2⟩ := ezgg_s _ H h
    obtain ⟨F3, s1, H3, h, d1⟩ := ezgg_s _ H2 h
    rw [xfe_s, xfi_s] at h
    have nm := ezgN_m (show ezden r k ≤ ezden r k2 by omega)
    have q := ezgs_m (b := ezGB z) (G := ezhh r L1) (c := ezden r c) (d := ezden r d) (p := ezden r p) (n := ezgN (ezden r k)) (ezgN (ezden r k2)) nm.1
    have e : ezden r (ezdf s2 s1) = ezgs (ezGB z) (ezhh r L1) (ezden r c) (ezden r d) (ezden r p) (ezgN (ezden r k2)) - ezgs (ezGB z) (ezhh r L1) (ezden r c) (ezden r d) (ezden r p) (ezgN (ezden r k)) := by
      rw [ezdf_s, d2, d1]; rfl
    obtain ⟨F4, H4, h⟩ := ezfact_s H3 h ⟨by rw [e]; exact q.1, (eziv_s H3 _).2⟩
    rw [ezctra_s H4, Bool.false_or, xfe_s, xfi_s] at h
    refine ezfact_s H4 h ⟨?_, (eziv_s H4 _).2⟩
    rw [ezdf_s, ezml_s, ezdf_s, e]
    have m := Int.mul_le_mul_of_nonneg_left nm.2 (ezgm_0 (ezGB z))
    show 0 ≤ ezgm (ezGB z) * (ezden r k2 - ezden r k) - _
    omega
/-- the same ends, the same number: the same sum -/
def ezg24 (L1 : List ezLy) (z : Int) (c k p d k2 p2 : xjE) (F : xF) (K : xF → Bool) : Bool := bif ezbd F (.sub k2 k) 0 0 && ezbd F (.sub p2 p) 0 0 then
    ezgg z c k2 p2 d L1 F (fun F s2 => ezgg z c k p d L1 F (fun F s1 => xfe (ezdf s2 s1) (fun e => ezfact F e 0 0 K)))
  else K F
theorem ezg24_s (H : ezH Q r F) {L1 : List ezLy} {z : Int} {c k p d k2 p2 : xjE} {K : xF → Bool} (h : ezg24 L1 z c k p d k2 p2 F K = true) : ∃ F2, ezH Q r F2 ∧ K F2 = true := by
  unfold ezg24 at h
  revert h
  cases hb : ezbd F (.sub k2 k) 0 0 && ezbd F (.sub p2 p) 0 0 with
  | false => intro h; exact ⟨F, H, h⟩
  | true =>
    simp only [cond_true]
    intro h
    rw [Bool.and_eq_true] at hb
    have k0 : 0 ≤ ezden r k2 - ezden r k ∧ ezden r k2 - ezden r k ≤ 0 := ezbd_s H hb.1
    have p0 : 0 ≤ ezden r p2 - ezden r p ∧ ezden r p2 - ezden r p ≤ 0 := ezbd_s H hb.2
    obtain ⟨F2, s2, H2, h, d2⟩ := ezgg_s _ H h
    obtain ⟨F3, s1, H3, h, d1⟩ := ezgg_s _ H2 h
    rw [xfe_s] at h
    have e : ezden r (ezdf s2 s1) = 0 := by
      rw [ezdf_s, d2, d1, show ezden r k2 = ezden r k by omega, show ezden r p2 = ezden r p by omega]
      exact Int.sub_self _
    exact ezfact_s H3 h ⟨by rw [e]; decide, by rw [e]; decide⟩
/-- a leaf without the ghost's own number -/
def ezgn : xjE → Bool
  | .num _ => true
  | .natCast _ => true
  | .intCast _ => true
  | .var i => (match i with | 0 => true | 1 => true | 2 => true | _ => false)
  | .neg _ => true
  | .add a b => ezgn a && ezgn b
  | .sub a b => ezgn a && ezgn b
  | .mul a b => ezgn a && ezgn b
  | .pow a _ => (match a with
    | .add b c => ezgn b && ezgn c
    | _ => true)
theorem ezgn_s (j x y p p2 : Int) : ∀ b : xjE, ezgn b = true → ezlf j x y p b = ezlf j x y p2 b
  | .num _, _ => rfl
  | .natCast _, _ => rfl
  | .intCast _, _ => rfl
  | .var i, h => by
      rcases i with _ | _ | _ | i
      · rfl
      · rfl
      · rfl
      · cases h
  | .neg _, _ => rfl
  | .add a b, h => by
      have h : (ezgn a && ezgn b) = true := h
      rw [Bool.and_eq_true] at h
      show ezlf j x y p a + ezlf j x y p b = ezlf j x y p2 a + ezlf j x y p2 b
      rw [ezgn_s j x y p p2 a h.1, ezgn_s j x y p p2 b h.2]
  | .sub a b, h => by
      have h : (ezgn a && ezgn b) = true := h
      rw [Bool.and_eq_true] at h
      show ezlf j x y p a - ezlf j x y p b = ezlf j x y p2 a - ezlf j x y p2 b
      rw [ezgn_s j x y p p2 a h.1, ezgn_s j x y p p2 b h.2]
  | .mul a b, h => by
      have h : (ezgn a && ezgn b) = true := h
      rw [Bool.and_eq_true] at h
      show ezlf j x y p a * ezlf j x y p b = ezlf j x y p2 a * ezlf j x y p2 b
      rw [ezgn_s j x y p p2 a h.1, ezgn_s j x y p p2 b h.2]
  | .pow (.add a b) k, h => by
      have h : (ezgn a && ezgn b) = true := h
      rw [Bool.and_eq_true] at h
      show xop k (ezlf j x y p a) (ezlf j x y p b) = xop k (ezlf j x y p2 a) (ezlf j x y p2 b)
      rw [ezgn_s j x y p p2 a h.1, ezgn_s j x y p p2 b h.2]
  | .pow (.num _) _, _ => rfl
  | .pow (.natCast _) _, _ => rfl
  | .pow (.intCast _) _, _ => rfl
  | .pow (.var _) _, _ => rfl
  | .pow (.neg _) _, _ => rfl
  | .pow (.sub _ _) _, _ => rfl
  | .pow (.mul _ _) _, _ => rfl
  | .pow (.pow _ _) _, _ => rfl
def ezgp : xjE → Bool
  | .var i => Nat.beq i 3
  | _ => false
def ezgq : xjE → xjE → Bool
  | .num u, .num v => (xle 0 v && xle v u) && xle u 4611686018427387904
  | _, _ => false
theorem ezgp_s (j x y q : Int) : ∀ b : xjE, ezgp b = true → ezlf j x y q b = q := by
  intro b h
  unfold ezgp at h
  split at h
  · rename_i i
    have h := Nat.eq_of_beq_eq_true h
    subst h
    rfl
  · cases h
theorem ezgq_s : ∀ t e : xjE, ezgq t e = true → ∃ u v : Int, v ≤ u ∧ (∀ j x y q, ezbv j x y q t = u) ∧ ∀ j x y q, ezbv j x y q e = v := by
  intro t e h
  unfold ezgq at h
  split at h
  · rename_i u v
    simp only [Bool.and_eq_true, xle_iff] at h
    refine ⟨u, v, h.1.2, fun j x y q => ?_, fun j x y q => ?_⟩
    · show ezcl u = u
      unfold ezcl
      rw [xle_iff.mpr (show 0 ≤ u by omega), xle_iff.mpr h.2]; rfl
    · show ezcl v = v
      unfold ezcl
      rw [xle_iff.mpr h.1.1, xle_iff.mpr (show v ≤ 4611686018427387904 by omega)]; rfl
  · cases h
/-- a body that is less the greater its own number -/
def ezga : xjE → Bool
  | .num _ => true
  | .natCast _ => true
  | .intCast _ => true
  | .var i => ezgn (.var i)
  | .neg _ => true
  | .add a b => ezgn (.add a b)
  | .sub a b => ezgn (.sub a b)
  | .mul a b => ezgn (.mul a b)
  | .pow a c => (match a with
    | .mul q w => (match q with
      | .sub a b => (match w with
        | .mul t e => bif ezgn a && ezgn b then ezga t && ezga e else (ezgn a && ezgp b) && ((Nat.beq c 3 || Nat.beq c 4) && ezgq t e)
        | _ => true)
      | _ => true)
    | .add a b => ezgn (.pow (.add a b) c)
    | _ => true)
theorem ezga_s {j x y p p2 : Int} (hp : p ≤ p2) : ∀ b : xjE, ezga b = true → ezbv j x y p2 b ≤ ezbv j x y p b
  | .num _, _ => Int.le_refl _
  | .natCast _, _ => Int.le_refl _
  | .intCast _, _ => Int.le_refl _
  | .var i, h => by
      show ezcl (ezlf j x y p2 (.var i)) ≤ ezcl (ezlf j x y p (.var i))
      rw [ezgn_s j x y p p2 _ h]
      exact Int.le_refl _
  | .neg _, _ => Int.le_refl _
  | .add a b, h => by
      show ezcl (ezlf j x y p2 (.add a b)) ≤ ezcl (ezlf j x y p (.add a b))
      rw [ezgn_s j x y p p2 _ h]
      exact Int.le_refl _
  | .sub a b, h => by
      show ezcl (ezlf j x y p2 (.sub a b)) ≤ ezcl (ezlf j x y p (.sub a b))
      rw [ezgn_s j x y p p2 _ h]
      exact Int.le_refl _
  | .mul a b, h => by
      show ezcl (ezlf j x y p2 (.mul a b)) ≤ ezcl (ezlf j x y p (.mul a b))
      rw [ezgn_s j x y p p2 _ h]
      exact Int.le_refl _
  | .pow (.mul (.sub a b) (.mul t e)) c, h => by
      have h : (bif ezgn a && ezgn b then ezga t && ezga e else (ezgn a && ezgp b) && ((Nat.beq c 3 || Nat.beq c 4) && ezgq t e)) = true := h
      show (bif yccd (ezcd c) (ezlf j x y p2 a) (ezlf j x y p2 b) then ezbv j x y p2 t else ezbv j x y p2 e) ≤ (bif yccd (ezcd c) (ezlf j x y p a) (ezlf j x y p b) then ezbv j x y p t else ezbv j x y p e)
      cases hb : ezgn a && ezgn b with
      | true =>
        rw [hb] at h
        have h : (ezga t && ezga e) = true := h
        rw [Bool.and_eq_true] at h hb
        rw [← ezgn_s j x y p p2 a hb.1, ← ezgn_s j x y p p2 b hb.2]
        cases yccd (ezcd c) (ezlf j x y p a) (ezlf j x y p b) with
        | true => exact ezga_s hp t h.1
        | false => exact ezga_s hp e h.2
      | false =>
        rw [hb] at h
        simp only [cond_false, Bool.and_eq_true, Bool.or_eq_true] at h
        obtain ⟨⟨h1, h2⟩, h3, h4⟩ := h
        obtain ⟨u, v, huv, eu, ev⟩ := ezgq_s t e h4
        rw [eu, eu, ev, ev, ← ezgn_s j x y p p2 a h1, ezgp_s j x y p2 b h2, ezgp_s j x y p b h2]
        rcases h3 with h3 | h3
        · rw [Nat.eq_of_beq_eq_true h3]
          have m : ∀ a b : Int, yccd (ezcd 3) a b = decide (b ≤ a) := fun _ _ => rfl
          rw [m, m]
          cases k1 : decide (p2 ≤ ezlf j x y p a) with
          | true =>
            rw [decide_eq_true_iff] at k1
            rw [decide_eq_true (show p ≤ ezlf j x y p a by omega)]
            exact Int.le_refl _
          | false =>
            cases decide (p ≤ ezlf j x y p a) with
            | true => exact huv
            | false => exact Int.le_refl _
        · rw [Nat.eq_of_beq_eq_true h3]
          have m : ∀ a b : Int, yccd (ezcd 4) a b = decide (b < a) := fun _ _ => rfl
          rw [m, m]
          cases k1 : decide (p2 < ezlf j x y p a) with
          | true =>
            rw [decide_eq_true_iff] at k1
            rw [decide_eq_true (show p < ezlf j x y p a by omega)]
            exact Int.le_refl _
          | false =>
            cases decide (p < ezlf j x y p a) with
            | true => exact huv
            | false => exact Int.le_refl _
  | .pow (.add a b) c, h => by
      show ezcl (ezlf j x y p2 (.pow (.add a b) c)) ≤ ezcl (ezlf j x y p (.pow (.add a b) c))
      rw [ezgn_s j x y p p2 _ h]
      exact Int.le_refl _
  | .pow (.num _) _, _ => Int.le_refl _
  | .pow (.natCast _) _, _ => Int.le_refl _
  | .pow (.intCast _) _, _ => Int.le_refl _
  | .pow (.var _) _, _ => Int.le_refl _
  | .pow (.neg _) _, _ => Int.le_refl _
  | .pow (.sub _ _) _, _ => Int.le_refl _
  | .pow (.pow _ _) _, _ => Int.le_refl _
  | .pow (.mul (.num _) _) _, _ => Int.le_refl _
  | .pow (.mul (.natCast _) _) _, _ => Int.le_refl _
  | .pow (.mul (.intCast _) _) _, _ => Int.le_refl _
  | .pow (.mul (.var _) _) _, _ => Int.le_refl _
  | .pow (.mul (.neg _) _) _, _ => Int.le_refl _
  | .pow (.mul (.add _ _) _) _, _ => Int.le_refl _
  | .pow (.mul (.mul _ _) _) _, _ => Int.le_refl _
  | .pow (.mul (.pow _ _) _) _, _ => Int.le_refl _
  | .pow (.mul (.sub _ _) (.num _)) _, _ => Int.le_refl _
  | .pow (.mul (.sub _ _) (.natCast _)) _, _ => Int.le_refl _
  | .pow (.mul (.sub _ _) (.intCast _)) _, _ => Int.le_refl _
  | .pow (.mul (.sub _ _) (.var _)) _, _ => Int.le_refl _
  | .pow (.mul (.sub _ _) (.neg _)) _, _ => Int.le_refl _
  | .pow (.mul (.sub _ _) (.add _ _)) _, _ => Int.le_refl _
  | .pow (.mul (.sub _ _) (.sub _ _)) _, _ => Int.le_refl _
  | .pow (.mul (.sub _ _) (.pow _ _)) _, _ => Int.le_refl _
theorem ezgs_a {b : xjE} {G : Int → Int → Int} {c d p p2 : Int} (hp : p ≤ p2) (hb : ezga b = true) : ∀ n : Nat, ezgs b G c d p2 n ≤ ezgs b G c d p n := by
  intro n
  induction n with
  | zero => exact Int.le_refl _
  | succ n ih =>
    have q := ezga_s (j := (n : Int)) (x := G c n) (y := G d n) hp b hb
    show ezgs b G c d p2 n + ezbv (n : Int) (G c n) (G d n) p2 b ≤ ezgs b G c d p n + ezbv (n : Int) (G c n) (G d n) p b
    omega
/-- the greater the ghost's own number, the less the sum -/
def ezg23 (L1 : List ezLy) (z : Int) (c k p d p2 : xjE) (F : xF) (K : xF → Bool) : Bool := bif ezga (ezGB z) && ezblo F (.sub p2 p) 0 then
    ezgg z c k p2 d L1 F (fun F s2 => ezgg z c k p d L1 F (fun F s1 => xfe (ezdf s1 s2) (fun e => xfi (eziv F e).2 (fun u => ezfact F e 0 u K))))
  else K F
theorem ezg23_s (H : ezH Q r F) {L1 : List ezLy} {z : Int} {c k p d p2 : xjE} {K : xF → Bool} (h : ezg23 L1 z c k p d p2 F K = true) : ∃ F2, ezH Q r F2 ∧ K F2 = true := by
  unfold ezg23 at h
  revert h
  cases hb : ezga (ezGB z) && ezblo F (.sub p2 p) 0 with
  | false => intro h; exact ⟨F, H, h⟩
  | true =>
    simp only [cond_true]
    intro h
    rw [Bool.and_eq_true] at hb
    have p0 : 0 ≤ ezden r p2 - ezden r p := ezblo_s H hb.2
    obtain ⟨F2, s2, H2, h, d2⟩ := ezgg_s _ H h
    obtain ⟨F3, s1, H3, h, d1⟩ := ezgg_s _ H2 h
    rw [xfe_s, xfi_s] at h
    have q := ezgs_a (b := ezGB z) (G := ezhh r L1) (c := ezden r c) (d := ezden r d) (show ezden r p ≤ ezden r p2 by omega) hb.1 (ezgN (ezden r k))
    have q : ezgh z (ezhh r L1) (ezden r c) (ezden r k) (ezden r p2) (ezden r d) ≤ ezgh z (ezhh r L1) (ezden r c) (ezden r k) (ezden r p) (ezden r d) := q
    refine ezfact_s H3 h ⟨?_, (eziv_s H3 _).2⟩
    rw [ezdf_s, d1, d2]
    omega
/-! a row of sixteen whose powers of two add up to 65535 has each number -/
def pwP : (Nat → Nat) → Nat → Nat
  | _, 0 => 0
  | c, m + 1 => c 0 + 2 * pwP (fun s => c (s + 1)) m
def pwN : (Nat → Nat) → Nat → Nat
  | _, 0 => 0
  | c, m + 1 => c 0 + pwN (fun s => c (s + 1)) m
theorem pwA : ∀ (m : Nat) (c : Nat → Nat), pwP c m + 1 = 2 ^ m → m ≤ pwN c m ∧ (pwN c m = m → ∀ s, s < m → c s = 1) := by
  intro m
  induction m with
  | zero => intro c _; exact ⟨Nat.zero_le _, fun _ s hs => by omega⟩
  | succ m ih =>
    intro c h
    have h : c 0 + 2 * pwP (fun s => c (s + 1)) m + 1 = 2 ^ (m + 1) := h
    have e2 : 2 ^ (m + 1) = 2 * 2 ^ m := by rw [Nat.pow_succ, Nat.mul_comm]
    rw [e2] at h
    cases m with
    | zero =>
      have h0 : pwP (fun s => c (s + 1)) 0 = 0 := rfl
      have p0 : 2 ^ 0 = 1 := rfl
      rw [h0, p0] at h
      have n1 : pwN c 1 = c 0 + 0 := rfl
      refine ⟨by rw [n1]; omega, fun _ s hs => ?_⟩
      rw [show s = 0 by omega]
      omega
    | succ m =>
      have hX := Nat.one_le_two_pow (n := m + 1)
      have hq : ∃ q, c 0 = 2 * q + 1 := by
        revert h hX
        generalize 2 ^ (m + 1) = X
        intro h hX
        exact ⟨c 0 / 2, by omega⟩
      obtain ⟨q, hq⟩ := hq
      have i := ih (fun s => match s with | 0 => c 1 + q | s + 1 => c (s + 2)) (by
        have a : pwP (fun s => match s with | 0 => c 1 + q | s + 1 => c (s + 2)) (m + 1) = c 1 + q + 2 * pwP (fun s => c (s + 2)) m := rfl
        have b : pwP (fun s => c (s + 1)) (m + 1) = c 1 + 2 * pwP (fun s => c (s + 2)) m := rfl
        rw [a]
        rw [b] at h
        omega)
      have a : pwN (fun s => match s with | 0 => c 1 + q | s + 1 => c (s + 2)) (m + 1) = c 1 + q + pwN (fun s => c (s + 2)) m := rfl
      have b : pwN c (m + 1 + 1) = c 0 + (c 1 + pwN (fun s => c (s + 2)) m) := rfl
      rw [a] at i
      rw [b]
      refine ⟨by omega, fun e s hs => ?_⟩
      have q0 : q = 0 := by omega
      have i2 := i.2 (by omega)
      cases s with
      | zero => omega
      | succ s =>
        have t := i2 s (by omega)
        cases s with
        | zero =>
          have t : c 1 + q = 1 := t
          show c 1 = 1
          omega
        | succ s => exact t
theorem pwB : ∀ (m : Nat) (c d : Nat → Nat) (t : Nat), t < m → (∀ s, d s = c s + if s = t then 1 else 0) → pwP d m = pwP c m + 2 ^ t ∧ pwN d m = pwN c m + 1 := by
  intro m
  induction m with
  | zero => intro c d t h _; omega
  | succ m ih =>
    intro c d t h hd
    have a : pwP d (m + 1) = d 0 + 2 * pwP (fun s => d (s + 1)) m := rfl
    have b : pwP c (m + 1) = c 0 + 2 * pwP (fun s => c (s + 1)) m := rfl
    have a2 : pwN d (m + 1) = d 0 + pwN (fun s => d (s + 1)) m := rfl
    have b2 : pwN c (m + 1) = c 0 + pwN (fun s => c (s + 1)) m := rfl
    rw [a, b, a2, b2]
    cases t with
    | zero =>
      have e : (fun s => d (s + 1)) = (fun s => c (s + 1)) := by
        funext s
        rw [hd (s + 1), if_neg (by omega)]; rfl
      have e0 := hd 0
      rw [if_pos rfl] at e0
      rw [e, e0]
      exact ⟨by rw [Nat.pow_zero]; omega, by omega⟩
    | succ t =>
      have i := ih (fun s => c (s + 1)) (fun s => d (s + 1)) t (by omega) (fun s => by
        show d (s + 1) = c (s + 1) + if s = t then 1 else 0
        rw [hd (s + 1)]
        by_cases e : s = t
        · rw [if_pos (by omega), if_pos e]
        · rw [if_neg (by omega), if_neg e])
      have e0 := hd 0
      rw [if_neg (by omega)] at e0
      rw [e0, i.1, i.2, Nat.pow_succ]
      exact ⟨by omega, by omega⟩
def pwc (f : Nat → Nat) : Nat → Nat → Nat
  | 0, _ => 0
  | n + 1, s => pwc f n s + if s = f n then 1 else 0
def pws (f : Nat → Nat) : Nat → Nat
  | 0 => 0
  | n + 1 => pws f n + 2 ^ f n
theorem pw0 : ∀ m : Nat, pwP (fun _ => 0) m = 0 ∧ pwN (fun _ => 0) m = 0 := by
  intro m
  induction m with
  | zero => exact ⟨rfl, rfl⟩
  | succ m ih =>
    have a : pwP (fun _ => 0) (m + 1) = 0 + 2 * pwP (fun _ => 0) m := rfl
    have b : pwN (fun _ => 0) (m + 1) = 0 + pwN (fun _ => 0) m := rfl
    rw [a, b, ih.1, ih.2]
    exact ⟨rfl, rfl⟩
theorem pwC (f : Nat → Nat) (m : Nat) : ∀ n : Nat, (∀ i, i < n → f i < m) → pwP (pwc f n) m = pws f n ∧ pwN (pwc f n) m = n := by
  intro n
  induction n with
  | zero => intro _; exact pw0 m
  | succ n ih =>
    intro h
    have i := ih (fun i hi => h i (by omega))
    have b := pwB m (pwc f n) (pwc f (n + 1)) (f n) (h n (by omega)) (fun s => rfl)
    rw [b.1, b.2, i.1, i.2]
    exact ⟨rfl, rfl⟩
theorem ezp20 : ∀ n : Fin 16, ezcl (xop 20 1 (n.val : Int)) = ((2 ^ n.val : Nat) : Int) := by decide +kernel
theorem ezp26 {G : Int → Int → Int} {c d d2 p p2 : Int} : ∀ n : Nat, (∀ i : Nat, i < n → 0 ≤ G c i ∧ G c i ≤ 15) → ezgs (ezGB 7) G c d p n = ((pws (fun i => (G c i).toNat) n : Nat) : Int) ∧ ezgs (ezGB 0) G c d2 p2 n = ((pwc (fun i => (G c i).toNat) n p2.toNat : Nat) : Int) ∨ p2 < 0 := by
  intro n
  by_cases hp : p2 < 0
  · exact fun _ => Or.inr hp
  · induction n with
    | zero => intro _; exact Or.inl ⟨rfl, rfl⟩
    | succ n ih =>
      intro h
      have i := (ih (fun i hi => h i (by omega))).resolve_right hp
      have g := h n (by omega)
      refine Or.inl ⟨?_, ?_⟩
      · have e1 : ezgs (ezGB 7) G c d p (n + 1) = ezgs (ezGB 7) G c d p n + ezcl (xop 20 1 (G c n)) := rfl
        have e2 := ezp20 ⟨(G c n).toNat, by omega⟩
        have e2 : ezcl (xop 20 1 (((G c n).toNat : Nat) : Int)) = ((2 ^ (G c n).toNat : Nat) : Int) := e2
        rw [show (((G c n).toNat : Nat) : Int) = G c n by omega] at e2
        have e3 : pws (fun i => (G c i).toNat) (n + 1) = pws (fun i => (G c i).toNat) n + 2 ^ (G c n).toNat := rfl
        rw [e1, i.1, e2, e3, Int.natCast_add]
      · have e1 : ezgs (ezGB 0) G c d2 p2 (n + 1) = ezgs (ezGB 0) G c d2 p2 n + bif decide (G c n = p2) then ezcl 1 else ezcl 0 := rfl
        have e3 : pwc (fun i => (G c i).toNat) (n + 1) p2.toNat = pwc (fun i => (G c i).toNat) n p2.toNat + if p2.toNat = (G c n).toNat then 1 else 0 := rfl
        rw [e1, i.2, e3]
        by_cases e : G c n = p2
        · rw [decide_eq_true e, if_pos (by omega)]; rfl
        · rw [decide_eq_false e, if_neg (by omega)]; rfl
def ezg26 (L1 : List ezLy) (c p d : xjE) (F : xF) (K : xF → Bool) : Bool := match c with
  | .num w => bif (ezlh F L1 && ezbd F p 0 15) && (xle 0 w && (Nat.blt w.toNat 512 && (List.range 16).all (fun j => Nat.blt j (ezL w.toNat) && (xle 0 (ezSl w.toNat j).2.1 && xle (ezSl w.toNat j).2.2.1 15)))) then
      ezgg 7 (.num w) (.num 16) (.num 0) (.num w) L1 F (fun F e7 => bif ezbd F e7 65535 65535 then ezgg 0 (.num w) (.num 16) p d L1 F (fun F e => xfi (eziv F e).2 (fun u => ezfact F e 1 u K)) else K F)
    else K F
  | _ => K F
theorem ezg26_s (H : ezH Q r F) {L1 : List ezLy} {c p d : xjE} {K : xF → Bool} (h : ezg26 L1 c p d F K = true) : ∃ F2, ezH Q r F2 ∧ K F2 = true := by
  unfold ezg26 at h
  split at h
  · rename_i w
    revert h
    cases hb : (ezlh F L1 && ezbd F p 0 15) && (xle 0 w && (Nat.blt w.toNat 512 && (List.range 16).all (fun j => Nat.blt j (ezL w.toNat) && (xle 0 (ezSl w.toNat j).2.1 && xle (ezSl w.toNat j).2.2.1 15)))) with
    | false => intro h; exact ⟨F, H, h⟩
    | true =>
      simp only [cond_true]
      intro h
      simp only [Bool.and_eq_true, xle_iff] at hb
      obtain ⟨⟨b1, b2⟩, b3, b4, b5⟩ := hb
      have HT := ezlh_s H L1 b1
      have p0 := ezbd_s H b2
      obtain ⟨F2, e7, H2, h, d7⟩ := ezgg_s _ H h
      revert h
      cases hc : ezbd F2 e7 65535 65535 with
      | false => intro h; exact ⟨F2, H2, h⟩
      | true =>
        simp only [cond_true]
        intro h
        have v7 := ezbd_s H2 hc
        obtain ⟨F3, e, H3, h, de⟩ := ezgg_s _ H2 h
        rw [xfi_s] at h
        have rg : ∀ i : Nat, i < 16 → 0 ≤ ezhh r L1 w i ∧ ezhh r L1 w i ≤ 15 := by
          intro i hi
          have q := List.all_eq_true.mp b5 i (List.mem_range.mpr hi)
          simp only [Bool.and_eq_true, xle_iff] at q
          have t := HT.2 w.toNat i (Nat.ble_eq.mp b4) (Nat.ble_eq.mp q.1)
          rw [show ((w.toNat : Nat) : Int) = w by omega] at t
          omega
        have k := (ezp26 (d := ezden r (.num w)) (d2 := ezden r d) (p := 0) (p2 := ezden r p) 16 rg).resolve_right (by omega)
        have n16 : ezgN (ezden r (.num 16)) = 16 := rfl
        have d7 : ezden r e7 = ezgs (ezGB 7) (ezhh r L1) w (ezden r (.num w)) 0 16 := d7
        have de : ezden r e = ezgs (ezGB 0) (ezhh r L1) w (ezden r d) (ezden r p) 16 := de
        have fl : ∀ i, i < 16 → (fun i : Nat => (ezhh r L1 w i).toNat) i < 16 := by
          intro i hi
          have := rg i hi
          show (ezhh r L1 w i).toNat < 16
          omega
        have C := pwC (fun i : Nat => (ezhh r L1 w i).toNat) 16 16 fl
        have A := pwA 16 (pwc (fun i : Nat => (ezhh r L1 w i).toNat) 16) (by
          rw [C.1]
          have := k.1
          have e65 : (2 : Nat) ^ 16 = 65536 := by decide
          rw [e65]
          omega)
        have one := A.2 C.2 (ezden r p).toNat (by omega)
        refine ezfact_s H3 h ⟨?_, (eziv_s H3 _).2⟩
        rw [de, k.2, one]
        exact Int.le_refl _
  · exact ⟨F, H, h⟩
/-! a body of samples that are B or more, at places 4 q of rows of 48, of which the first 4 p count: none between two such places, none behind a row's -/
def ezgZ (B : Int) : xjE := .pow (.mul (.sub (.pow (.add (.var 0) (.num 48)) 24) (.mul (.num 4) (.var 3))) (.mul (.pow (.mul (.sub (.pow (.add (.var 0) (.num 4)) 24) (.num 0)) (.mul (.pow (.mul (.sub (.var 1) (.num B)) (.mul (.num 1) (.num 0))) 3) (.num 0))) 0) (.num 0))) 2
theorem ezgZ_v (j x y p B : Int) : ezbv j x y p (ezgZ B) = bif yccd (ezcd 2) (xop 24 j 48) (4 * p) then (bif yccd (ezcd 0) (xop 24 j 4) 0 then (bif yccd (ezcd 3) x B then ezcl 1 else ezcl 0) else ezcl 0) else ezcl 0 := rfl
theorem ezgZ_0 : ezcl 0 = 0 := rfl
theorem ezgZ_1 {j x y p B : Int} (h0 : 0 ≤ j) (h1 : j ≤ 65535) (h : 4 * p ≤ j % 48) : ezbv j x y p (ezgZ B) = 0 := by
  have m : ∀ a b : Int, yccd (ezcd 2) a b = decide (a < b) := fun _ _ => rfl
  rw [ezgZ_v, (ezhdq (x := j) (c := 48) h0 (by omega) (by decide) (by decide)).2, m, decide_eq_false (show ¬ j % 48 < 4 * p by omega)]
  exact ezgZ_0
theorem ezgZ_2 {j x y p B : Int} (h0 : 0 ≤ j) (h1 : j ≤ 65535) (h : j % 4 ≠ 0) : ezbv j x y p (ezgZ B) = 0 := by
  have m : ∀ a b : Int, yccd (ezcd 0) a b = decide (a = b) := fun _ _ => rfl
  rw [ezgZ_v, (ezhdq (x := j) (c := 4) h0 (by omega) (by decide) (by decide)).2, m, decide_eq_false h]
  cases yccd (ezcd 2) (xop 24 j 48) (4 * p) with
  | true => exact ezgZ_0
  | false => exact ezgZ_0
theorem ezgs_z {b : xjE} {G : Int → Int → Int} {c d p : Int} {n : Nat} : ∀ m : Nat, n ≤ m → (∀ j : Nat, n ≤ j → j < m → ezbv (j : Int) (G c j) (G d j) p b = 0) → ezgs b G c d p m = ezgs b G c d p n := by
  intro m
  induction m with
  | zero => intro h _; rw [show n = 0 by omega]
  | succ m ih =>
    intro h hz
    by_cases e : n = m + 1
    · rw [e]
    · have i := ih (by omega) (fun j h1 h2 => hz j h1 (by omega))
      have q := hz m (by omega) (by omega)
      show ezgs b G c d p m + ezbv (m : Int) (G c m) (G d m) p b = _
      rw [q, i, Int.add_zero]
theorem ezgN_e {k : Int} (h : k ≤ 65535) : ezgN k = k.toNat := by
  unfold ezgN
  rw [Nat.ble_eq.mpr (show k.toNat ≤ 65536 by omega)]
  rfl
/-- places of which none counts -/
def ezg27 (L1 : List ezLy) (z : Int) (c k p d y k2 : xjE) (B : Int) (F : xF) (K : xF → Bool) : Bool := bif xeq (ezGB z) (ezgZ B) && ((ezblo F k 0 && (ezblo F (.sub k2 k) 0 && (ezbhi F k2 65535 && ezblo F y 0))) && ((ezblo F (.sub k (.add (.mul (.num 48) y) (.mul (.num 4) p))) 0 && (ezblo F p 0 && ezbhi F (.sub k2 (.mul (.num 48) y)) 48)) || (ezbhi F (.sub (.mul (.num 4) y) k) (-1) && ezbhi F (.sub k2 (.mul (.num 4) y)) 4))) then
    ezgg z c k2 p d L1 F (fun F s2 => ezgg z c k p d L1 F (fun F s1 => xfe (ezdf s2 s1) (fun e => ezfact F e 0 0 K)))
  else K F
theorem ezg27_s (H : ezH Q r F) {L1 : List ezLy} {z : Int} {c k p d y k2 : xjE} {B : Int} {K : xF → Bool} (h : ezg27 L1 z c k p d y k2 B F K = true) : ∃ F2, ezH Q r F2 ∧ K F2 = true := by
  unfold ezg27 at h
  revert h
  cases hb : xeq (ezGB z) (ezgZ B) && ((ezblo F k 0 && (ezblo F (.sub k2 k) 0 && (ezbhi F k2 65535 && ezblo F y 0))) && ((ezblo F (.sub k (.add (.mul (.num 48) y) (.mul (.num 4) p))) 0 && (ezblo F p 0 && ezbhi F (.sub k2 (.mul (.num 48) y)) 48)) || (ezbhi F (.sub (.mul (.num 4) y) k) (-1) && ezbhi F (.sub k2 (.mul (.num 4) y)) 4))) with
  | false => intro h; exact ⟨F, H, h⟩
  | true =>
    simp only [cond_true]
    intro h
    simp only [Bool.and_eq_true, Bool.or_eq_true] at hb
    obtain ⟨b0, ⟨b1, b2, b3, b4⟩, b5⟩ := hb
    have g := xeq_s b0
    have k0 := ezblo_s H b1
    have k1 : 0 ≤ ezden r k2 - ezden r k := ezblo_s H b2
    have k3 := ezbhi_s H b3
    have y0 := ezblo_s H b4
    have zr : ∀ j : Nat, (ezden r k).toNat ≤ j → j < (ezden r k2).toNat → ∀ x y2 : Int, ezbv (j : Int) x y2 (ezden r p) (ezGB z) = 0 := by
      intro j h1 h2 x y2
      rw [g]
      rcases b5 with ⟨c1, c2, c3⟩ | ⟨c1, c2⟩
      · have c1 : 0 ≤ ezden r k - (48 * ezden r y + 4 * ezden r p) := ezblo_s H c1
        have c2 := ezblo_s H c2
        have c3 : ezden r k2 - 48 * ezden r y ≤ 48 := ezbhi_s H c3
        exact ezgZ_1 (by omega) (by omega) (by omega)
      · have c1 : 4 * ezden r y - ezden r k ≤ -1 := ezbhi_s H c1
        have c2 : ezden r k2 - 4 * ezden r y ≤ 4 := ezbhi_s H c2
        exact ezgZ_2 (by omega) (by omega) (by omega)
    obtain ⟨F2, s2, H2, h, d2⟩ := ezgg_s _ H h
    obtain ⟨F3, s1, H3, h, d1⟩ := ezgg_s _ H2 h
    rw [xfe_s] at h
    have e : ezden r (ezdf s2 s1) = 0 := by
      rw [ezdf_s, d2, d1]
      show ezgs (ezGB z) (ezhh r L1) (ezden r c) (ezden r d) (ezden r p) (ezgN (ezden r k2)) - ezgs (ezGB z) (ezhh r L1) (ezden r c) (ezden r d) (ezden r p) (ezgN (ezden r k)) = 0
      rw [ezgN_e (show ezden r k ≤ 65535 by omega), ezgN_e (show ezden r k2 ≤ 65535 by omega), ezgs_z (n := (ezden r k).toNat) (ezden r k2).toNat (by omega) (fun j h1 h2 => zr j h1 h2 _ _)]
      exact Int.sub_self _
    exact ezfact_s H3 h ⟨by rw [e]; decide, by rw [e]; decide⟩
def ezhd (L1 : List ezLy) (n : Nat) (es : List xjE) (F : xF) (K : xF → Bool) : Bool := match es with
  | .num z :: c :: k :: p :: d :: l => (match l with
    | [] => bif Nat.beq n 20 then ezg20 L1 z c k p d F K else bif Nat.beq n 26 then ezg26 L1 c p d F K else ezhc n es F K
    | [a] => bif Nat.beq n 21 then ezg21 L1 z c k p d a F K else bif Nat.beq n 22 then ezg22 L1 z c k p d a F K else bif Nat.beq n 23 then ezg23 L1 z c k p d a F K else ezhc n es F K
    | [a, b] => bif Nat.beq n 24 then ezg24 L1 z c k p d a b F K else ezhc n es F K
    | [a, b, .num B] => bif Nat.beq n 27 then ezg27 L1 z c k p d a b B F K else ezhc n es F K
    | _ => ezhc n es F K)
  | _ => ezhc n es F K
theorem ezhd_s (H : ezH Q r F) {L1 : List ezLy} {n : Nat} {es : List xjE} {K : xF → Bool} (h : ezhd L1 n es F K = true) : ∃ F2, ezH Q r F2 ∧ K F2 = true := by
  unfold ezhd at h
  split at h
  · split at h
    · revert h
      cases Nat.beq n 20 with
      | true => exact fun h => ezg20_s H h
      | false =>
        simp only [cond_false]
        cases Nat.beq n 26 with
        | true => exact fun h => ezg26_s H h
        | false => exact fun h => ezhc_s H h
    · revert h
      cases Nat.beq n 21 with
      | true => exact fun h => ezg21_s H h
      | false =>
        simp only [cond_false]
        cases Nat.beq n 22 with
        | true => exact fun h => ezg22_s H h
        | false =>
          simp only [cond_false]
          cases Nat.beq n 23 with
          | true => exact fun h => ezg23_s H h
          | false => exact fun h => ezhc_s H h
    · revert h
      cases Nat.beq n 24 with
      | true => exact fun h => ezg24_s H h
      | false => exact fun h => ezhc_s H h
    · revert h
      cases Nat.beq n 27 with
      | true => exact fun h => ezg27_s H h
      | false => exact fun h => ezhc_s H h
    · exact ezhc_s H h
  · exact ezhc_s H h
def ezhev (l : List (Nat × xjE)) (L1 : List ezLy) : List xjE → xF → (xF → List xjE → Bool) → Bool
  | [], F, k => k F []
  | p :: ps, F, k => ezev l [] L1 p F (fun F e => ezhev l L1 ps F (fun F es => k F (e :: es)))
theorem ezhev_s {l : List (Nat × xjE)} {L1 : List ezLy} : ∀ (ps : List xjE) {F : xF} {k : xF → List xjE → Bool}, ezH Q r F → ezhev l L1 ps F k = true → ∃ F2 es, ezH Q r F2 ∧ k F2 es = true := by
  intro ps
  induction ps with
  | nil => intro F k H h; exact ⟨F, [], H, h⟩
  | cons p ps ih =>
    intro F k H h
    unfold ezhev at h
    obtain ⟨F2, e, H2, h2, -⟩ := ezev_s (ezrs_sb (r := r) (l := l) (L0 := []) (L1 := L1) (b := r.2.2)) p H h
    obtain ⟨F3, es, H3, h3⟩ := ih H2 h2
    exact ⟨F3, e :: es, H3, h3⟩
def ezhts (l : List (Nat × xjE)) (L1 : List ezLy) : List (Nat × List xjE) → xF → (xF → Bool) → Bool
  | [], F, k => k F
  | q :: qs, F, k => ezhev l L1 q.2 F (fun F es => ezhd L1 q.1 es F (fun F => ezctra F || ezhts l L1 qs F k))
theorem ezhts_s {l : List (Nat × xjE)} {L1 : List ezLy} : ∀ (qs : List (Nat × List xjE)) {F : xF} {k : xF → Bool}, ezH Q r F → ezhts l L1 qs F k = true → ∃ F2, ezH Q r F2 ∧ k F2 = true := by
  intro qs
  induction qs with
  | nil => intro F k H h; exact ⟨F, H, h⟩
  | cons q qs ih =>
    intro F k H h
    unfold ezhts at h
    obtain ⟨F2, es, H2, h2⟩ := ezhev_s q.2 H h
    obtain ⟨F3, H3, h3⟩ := ezhd_s H2 h2
    rw [ezctra_s H3, Bool.false_or] at h3
    exact ih H3 h3
/-- what is told at a place -/
def ezhtl (W : ezHts) (pc : Nat) : List (Nat × List xjE) := List.rec (motive := fun _ => List (Nat × List xjE)) [] (fun q _ ih => bif Nat.beq q.1 pc then q.2 else ih) W
/-- locals and stack as numbers of a pattern -/
def ezhst (i : Nat) : List xV → List (Nat × xjE)
  | [] => []
  | v :: l => (4096 + 64 * i + 22, v.2) :: ezhst (i + 1) l
def ezhl (lv : List (Nat × xV)) (st : List xV) : List (Nat × xjE) := lv.map (fun q => (4096 + 64 * q.1 + 22, q.2.2)) ++ ezhst 40 st
def ezht (W : ezHts) (fr : Nat × List (Nat × xV) × List xV) (L1 : List ezLy) (F : xF) (k : xF → Bool) : Bool := match ezhtl W fr.1 with
  | [] => k F
  | q :: qs => ezhts (ezhl fr.2.1 fr.2.2) L1 (q :: qs) F k
theorem ezht_s (H : ezH Q r F) {W : ezHts} {fr : Nat × List (Nat × xV) × List xV} {L1 : List ezLy} {k : xF → Bool} (h : ezht W fr L1 F k = true) : ∃ F2, ezH Q r F2 ∧ k F2 = true := by
  unfold ezht at h
  split at h
  · exact ⟨F, H, h⟩
  · exact ezhts_s _ H h
end EZB6
