noncomputable section EZB6
/-! E2: facts told at places of a method's own: each kind is shown here once, for all values -/
variable {Q : ezR → Prop} {T : ycT} {r : ezR} {F : xF}
abbrev ezHts := List (Nat × List (Nat × List xjE))
theorem ezsh1 : ∀ n : Fin 30, xop 20 1 ((n.val : Int) + 1) = 2 * xop 20 1 (n.val : Int) := by decide +kernel
theorem ezhm2 {a b c : Int} (h : 0 ≤ b - a) (hc : 0 ≤ c) : 0 ≤ b * c - a * c := by
  have := Int.mul_le_mul_of_nonneg_right (show a ≤ b by omega) hc
  omega
theorem ezhdq {x c : Int} (h0 : 0 ≤ x) (h1 : x ≤ 2147483647) (c1 : 1 ≤ c) (c2 : c ≤ 2147483647) : xop 23 x c = x / c ∧ xop 24 x c = x % c := by
  have e7 : xop 23 x c = ((x.toNat / c.toNat : Nat) : Int) := by
    show (Int32.ofInt x / Int32.ofInt c).toInt = _
    rw [xofn (v := x) (by omega) (by omega), xofn (v := c) (by omega) (by omega), pk_div (by omega) (by omega) (by omega)]
    exact nI_toInt (Nat.lt_of_le_of_lt (Nat.div_le_self _ _) (by omega))
  have e8 : xop 24 x c = ((x.toNat % c.toNat : Nat) : Int) := by
    show (Int32.ofInt x - Int32.ofInt x / Int32.ofInt c * Int32.ofInt c).toInt = _
    rw [xofn (v := x) (by omega) (by omega), xofn (v := c) (by omega) (by omega), pk_rem (by omega) (by omega) (by omega)]
    exact nI_toInt (Nat.lt_of_le_of_lt (Nat.mod_le _ _) (by omega))
  rw [e7, e8, Int.natCast_ediv, Int.natCast_emod, Int.toNat_of_nonneg h0, Int.toNat_of_nonneg (by omega)]
  exact ⟨rfl, rfl⟩
/-- w a - w b >= 1, w >= 1: a - b >= 1 -/
def ezh6 (a b w : xjE) (F : xF) (K : xF → Bool) : Bool := bif ezblo F w 1 && (ezblo F (.sub (ezml a w) (ezml b w)) 1 || (ezblo F (.sub (ezml a w) (ezml w b)) 1 || (ezblo F (.sub (ezml w a) (ezml b w)) 1 || ezblo F (.sub (ezml w a) (ezml w b)) 1))) then xfi (eziv F (.sub a b)).2 (fun u => ezpt F (.sub a b) 1 u K) else K F
theorem ezh6_s (H : ezH Q r F) {a b w : xjE} {K : xF → Bool} (h : ezh6 a b w F K = true) : ∃ F2, ezH Q r F2 ∧ K F2 = true := by
  unfold ezh6 at h
  revert h
  cases hb : ezblo F w 1 && (ezblo F (.sub (ezml a w) (ezml b w)) 1 || (ezblo F (.sub (ezml a w) (ezml w b)) 1 || (ezblo F (.sub (ezml w a) (ezml b w)) 1 || ezblo F (.sub (ezml w a) (ezml w b)) 1))) with
  | false => intro h; exact ⟨F, H, h⟩
  | true =>
    simp only [cond_true, xfi_s]
    intro h
    rw [Bool.and_eq_true, Bool.or_eq_true, Bool.or_eq_true, Bool.or_eq_true] at hb
    have d0 := ezblo_s H hb.1
    have d : 1 ≤ ezden r a * ezden r w - ezden r b * ezden r w := by
      rcases hb.2 with t | t | t | t
      · have t : 1 ≤ ezden r (ezml a w) - ezden r (ezml b w) := ezblo_s H t
        rw [ezml_s, ezml_s] at t; exact t
      · have t : 1 ≤ ezden r (ezml a w) - ezden r (ezml w b) := ezblo_s H t
        rw [ezml_s, ezml_s, Int.mul_comm (ezden r w) (ezden r b)] at t; exact t
      · have t : 1 ≤ ezden r (ezml w a) - ezden r (ezml b w) := ezblo_s H t
        rw [ezml_s, ezml_s, Int.mul_comm (ezden r w) (ezden r a)] at t; exact t
      · have t : 1 ≤ ezden r (ezml w a) - ezden r (ezml w b) := ezblo_s H t
        rw [ezml_s, ezml_s, Int.mul_comm (ezden r w) (ezden r a), Int.mul_comm (ezden r w) (ezden r b)] at t; exact t
    have q : 1 ≤ ezden r a - ezden r b := by
      rcases Int.lt_or_le (ezden r b) (ezden r a) with t | t
      · omega
      · have := Int.mul_le_mul_of_nonneg_right t (show 0 ≤ ezden r w by omega)
        omega
    exact ezpt_s H h q (eziv_s H (.sub a b)).2
/-- a = b (a / b) + a % b -/
def ezh7 (a b : xjE) (F : xF) (K : xF → Bool) : Bool := bif !(eznm a) && (ezblo F a 0 && (ezblo F b 1 && (xle (eziv F a).2 2147483647 && xle (eziv F b).2 2147483647))) then
    xfi ((eziv F b).2 - 1) (fun u => ezpt F (.sub a (ezml b (.pow (.add a b) 23))) 0 u (fun F => xfi (eziv F b).2 (fun u => ezpt F (.sub b (.sub a (ezml b (.pow (.add a b) 23)))) 1 u (fun F => ezpt F (.sub (.sub a (ezml b (.pow (.add a b) 23))) (.pow (.add a b) 24)) 0 0 (fun F =>
      xfi (eziv F a).2 (fun u => ezpt F (.pow (.add a b) 23) 0 u (fun F => xfi (eziv F a).2 (fun u => ezpt F (.sub a (.pow (.add a b) 24)) 0 u K)))))))) else K F
theorem ezh7_s (H : ezH Q r F) {a b : xjE} {K : xF → Bool} (h : ezh7 a b F K = true) : ∃ F2, ezH Q r F2 ∧ K F2 = true := by
  unfold ezh7 at h
  revert h
  cases hb : !(eznm a) && (ezblo F a 0 && (ezblo F b 1 && (xle (eziv F a).2 2147483647 && xle (eziv F b).2 2147483647))) with
  | false => intro h; exact ⟨F, H, h⟩
  | true =>
    simp only [cond_true, xfi_s]
    intro h
    simp only [Bool.and_eq_true, xle_iff] at hb
    obtain ⟨-, b1, b2, b3, b4⟩ := hb
    have b1 := ezblo_s H b1
    have b2 := ezblo_s H b2
    have i1 := (eziv_s H a).2
    have i2 := (eziv_s H b).2
    have q := ezhdq (x := ezden r a) (c := ezden r b) (by omega) (by omega) (by omega) (by omega)
    have m1 := Int.emod_nonneg (ezden r a) (show ezden r b ≠ 0 by omega)
    have m2 := Int.emod_lt_of_pos (ezden r a) (show 0 < ezden r b by omega)
    have m3 := Int.emod_def (ezden r a) (ezden r b)
    have m4 := Int.ediv_nonneg (show 0 ≤ ezden r a by omega) (show 0 ≤ ezden r b by omega)
    have m5 := Int.ediv_le_self (ezden r b) (show 0 ≤ ezden r a by omega)
    have m6 := Int.mul_nonneg (show 0 ≤ ezden r b by omega) m4
    have t1 : ezden r (.sub a (ezml b (.pow (.add a b) 23))) = ezden r a - ezden r b * (ezden r a / ezden r b) := by
      show ezden r a - ezden r (ezml b (.pow (.add a b) 23)) = _
      rw [ezml_s, ← q.1]; rfl
    have t2 : ezden r (.pow (.add a b) 23) = ezden r a / ezden r b := q.1
    have t3 : ezden r (.pow (.add a b) 24) = ezden r a % ezden r b := q.2
    obtain ⟨F2, H2, h⟩ := ezpt_s H h (by rw [t1]; omega) (by rw [t1]; omega)
    have i3 := (eziv_s H2 b).2
    obtain ⟨F3, H3, h⟩ := ezpt_s H2 h (by show 1 ≤ ezden r b - ezden r (.sub a (ezml b (.pow (.add a b) 23))); rw [t1]; omega) (by show ezden r b - ezden r (.sub a (ezml b (.pow (.add a b) 23))) ≤ _; rw [t1]; omega)
    obtain ⟨F4, H4, h⟩ := ezpt_s H3 h (by show 0 ≤ ezden r (.sub a (ezml b (.pow (.add a b) 23))) - ezden r (.pow (.add a b) 24); rw [t1, t3]; omega) (by show ezden r (.sub a (ezml b (.pow (.add a b) 23))) - ezden r (.pow (.add a b) 24) ≤ 0; rw [t1, t3]; omega)
    have i4 := (eziv_s H4 a).2
    obtain ⟨F5, H5, h⟩ := ezpt_s H4 h (by rw [t2]; omega) (by rw [t2]; omega)
    have i5 := (eziv_s H5 a).2
    exact ezpt_s H5 h (by show 0 ≤ ezden r a - ezden r (.pow (.add a b) 24); rw [t3]; omega) (by show ezden r a - ezden r (.pow (.add a b) 24) ≤ _; rw [t3]; omega)
/-- two reads of one cell at the same place; the same operation upon the same numbers -/
def ezh8 (a b : xjE) (F : xF) (K : xF → Bool) : Bool := match a, b with
  | .pow (.mul c j) v, .pow (.mul c2 j2) v2 => bif Nat.beq v v2 && (xeq c c2 && (!(xeq j j2) && ezbd F (.sub j j2) 0 0)) then ezpt F (.sub (.pow (.mul c j) v) (.pow (.mul c2 j2) v2)) 0 0 K else K F
  | _, _ => K F
theorem ezh8_s (H : ezH Q r F) {a b : xjE} {K : xF → Bool} (h : ezh8 a b F K = true) : ∃ F2, ezH Q r F2 ∧ K F2 = true := by
  unfold ezh8 at h
  split at h
  · rename_i c j v c2 j2 v2
    revert h
    cases hb : Nat.beq v v2 && (xeq c c2 && (!(xeq j j2) && ezbd F (.sub j j2) 0 0)) with
    | false => intro h; exact ⟨F, H, h⟩
    | true =>
      simp only [cond_true]
      intro h
      simp only [Bool.and_eq_true] at hb
      obtain ⟨b1, b2, -, b3⟩ := hb
      have d : 0 ≤ ezden r j - ezden r j2 ∧ ezden r j - ezden r j2 ≤ 0 := ezbd_s H b3
      have e : ezden r (.sub (.pow (.mul c j) v) (.pow (.mul c2 j2) v2)) = 0 := by
        show r.2.1 v (ezden r c) (ezden r j) - r.2.1 v2 (ezden r c2) (ezden r j2) = 0
        rw [Nat.eq_of_beq_eq_true b1, xeq_s b2, show ezden r j = ezden r j2 by omega]
        exact Int.sub_self _
      exact ezpt_s H h (by rw [e]; decide) (by rw [e]; decide)
  · exact ⟨F, H, h⟩
def ezh13 (a b : xjE) (F : xF) (K : xF → Bool) : Bool := match a, b with
  | .pow (.add x y) k, .pow (.add x2 y2) k2 => bif Nat.beq k k2 && (!(xeq (.pow (.add x y) k) (.pow (.add x2 y2) k2)) && (ezbd F (.sub x x2) 0 0 && ezbd F (.sub y y2) 0 0)) then ezpt F (.sub (.pow (.add x y) k) (.pow (.add x2 y2) k2)) 0 0 K else K F
  | _, _ => K F
theorem ezh13_s (H : ezH Q r F) {a b : xjE} {K : xF → Bool} (h : ezh13 a b F K = true) : ∃ F2, ezH Q r F2 ∧ K F2 = true := by
  unfold ezh13 at h
  split at h
  · rename_i x y k x2 y2 k2
    revert h
    cases hb : Nat.beq k k2 && (!(xeq (.pow (.add x y) k) (.pow (.add x2 y2) k2)) && (ezbd F (.sub x x2) 0 0 && ezbd F (.sub y y2) 0 0)) with
    | false => intro h; exact ⟨F, H, h⟩
    | true =>
      simp only [cond_true]
      intro h
      simp only [Bool.and_eq_true] at hb
      obtain ⟨b1, -, b2, b3⟩ := hb
      have d : 0 ≤ ezden r x - ezden r x2 ∧ ezden r x - ezden r x2 ≤ 0 := ezbd_s H b2
      have d2 : 0 ≤ ezden r y - ezden r y2 ∧ ezden r y - ezden r y2 ≤ 0 := ezbd_s H b3
      have e : ezden r (.sub (.pow (.add x y) k) (.pow (.add x2 y2) k2)) = 0 := by
        show xop k (ezden r x) (ezden r y) - xop k2 (ezden r x2) (ezden r y2) = 0
        rw [Nat.eq_of_beq_eq_true b1, show ezden r x = ezden r x2 by omega, show ezden r y = ezden r y2 by omega]
        exact Int.sub_self _
      exact ezpt_s H h (by rw [e]; decide) (by rw [e]; decide)
  · exact ⟨F, H, h⟩
/-- the same number: what is known of one is known of the other -/
def ezh9 (a b : xjE) (F : xF) (K : xF → Bool) : Bool := bif (!(eznm a) && !(eznm b)) && ezbd F (.sub a b) 0 0 then xfi (eziv F b).1 (fun x => xfi (eziv F b).2 (fun y => ezpt F a x y (fun F => xfi (eziv F a).1 (fun x => xfi (eziv F a).2 (fun y => ezpt F b x y K))))) else K F
theorem ezh9_s (H : ezH Q r F) {a b : xjE} {K : xF → Bool} (h : ezh9 a b F K = true) : ∃ F2, ezH Q r F2 ∧ K F2 = true := by
  unfold ezh9 at h
  revert h
  cases hb : (!(eznm a) && !(eznm b)) && ezbd F (.sub a b) 0 0 with
  | false => intro h; exact ⟨F, H, h⟩
  | true =>
    simp only [cond_true, xfi_s]
    intro h
    rw [Bool.and_eq_true] at hb
    have d : 0 ≤ ezden r a - ezden r b ∧ ezden r a - ezden r b ≤ 0 := ezbd_s H hb.2
    have i1 := eziv_s H b
    obtain ⟨F2, H2, h⟩ := ezpt_s H h (by omega) (by omega)
    have i2 := eziv_s H2 a
    exact ezpt_s H2 h (by omega) (by omega)
/-- what is found of a term, told -/
def ezh10 (e a b : xjE) (F : xF) (K : xF → Bool) : Bool := match a, b with
  | .num x, .num y => bif !(eznm e) && ezbd F e x y then ezpt F e x y K else K F
  | _, _ => K F
theorem ezh10_s (H : ezH Q r F) {e a b : xjE} {K : xF → Bool} (h : ezh10 e a b F K = true) : ∃ F2, ezH Q r F2 ∧ K F2 = true := by
  unfold ezh10 at h
  split at h
  · rename_i x y
    revert h
    cases hb : !(eznm e) && ezbd F e x y with
    | false => intro h; exact ⟨F, H, h⟩
    | true =>
      intro h
      rw [Bool.and_eq_true] at hb
      have d := ezbd_s H hb.2
      exact ezpt_s H h d.1 d.2
  · exact ⟨F, H, h⟩
/-- a b >= 1, neither below 0: both are 1 or more -/
def ezh11 (a b : xjE) (F : xF) (K : xF → Bool) : Bool := bif ezblo F a 0 && (ezblo F b 0 && ezblo F (ezml a b) 1) then xfi (eziv F a).2 (fun u => xfi (eziv F b).2 (fun v => ezpt F a 1 u (fun F => ezpt F b 1 v K))) else K F
theorem ezh11_s (H : ezH Q r F) {a b : xjE} {K : xF → Bool} (h : ezh11 a b F K = true) : ∃ F2, ezH Q r F2 ∧ K F2 = true := by
  unfold ezh11 at h
  revert h
  cases hb : ezblo F a 0 && (ezblo F b 0 && ezblo F (ezml a b) 1) with
  | false => intro h; exact ⟨F, H, h⟩
  | true =>
    simp only [cond_true, xfi_s]
    intro h
    simp only [Bool.and_eq_true] at hb
    have d1 := ezblo_s H hb.1
    have d2 := ezblo_s H hb.2.1
    have d3 := ezblo_s H hb.2.2
    rw [ezml_s] at d3
    have e1 : ezden r a ≠ 0 := fun z => by rw [z, Int.zero_mul] at d3; omega
    have e2 : ezden r b ≠ 0 := fun z => by rw [z, Int.mul_zero] at d3; omega
    have i1 := (eziv_s H a).2
    have i2 := (eziv_s H b).2
    obtain ⟨F2, H2, h⟩ := ezpt_s H h (by omega) i1
    exact ezpt_s H2 h (by omega) i2
theorem ezhmn (k : Nat) (x y : Int) : (xop 97 x y = x ∧ x ≤ y ∨ xop 97 x y = y ∧ y ≤ x) ∧ (xop 81 x y = y ∧ x ≤ y ∨ xop 81 x y = x ∧ y ≤ x) := by
  have e1 : xop 97 x y = bif xle x y then x else y := rfl
  have e2 : xop 81 x y = bif xle x y then y else x := rfl
  rw [e1, e2]
  cases h : xle x y with
  | true =>
    rw [xle_iff] at h
    exact ⟨Or.inl ⟨rfl, h⟩, Or.inl ⟨rfl, h⟩⟩
  | false =>
    have h : ¬ x ≤ y := fun z => by rw [xle_iff.mpr z] at h; cases h
    exact ⟨Or.inr ⟨rfl, by omega⟩, Or.inr ⟨rfl, by omega⟩⟩
/-- the lesser, the greater of two, told apart -/
def ezh12 (a b : xjE) (F : xF) (K : xF → Bool) : Bool := bif ezbhi F (.sub a b) 0 then ezpt F (.sub (.pow (.add a b) 97) a) 0 0 (fun F => ezpt F (.sub (.pow (.add a b) 81) b) 0 0 K) else bif ezblo F (.sub a b) 0 then ezpt F (.sub (.pow (.add a b) 97) b) 0 0 (fun F => ezpt F (.sub (.pow (.add a b) 81) a) 0 0 K) else K F
theorem ezh12_s (H : ezH Q r F) {a b : xjE} {K : xF → Bool} (h : ezh12 a b F K = true) : ∃ F2, ezH Q r F2 ∧ K F2 = true := by
  have m := ezhmn 0 (ezden r a) (ezden r b)
  have t1 : ezden r (.sub (.pow (.add a b) 97) a) = xop 97 (ezden r a) (ezden r b) - ezden r a := rfl
  have t2 : ezden r (.sub (.pow (.add a b) 81) b) = xop 81 (ezden r a) (ezden r b) - ezden r b := rfl
  have t3 : ezden r (.sub (.pow (.add a b) 97) b) = xop 97 (ezden r a) (ezden r b) - ezden r b := rfl
  have t4 : ezden r (.sub (.pow (.add a b) 81) a) = xop 81 (ezden r a) (ezden r b) - ezden r a := rfl
  unfold ezh12 at h
  revert h
  cases hb : ezbhi F (.sub a b) 0 with
  | true =>
    simp only [cond_true]
    intro h
    have d : ezden r a - ezden r b ≤ 0 := ezbhi_s H hb
    obtain ⟨F2, H2, h⟩ := ezpt_s H h (by rw [t1]; omega) (by rw [t1]; omega)
    exact ezpt_s H2 h (by rw [t2]; omega) (by rw [t2]; omega)
  | false =>
    simp only [cond_false]
    cases hb : ezblo F (.sub a b) 0 with
    | false => intro h; exact ⟨F, H, h⟩
    | true =>
      simp only [cond_true]
      intro h
      have d : 0 ≤ ezden r a - ezden r b := ezblo_s H hb
      obtain ⟨F2, H2, h⟩ := ezpt_s H h (by rw [t3]; omega) (by rw [t3]; omega)
      exact ezpt_s H2 h (by rw [t4]; omega) (by rw [t4]; omega)
/-- the lesser of two is not above z, the first one is: the other one isn't -/
def ezh14 (a b c : xjE) (F : xF) (K : xF → Bool) : Bool := match c with
  | .num z => bif ezbhi F (.pow (.add a b) 97) z && ezblo F a (z + 1) then xfi (eziv F b).1 (fun u => ezpt F b u z K) else K F
  | _ => K F
theorem ezh14_s (H : ezH Q r F) {a b c : xjE} {K : xF → Bool} (h : ezh14 a b c F K = true) : ∃ F2, ezH Q r F2 ∧ K F2 = true := by
  unfold ezh14 at h
  split at h
  · rename_i z
    revert h
    cases hb : ezbhi F (.pow (.add a b) 97) z && ezblo F a (z + 1) with
    | false => intro h; exact ⟨F, H, h⟩
    | true =>
      simp only [cond_true, xfi_s]
      intro h
      rw [Bool.and_eq_true] at hb
      have m := ezhmn 0 (ezden r a) (ezden r b)
      have d1 : xop 97 (ezden r a) (ezden r b) ≤ z := ezbhi_s H hb.1
      have d2 := ezblo_s H hb.2
      exact ezpt_s H h (eziv_s H b).1 (by omega)
  · exact ⟨F, H, h⟩
/-- the greater of two is not above z: neither is -/
def ezh15 (a b c : xjE) (F : xF) (K : xF → Bool) : Bool := match c with
  | .num z => bif ezbhi F (.pow (.add a b) 81) z then xfi (eziv F a).1 (fun u => xfi (eziv F b).1 (fun v => ezpt F a u z (fun F => ezpt F b v z K))) else K F
  | _ => K F
theorem ezh15_s (H : ezH Q r F) {a b c : xjE} {K : xF → Bool} (h : ezh15 a b c F K = true) : ∃ F2, ezH Q r F2 ∧ K F2 = true := by
  unfold ezh15 at h
  split at h
  · rename_i z
    revert h
    cases hb : ezbhi F (.pow (.add a b) 81) z with
    | false => intro h; exact ⟨F, H, h⟩
    | true =>
      simp only [cond_true, xfi_s]
      intro h
      have m := ezhmn 0 (ezden r a) (ezden r b)
      have d1 : xop 81 (ezden r a) (ezden r b) ≤ z := ezbhi_s H hb
      have i1 := (eziv_s H a).1
      have i2 := (eziv_s H b).1
      obtain ⟨F2, H2, h⟩ := ezpt_s H h i1 (by omega)
      exact ezpt_s H2 h i2 (by omega)
  · exact ⟨F, H, h⟩
/-- a fact by its kind, where what it asks is seen -/
def ezhc (k : Nat) (es : List xjE) (F : xF) (K : xF → Bool) : Bool := match es with
  | [e] => bif Nat.beq k 1 then (bif ezbd F e 0 29 then ezpt F (.sub (xbin 20 (.num 1) (xlinc e 1)) (.mul (.num 2) (xbin 20 (.num 1) e))) 0 0 K else K F)
    else bif Nat.beq k 3 then (bif xle ((eziv F e).2 - (eziv F e).1) 64 then ezenum F e (fun F _ => K F) else K F)
    else bif Nat.beq k 4 then xfi (xpe e 0).2 (fun c => (ezlt F (xpe e 0).1 c).all (fun q => ezctra q.2 || K q.2)) else K F
  | [a, b] => bif Nat.beq k 5 then (bif ezbd F (.sub a b) 0 0 then ezpt F (.sub (xbin 20 (.num 1) a) (xbin 20 (.num 1) b)) 0 0 K else K F)
    else bif Nat.beq k 7 then ezh7 a b F K else bif Nat.beq k 8 then ezh8 a b F K else bif Nat.beq k 9 then ezh9 a b F K else bif Nat.beq k 11 then ezh11 a b F K else bif Nat.beq k 12 then ezh12 a b F K else bif Nat.beq k 13 then ezh13 a b F K else K F
  | [a, b, c] => bif Nat.beq k 2 then (bif ezblo F (.sub b a) 0 && ezblo F c 0 then xfi (eziv F (.sub (ezml b c) (ezml a c))).2 (fun u => ezpt F (.sub (ezml b c) (ezml a c)) 0 u K) else K F)
    else bif Nat.beq k 6 then ezh6 a b c F K else bif Nat.beq k 10 then ezh10 a b c F K else bif Nat.beq k 14 then ezh14 a b c F K else bif Nat.beq k 15 then ezh15 a b c F K else K F
  | _ => K F
theorem ezhc_s (H : ezH Q r F) {k : Nat} {es : List xjE} {K : xF → Bool} (h : ezhc k es F K = true) : ∃ F2, ezH Q r F2 ∧ K F2 = true := by
  unfold ezhc at h
  split at h
  · rename_i e
    revert h
    cases Nat.beq k 1 with
    | true =>
      simp only [cond_true]
      cases hb : ezbd F e 0 29 with
      | false => intro h; exact ⟨F, H, h⟩
      | true =>
        simp only [cond_true]
        intro h
        have b := ezbd_s H hb
        have e1 : ezden r (xbin 20 (.num 1) (xlinc e 1)) = xop 20 1 (ezden r e + 1) := by
          rw [ezbin_s, ezlinc_s]; rfl
        have e2 : ezden r (xbin 20 (.num 1) e) = xop 20 1 (ezden r e) := by
          rw [ezbin_s]; rfl
        have q := ezsh1 ⟨(ezden r e).toNat, by omega⟩
        have q : xop 20 1 (((ezden r e).toNat : Int) + 1) = 2 * xop 20 1 ((ezden r e).toNat : Int) := q
        rw [Int.toNat_of_nonneg b.1, ← e1, ← e2] at q
        have d : ezden r (.sub (xbin 20 (.num 1) (xlinc e 1)) (.mul (.num 2) (xbin 20 (.num 1) e))) = ezden r (xbin 20 (.num 1) (xlinc e 1)) - 2 * ezden r (xbin 20 (.num 1) e) := rfl
        exact ezpt_s H h (by rw [d]; omega) (by rw [d]; omega)
    | false =>
      simp only [cond_false]
      cases Nat.beq k 3 with
      | true =>
        simp only [cond_true]
        cases xle ((eziv F e).2 - (eziv F e).1) 64 with
        | false => intro h; exact ⟨F, H, h⟩
        | true =>
          simp only [cond_true]
          intro h
          obtain ⟨F2, H2, h2⟩ := ezenum_s H h
          exact ⟨F2, H2, h2⟩
      | false =>
        simp only [cond_false]
        cases Nat.beq k 4 with
        | false => intro h; exact ⟨F, H, h⟩
        | true =>
          simp only [cond_true, xfi_s]
          intro h
          obtain ⟨q, hq, H2, -⟩ := ezlt_s H (xpe e 0).1 (xpe e 0).2
          have h2 := List.all_eq_true.mp h q hq
          rw [ezctra_s H2, Bool.false_or] at h2
          exact ⟨q.2, H2, h2⟩
  · rename_i a b
    revert h
    cases Nat.beq k 5 with
    | true =>
      simp only [cond_true]
      cases hb : ezbd F (.sub a b) 0 0 with
      | false => intro h; exact ⟨F, H, h⟩
      | true =>
        simp only [cond_true]
        intro h
        have d := ezbd_s H hb
        have d : 0 ≤ ezden r a - ezden r b ∧ ezden r a - ezden r b ≤ 0 := d
        have e : ezden r a = ezden r b := by omega
        have e2 : ezden r (.sub (xbin 20 (.num 1) a) (xbin 20 (.num 1) b)) = 0 := by
          show ezden r (xbin 20 (.num 1) a) - ezden r (xbin 20 (.num 1) b) = 0
          rw [ezbin_s, ezbin_s, e]
          exact Int.sub_self _
        exact ezpt_s H h (by rw [e2]; decide) (by rw [e2]; decide)
    | false =>
      simp only [cond_false]
      cases Nat.beq k 7 with
      | true => exact fun h => ezh7_s H h
      | false =>
      simp only [cond_false]
      cases Nat.beq k 8 with
      | true => exact fun h => ezh8_s H h
      | false =>
      simp only [cond_false]
      cases Nat.beq k 9 with
      | true => exact fun h => ezh9_s H h
      | false =>
      simp only [cond_false]
      cases Nat.beq k 11 with
      | true => exact fun h => ezh11_s H h
      | false =>
      simp only [cond_false]
      cases Nat.beq k 12 with
      | true => exact fun h => ezh12_s H h
      | false =>
      simp only [cond_false]
      cases Nat.beq k 13 with
      | true => exact fun h => ezh13_s H h
      | false => exact fun h => ⟨F, H, h⟩
  · rename_i a b c
    revert h
    cases Nat.beq k 2 with
    | true =>
      simp only [cond_true]
      cases hb : ezblo F (.sub b a) 0 && ezblo F c 0 with
      | false => intro h; exact ⟨F, H, h⟩
      | true =>
        simp only [cond_true, xfi_s]
        intro h
        rw [Bool.and_eq_true] at hb
        have d : 0 ≤ ezden r b - ezden r a := ezblo_s H hb.1
        have d2 := ezblo_s H hb.2
        have e2 : ezden r (.sub (ezml b c) (ezml a c)) = ezden r b * ezden r c - ezden r a * ezden r c := by
          show ezden r (ezml b c) - ezden r (ezml a c) = _
          rw [ezml_s, ezml_s]
        have iv := eziv_s H (.sub (ezml b c) (ezml a c))
        exact ezpt_s H h (by rw [e2]; exact ezhm2 d d2) iv.2
    | false =>
      simp only [cond_false]
      cases Nat.beq k 6 with
      | true => exact fun h => ezh6_s H h
      | false =>
      simp only [cond_false]
      cases Nat.beq k 10 with
      | true => exact fun h => ezh10_s H h
      | false =>
      simp only [cond_false]
      cases Nat.beq k 14 with
      | true => exact fun h => ezh14_s H h
      | false =>
      simp only [cond_false]
      cases Nat.beq k 15 with
      | true => exact fun h => ezh15_s H h
      | false => exact fun h => ⟨F, H, h⟩
  · exact ⟨F, H, h⟩
def ezhev (l : List (Nat × xjE)) (L1 : List ezLy) : List xjE → xF → (xF → List xjE → Bool) → Bool
  | [], F, k => k F []
  | p :: ps, F, k => ezev l [] L1 p F (fun F e => ezhev l L1 ps F (fun F es => k F (e :: es)))
theorem ezhev_s {l : List (Nat × xjE)} {L1 : List ezLy} : ∀ (ps : List xjE) {F : xF} {k : xF → List xjE → Bool}, ezH Q r F → ezhev l L1 ps F k = true → ∃ F2 es, ezH Q r F2 ∧ k F2 es = true := by
  intro ps
  induction ps with
  | nil => intro F k H h; exact ⟨F, [], H, h⟩
  | cons p ps ih =>
    intro F k H h
    unfold ezhev at h
    obtain ⟨F2, e, H2, h2, -⟩ := ezev_s (ezrs_sb (r := r) (l := l) (L0 := []) (L1 := L1) (b := r.2.2)) p H h
    obtain ⟨F3, es, H3, h3⟩ := ih H2 h2
    exact ⟨F3, e :: es, H3, h3⟩
def ezhts (l : List (Nat × xjE)) (L1 : List ezLy) : List (Nat × List xjE) → xF → (xF → Bool) → Bool
  | [], F, k => k F
  | q :: qs, F, k => ezhev l L1 q.2 F (fun F es => ezhc q.1 es F (fun F => ezhts l L1 qs F k))
theorem ezhts_s {l : List (Nat × xjE)} {L1 : List ezLy} : ∀ (qs : List (Nat × List xjE)) {F : xF} {k : xF → Bool}, ezH Q r F → ezhts l L1 qs F k = true → ∃ F2, ezH Q r F2 ∧ k F2 = true := by
  intro qs
  induction qs with
  | nil => intro F k H h; exact ⟨F, H, h⟩
  | cons q qs ih =>
    intro F k H h
    unfold ezhts at h
    obtain ⟨F2, es, H2, h2⟩ := ezhev_s q.2 H h
    obtain ⟨F3, H3, h3⟩ := ezhc_s H2 h2
    exact ih H3 h3
/-- what is told at a place -/
def ezhtl (W : ezHts) (pc : Nat) : List (Nat × List xjE) := List.rec (motive := fun _ => List (Nat × List xjE)) [] (fun q _ ih => bif Nat.beq q.1 pc then q.2 else ih) W
/-- locals and stack as numbers of a pattern -/
def ezhst (i : Nat) : List xV → List (Nat × xjE)
  | [] => []
  | v :: l => (4096 + 64 * i + 22, v.2) :: ezhst (i + 1) l
def ezhl (lv : List (Nat × xV)) (st : List xV) : List (Nat × xjE) := lv.map (fun q => (4096 + 64 * q.1 + 22, q.2.2)) ++ ezhst 40 st
def ezht (W : ezHts) (fr : Nat × List (Nat × xV) × List xV) (L1 : List ezLy) (F : xF) (k : xF → Bool) : Bool := match ezhtl W fr.1 with
  | [] => k F
  | q :: qs => ezhts (ezhl fr.2.1 fr.2.2) L1 (q :: qs) F k
theorem ezht_s (H : ezH Q r F) {W : ezHts} {fr : Nat × List (Nat × xV) × List xV} {L1 : List ezLy} {k : xF → Bool} (h : ezht W fr L1 F k = true) : ∃ F2, ezH Q r F2 ∧ k F2 = true := by
  unfold ezht at h
  split at h
  · exact ⟨F, H, h⟩
  · exact ezhts_s _ H h
end EZB6
