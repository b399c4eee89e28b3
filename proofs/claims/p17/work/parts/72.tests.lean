section EZ2
variable {Q : ezR → Prop}
theorem ezHc {r : ezR} {F : xF} {e : xjE} {lo hi : Int} (h : ezH Q r F) (h1 : lo ≤ ezden r e) (h2 : ezden r e ≤ hi) : ezH Q r ((e, lo, hi) :: F) := ⟨h.1, fun q hq => (List.mem_cons.mp hq).elim (fun z => by rw [z]; exact ⟨h1, h2⟩) (h.2 q)⟩
def ezls1 (r : ezR) : List (xjE × Int) → Int
  | [] => 0
  | q :: l => q.2 * ezden r q.1 + ezls1 r l
def ezls (r : ezR) (a : xLf) : Int := ezls1 r a.1 + a.2
theorem ezlins_s {r : ezR} (e : xjE) (c : Int) : ∀ l, ezls1 r (xlins e c l) = c * ezden r e + ezls1 r l := by
  intro l
  induction l with
  | nil => rfl
  | cons q l ih =>
    show ezls1 r (bif xeq q.1 e then (q.1, q.2 + c) :: l else q :: xlins e c l) = c * ezden r e + (q.2 * ezden r q.1 + ezls1 r l)
    cases h : xeq q.1 e with
    | true =>
      have e1 := xeq_s h
      show (q.2 + c) * ezden r q.1 + ezls1 r l = _
      rw [e1, Int.add_mul]
      omega
    | false =>
      show q.2 * ezden r q.1 + ezls1 r (xlins e c l) = _
      rw [ih]
      omega
theorem ezlnf_s {r : ezR} : ∀ (e : xjE) (c : Int) (a : xLf), ezls r (xlnf c e a) = c * ezden r e + ezls r a := by
  have gen : ∀ (e : xjE) (c : Int) (a : xLf), ezls r (xlins e c a.1, a.2) = c * ezden r e + ezls r a := by
    intro e c a
    show ezls1 r (xlins e c a.1) + a.2 = c * ezden r e + (ezls1 r a.1 + a.2)
    rw [ezlins_s]
    omega
  intro e
  induction e with
  | num k =>
    intro c a
    show ezls1 r a.1 + (a.2 + c * k) = c * k + (ezls1 r a.1 + a.2)
    omega
  | neg x ih =>
    intro c a
    show ezls r (xlnf (-c) x a) = c * (- ezden r x) + ezls r a
    rw [ih, Int.neg_mul, Int.mul_neg]
  | add x y ihx ihy =>
    intro c a
    show ezls r (xlnf c y (xlnf c x a)) = c * (ezden r x + ezden r y) + ezls r a
    rw [ihy, ihx, Int.mul_add]
    omega
  | sub x y ihx ihy =>
    intro c a
    show ezls r (xlnf (-c) y (xlnf c x a)) = c * (ezden r x - ezden r y) + ezls r a
    rw [ihy, ihx, Int.mul_sub, Int.neg_mul]
    omega
  | mul x y ihx ihy =>
    intro c a
    unfold xlnf
    split
    · rename_i k
      rw [ihy]
      show c * k * ezden r y + ezls r a = c * (k * ezden r y) + ezls r a
      rw [Int.mul_assoc]
    · split
      · rename_i k
        rw [ihx]
        show c * k * ezden r x + ezls r a = c * (ezden r x * k) + ezls r a
        rw [Int.mul_assoc, Int.mul_comm k]
      · exact gen _ c a
  | var i => intro c a; exact gen _ c a
  | natCast k => intro c a; exact gen _ c a
  | intCast k => intro c a; exact gen _ c a
  | pow x k ih => intro c a; exact gen _ c a
def ezlv1 (F : xF) : List (xjE × Int) → Int × Int
  | [] => (0, 0)
  | q :: l => bif decide (q.2 = 0) then ezlv1 F l else ((xmuli (q.2, q.2) (eziv F q.1)).1 + (ezlv1 F l).1, (xmuli (q.2, q.2) (eziv F q.1)).2 + (ezlv1 F l).2)
theorem ezlv1_s {r : ezR} {F : xF} (H : ezH Q r F) : ∀ l, (ezlv1 F l).1 ≤ ezls1 r l ∧ ezls1 r l ≤ (ezlv1 F l).2 := by
  intro l
  induction l with
  | nil => exact ⟨Int.le_refl _, Int.le_refl _⟩
  | cons q l ih =>
    have a := xmuli_s (p := (q.2, q.2)) (q := eziv F q.1) (x := q.2) (y := ezden r q.1) ⟨Int.le_refl _, Int.le_refl _⟩ (eziv_s H q.1)
    unfold ezlv1
    show _ ≤ q.2 * ezden r q.1 + ezls1 r l ∧ q.2 * ezden r q.1 + ezls1 r l ≤ _
    cases h : decide (q.2 = 0) with
    | true =>
      have e := of_decide_eq_true h
      rw [e, Int.zero_mul, Int.zero_add]
      exact ih
    | false =>
      simp only [cond_false]
      omega
theorem ezfz_s {r : ezR} : ∀ l, ezls1 r (xfz l) = ezls1 r l := by
  intro l
  induction l with
  | nil => rfl
  | cons q l ih =>
    show ezls1 r (bif decide (q.2 = 0) then xfz l else q :: xfz l) = q.2 * ezden r q.1 + ezls1 r l
    cases h : decide (q.2 = 0) with
    | true =>
      rw [of_decide_eq_true h, Int.zero_mul, Int.zero_add]
      exact ih
    | false =>
      show q.2 * ezden r q.1 + ezls1 r (xfz l) = _
      rw [ih]
/-! facts of more than one unknown, as linear forms; a linear form shown not below t, looking d facts deep -/
def ezmul1 (m : Int) : List (xjE × Int) → List (xjE × Int)
  | [] => []
  | q :: l => (q.1, m * q.2) :: ezmul1 m l
theorem ezmul1_s {r : ezR} (m : Int) : ∀ l, ezls1 r (ezmul1 m l) = m * ezls1 r l := by
  intro l
  induction l with
  | nil => show (0 : Int) = m * 0; omega
  | cons q l ih =>
    show m * q.2 * ezden r q.1 + ezls1 r (ezmul1 m l) = m * (q.2 * ezden r q.1 + ezls1 r l)
    rw [ih, Int.mul_add, Int.mul_assoc]
/-- one list's terms put to another's -/
def ezadd1 : List (xjE × Int) → List (xjE × Int) → List (xjE × Int)
  | [], a => a
  | q :: l, a => ezadd1 l (xlins q.1 q.2 a)
theorem ezadd1_s {r : ezR} : ∀ (l a : List (xjE × Int)), ezls1 r (ezadd1 l a) = ezls1 r l + ezls1 r a := by
  intro l
  induction l with
  | nil => intro a; show ezls1 r a = 0 + ezls1 r a; omega
  | cons q l ih =>
    intro a
    show ezls1 r (ezadd1 l (xlins q.1 q.2 a)) = q.2 * ezden r q.1 + ezls1 r l + ezls1 r a
    rw [ih, ezlins_s]
    omega
/-- a fact as a linear form: its terms, its least, its greatest -/
def ezrel : xF → List (List (xjE × Int) × Int × Int)
  | [] => []
  | q :: F => (match xfz (xlnf 1 q.1 ([], 0)).1 with
    | x :: y :: l => (x :: y :: l, q.2.1 - (xlnf 1 q.1 ([], 0)).2, q.2.2 - (xlnf 1 q.1 ([], 0)).2) :: ezrel F
    | _ => ezrel F)
theorem ezrel_s {r : ezR} : ∀ {F : xF}, (∀ q ∈ F, q.2.1 ≤ ezden r q.1 ∧ ezden r q.1 ≤ q.2.2) → ∀ z ∈ ezrel F, z.2.1 ≤ ezls1 r z.1 ∧ ezls1 r z.1 ≤ z.2.2 := by
  intro F
  induction F with
  | nil => intro _ z hz; cases hz
  | cons q F ih =>
    intro h z hz
    have ih := ih (fun q hq => h q (List.mem_cons_of_mem _ hq))
    unfold ezrel at hz
    split at hz
    · rename_i x y l e
      rcases List.mem_cons.mp hz with hz | hz
      · have h1 := h q List.mem_cons_self
        have e0 : ezls r (([], 0) : xLf) = 0 := rfl
        have e1 : ezls r (xlnf 1 q.1 ([], 0)) = ezden r q.1 := by rw [ezlnf_s, e0]; omega
        have e2 : ezls1 r (xlnf 1 q.1 ([], 0)).1 + (xlnf 1 q.1 ([], 0)).2 = ezden r q.1 := e1
        have e3 := ezfz_s (r := r) (xlnf 1 q.1 ([], 0)).1
        rw [e] at e3
        subst hz
        show q.2.1 - _ ≤ ezls1 r (x :: y :: l) ∧ ezls1 r (x :: y :: l) ≤ q.2.2 - _
        omega
      · exact ih z hz
    · exact ih z hz
/-- the factor of a term in a list -/
def ezco (e : xjE) : List (xjE × Int) → Int
  | [] => 0
  | q :: l => bif xeq q.1 e then q.2 else ezco e l
/-- where the ends of one term lie farthest apart: that term, its factor -/
def ezwid (F : xF) : List (xjE × Int) → xjE → Int → Int → (xjE → Int → Bool) → Bool
  | [], x, c, _, k => k x c
  | q :: l, x, c, w, k => bif decide (q.2 = 0) then ezwid F l x c w k else xfi ((bif xle 0 q.2 then q.2 else -q.2) * ((eziv F q.1).2 - (eziv F q.1).1)) (fun v => bif xle w v then ezwid F l q.1 q.2 v k else ezwid F l x c w k)
theorem ezwid_s {F : xF} {k : xjE → Int → Bool} : ∀ (l : List (xjE × Int)) (x : xjE) (c w : Int), ezwid F l x c w k = true → ∃ y d, k y d = true := by
  intro l
  induction l with
  | nil => intro x c w h; exact ⟨x, c, h⟩
  | cons q l ih =>
    intro x c w h
    unfold ezwid at h
    revert h
    cases decide (q.2 = 0) with
    | true => exact ih x c w
    | false =>
      simp only [cond_false]
      rw [xfi_s]
      cases xle w ((bif xle 0 q.2 then q.2 else -q.2) * ((eziv F q.1).2 - (eziv F q.1).1)) with
      | true => exact ih _ _ _
      | false => exact ih x c w
/-- put together, worked out before it goes on -/
def ezinsK (e : xjE) (c : Int) : List (xjE × Int) → (List (xjE × Int) → Bool) → Bool
  | [], k => k [(e, c)]
  | q :: l, k => bif xeq q.1 e then xfi (q.2 + c) (fun v => k ((q.1, v) :: l)) else ezinsK e c l (fun l2 => k (q :: l2))
theorem ezinsK_s (e : xjE) (c : Int) : ∀ (l : List (xjE × Int)) (k : List (xjE × Int) → Bool), ezinsK e c l k = k (xlins e c l) := by
  intro l
  induction l with
  | nil => intro k; rfl
  | cons q l ih =>
    intro k
    show (bif xeq q.1 e then xfi (q.2 + c) (fun v => k ((q.1, v) :: l)) else ezinsK e c l (fun l2 => k (q :: l2))) = k (bif xeq q.1 e then (q.1, q.2 + c) :: l else q :: xlins e c l)
    cases xeq q.1 e with
    | true =>
      show xfi (q.2 + c) (fun v => k ((q.1, v) :: l)) = k ((q.1, q.2 + c) :: l)
      rw [xfi_s]
    | false => exact ih _
def ezaddK (m : Int) : List (xjE × Int) → List (xjE × Int) → (List (xjE × Int) → Bool) → Bool
  | [], a, k => k a
  | q :: l, a, k => xfi (m * q.2) (fun v => ezinsK q.1 v a (fun a2 => ezaddK m l a2 k))
theorem ezaddK_s (m : Int) : ∀ (l a : List (xjE × Int)) (k : List (xjE × Int) → Bool), ezaddK m l a k = k (ezadd1 (ezmul1 m l) a) := by
  intro l
  induction l with
  | nil => intro a k; rfl
  | cons q l ih =>
    intro a k
    show xfi (m * q.2) (fun v => ezinsK q.1 v a (fun a2 => ezaddK m l a2 k)) = k (ezadd1 (ezmul1 m l) (xlins q.1 (m * q.2) a))
    rw [xfi_s, ezinsK_s, ih]
/-- so many times, worked out before it goes on -/
def ezmulK (a : Int) : List (xjE × Int) → (List (xjE × Int) → Bool) → Bool
  | [], k => k []
  | q :: l, k => xfi (a * q.2) (fun v => ezmulK a l (fun l2 => k ((q.1, v) :: l2)))
theorem ezmulK_s (a : Int) : ∀ (l : List (xjE × Int)) (k : List (xjE × Int) → Bool), ezmulK a l k = k (ezmul1 a l) := by
  intro l
  induction l with
  | nil => intro k; rfl
  | cons q l ih =>
    intro k
    show xfi (a * q.2) (fun v => ezmulK a l (fun l2 => k ((q.1, v) :: l2))) = k ((q.1, a * q.2) :: ezmul1 a l)
    rw [xfi_s, ih]
/-- the widest one of those that some relation speaks of -/
def ezpk (F : xF) (R : List (List (xjE × Int) × Int × Int)) : Nat → List (xjE × Int) → (xjE → Int → Bool) → Bool
  | 0, _, _ => false
  | n + 1, cs, k => ezwid F cs (.num 0) 0 (-1) (fun x cx => bif R.any (fun z => !(decide (ezco x z.1 = 0))) then k x cx else ezpk F R n (cs.filter (fun q => !(xeq q.1 x))) k)
theorem ezpk_s {F : xF} {R : List (List (xjE × Int) × Int × Int)} {k : xjE → Int → Bool} : ∀ (n : Nat) (cs : List (xjE × Int)), ezpk F R n cs k = true → ∃ y d, k y d = true := by
  intro n
  induction n with
  | zero => intro cs h; cases h
  | succ n ih =>
    intro cs h
    unfold ezpk at h
    obtain ⟨y, d, h⟩ := ezwid_s _ _ _ _ h
    revert h
    cases R.any (fun z => !(decide (ezco y z.1 = 0))) with
    | true => exact fun h => ⟨y, d, h⟩
    | false => exact fun h => ih _ h
theorem ezscl {a t x : Int} (h1 : 1 ≤ a) (h : a * t - a + 1 ≤ a * x) : t ≤ x := by
  rcases Int.lt_or_le x t with h2 | h2
  · have h3 := Int.mul_le_mul_of_nonneg_left (show x ≤ t - 1 by omega) (show 0 ≤ a by omega)
    rw [Int.mul_sub, Int.mul_one] at h3
    omega
  · exact h2
def ezlb (F : xF) (R : List (List (xjE × Int) × Int × Int)) : Nat → List (xjE × Int) → Int → Int → Bool
  | 0, l, c, t => xle t ((ezlv1 F l).1 + c)
  | d + 1, l, c, t => xle t ((ezlv1 F l).1 + c) || ezpk F R 4 l (fun x cx => R.any (fun z => xfi (ezco x z.1) (fun k => bif decide (k = 0) then false else xfi (cx / k) (fun m => bif decide (m * k = cx) then
      xfi (c + m * (bif xle 0 m then z.2.1 else z.2.2)) (fun c2 => ezaddK (-m) z.1 l (fun l2 => ezlb F R d l2 c2 t))
      else xfi (bif xle 0 k then k else -k) (fun a => xfi (bif xle 0 k then cx else -cx) (fun m => xfi (a * c + m * (bif xle 0 m then z.2.1 else z.2.2)) (fun c2 => xfi (a * t - a + 1) (fun t2 => xle 1 a && ezmulK a l (fun l2 => ezaddK (-m) z.1 l2 (fun l3 => ezlb F R d l3 c2 t2))))))))))
theorem ezlb_s {r : ezR} {F : xF} (H : ezH Q r F) {R : List (List (xjE × Int) × Int × Int)} (hR : ∀ z ∈ R, z.2.1 ≤ ezls1 r z.1 ∧ ezls1 r z.1 ≤ z.2.2) : ∀ (d : Nat) (l : List (xjE × Int)) (c t : Int), ezlb F R d l c t = true → t ≤ ezls1 r l + c := by
  have base : ∀ (l : List (xjE × Int)) (c t : Int), xle t ((ezlv1 F l).1 + c) = true → t ≤ ezls1 r l + c := by
    intro l c t h
    rw [xle_iff] at h
    have := ezlv1_s H l
    omega
  intro d
  induction d with
  | zero => intro l c t h; exact base l c t h
  | succ d ih =>
    intro l c t h
    unfold ezlb at h
    rw [Bool.or_eq_true] at h
    rcases h with h | h
    · exact base l c t h
    · obtain ⟨x, cx, h⟩ := ezpk_s _ _ h
      obtain ⟨z, hz, h1⟩ := List.any_eq_true.mp h
      have hb := hR z hz
      rw [xfi_s] at h1
      revert h1
      cases decide (ezco x z.1 = 0) with
      | true => intro h1; cases h1
      | false =>
        simp only [cond_false]
        rw [xfi_s]
        generalize cx / ezco x z.1 = m
        cases decide (m * ezco x z.1 = cx) with
        | false =>
          simp only [cond_false, xfi_s]
          generalize (bif xle 0 (ezco x z.1) then ezco x z.1 else -ezco x z.1) = a
          generalize (bif xle 0 (ezco x z.1) then cx else -cx) = m2
          intro h1
          rw [Bool.and_eq_true, xle_iff, ezmulK_s, ezaddK_s] at h1
          have h2 := ih _ _ _ h1.2
          rw [ezadd1_s, ezmul1_s, ezmul1_s, Int.neg_mul] at h2
          refine ezscl h1.1 ?_
          rw [Int.mul_add]
          cases hm : xle 0 m2 with
          | true =>
            rw [hm] at h2
            rw [xle_iff] at hm
            have := Int.mul_le_mul_of_nonneg_left hb.1 hm
            simp only [cond_true] at h2
            omega
          | false =>
            rw [hm] at h2
            have hm : ¬ 0 ≤ m2 := fun z => by rw [xle_iff.mpr z] at hm; cases hm
            have := Int.mul_le_mul_of_nonpos_right hb.2 (show m2 ≤ 0 by omega)
            rw [Int.mul_comm _ m2, Int.mul_comm _ m2] at this
            simp only [cond_false] at h2
            omega
        | true =>
          simp only [cond_true]
          rw [xfi_s, ezaddK_s]
          intro h1
          have h2 := ih _ _ _ h1
          rw [ezadd1_s, ezmul1_s, Int.neg_mul] at h2
          cases hm : xle 0 m with
          | true =>
            rw [hm] at h2
            rw [xle_iff] at hm
            have := Int.mul_le_mul_of_nonneg_left hb.1 hm
            simp only [cond_true] at h2
            omega
          | false =>
            rw [hm] at h2
            have hm : ¬ 0 ≤ m := fun z => by rw [xle_iff.mpr z] at hm; cases hm
            have := Int.mul_le_mul_of_nonpos_right hb.2 (show m ≤ 0 by omega)
            rw [Int.mul_comm _ m, Int.mul_comm _ m] at this
            simp only [cond_false] at h2
            omega
/-- a term is known to lie not below, not above, between -/
def ezblo (F : xF) (e : xjE) (lo : Int) : Bool := xle lo (eziv F e).1 || ezlb F (ezrel F) 3 (xfz (xlnf 1 e ([], 0)).1) (xlnf 1 e ([], 0)).2 lo
def ezbhi (F : xF) (e : xjE) (hi : Int) : Bool := xle (eziv F e).2 hi || ezlb F (ezrel F) 3 (xfz (xlnf (-1) e ([], 0)).1) (xlnf (-1) e ([], 0)).2 (-hi)
def ezbd (F : xF) (e : xjE) (lo hi : Int) : Bool := ezblo F e lo && ezbhi F e hi
theorem ezblo_s {r : ezR} {F : xF} (H : ezH Q r F) {e : xjE} {lo : Int} (h : ezblo F e lo = true) : lo ≤ ezden r e := by
  unfold ezblo at h
  rw [Bool.or_eq_true, xle_iff] at h
  rcases h with h | h
  · have := eziv_s H e; omega
  · have := ezlb_s H (ezrel_s H.2) _ _ _ _ h
    have e0 : ezls r (([], 0) : xLf) = 0 := rfl
    have e1 : ezls r (xlnf 1 e ([], 0)) = ezden r e := by rw [ezlnf_s, e0]; omega
    have e2 : ezls1 r (xlnf 1 e ([], 0)).1 + (xlnf 1 e ([], 0)).2 = ezden r e := e1
    rw [ezfz_s] at this
    omega
theorem ezbhi_s {r : ezR} {F : xF} (H : ezH Q r F) {e : xjE} {hi : Int} (h : ezbhi F e hi = true) : ezden r e ≤ hi := by
  unfold ezbhi at h
  rw [Bool.or_eq_true, xle_iff] at h
  rcases h with h | h
  · have := eziv_s H e; omega
  · have := ezlb_s H (ezrel_s H.2) _ _ _ _ h
    have e0 : ezls r (([], 0) : xLf) = 0 := rfl
    have e1 : ezls r (xlnf (-1) e ([], 0)) = - ezden r e := by rw [ezlnf_s, e0]; omega
    have e2 : ezls1 r (xlnf (-1) e ([], 0)).1 + (xlnf (-1) e ([], 0)).2 = - ezden r e := e1
    rw [ezfz_s] at this
    omega
theorem ezbd_s {r : ezR} {F : xF} (H : ezH Q r F) {e : xjE} {lo hi : Int} (h : ezbd F e lo hi = true) : lo ≤ ezden r e ∧ ezden r e ≤ hi := by
  unfold ezbd at h
  rw [Bool.and_eq_true] at h
  exact ⟨ezblo_s H h.1, ezbhi_s H h.2⟩
/-! what a fact of several terms tells of each alone -/
def ezder2 (F G : xF) (e : xjE) (lo hi : Int) : xF := bif xle lo (eziv F e).1 && xle (eziv F e).2 hi then G else (e, xmx lo (eziv F e).1, xmn hi (eziv F e).2) :: G
def ezder1 (F : xF) (k lo hi : Int) : List (xjE × Int) → List (xjE × Int) → xF → xF
  | [], _, G => G
  | q :: l, a, G => ezder1 F k lo hi l (q :: a) (bif decide (q.2 = 1) then ezder2 F G q.1 (lo - k - ((ezlv1 F a).2 + (ezlv1 F l).2)) (hi - k - ((ezlv1 F a).1 + (ezlv1 F l).1)) else bif decide (q.2 = -1) then ezder2 F G q.1 ((ezlv1 F a).1 + (ezlv1 F l).1 + k - hi) ((ezlv1 F a).2 + (ezlv1 F l).2 + k - lo) else G)
/-- a number shifted to the right that isn't 0: by how much at most -/
def eznm : xjE → Bool
  | .num _ => true
  | _ => false
def ezshr (F : xF) (e : xjE) (lo : Int) (G : xF) : xF := match e with
  | .pow (.add x n) k => bif (!(eznm n) && Nat.beq k 21) && (xle 1 lo && (xr32 (eziv F x) && (xle 1 (eziv F x).2 && (xle 0 (eziv F n).1 && (xle (eziv F n).2 31 && xle (((Nat.log2 (eziv F x).2.toNat : Nat) : Int) + 1) (eziv F n).2))))) then (n, (eziv F n).1, ((Nat.log2 (eziv F x).2.toNat : Nat) : Int)) :: G else G
  | _ => G
def ezput (F : xF) (e : xjE) (lo hi : Int) : xF := match xfz (xlnf 1 e ([], 0)).1 with
  | x :: y :: l => (e, lo, hi) :: ezder1 F (xlnf 1 e ([], 0)).2 lo hi (x :: y :: l) [] F
  | [x] => bif xeq x.1 e then ezshr F e lo ((e, lo, hi) :: F) else (e, lo, hi) :: ezder1 F (xlnf 1 e ([], 0)).2 lo hi [x] [] F
  | [] => ezshr F e lo ((e, lo, hi) :: F)
theorem ezsh21 {x y h : Int} (h0 : -2147483648 ≤ x) (h1 : x ≤ h) (h2 : h ≤ 2147483647) (y0 : 0 ≤ y) (y1 : y ≤ 31) (hx : 1 ≤ xop 21 x y) : y ≤ ((Nat.log2 h.toNat : Nat) : Int) := by
  have hs : ((Int32.ofInt y &&& 31).toBitVec.smod 32).toNat = y.toNat := by
    have := ezs31 (k := y.toNat) (by omega)
    rw [Int.toNat_of_nonneg (by omega)] at this
    exact this
  have ex : (Int32.ofInt x).toInt = x := y32_id (by omega) (by omega)
  have e2 : ycI 5 x y = x / ((2 ^ y.toNat : Nat) : Int) := by
    show (Int32.ofInt x >>> (Int32.ofInt y &&& 31)).toInt = _
    rw [pk_shr _ _ _ hs, ex, Int.shiftRight_eq_div_pow]
  have e3 : xop 21 x y = ycI 5 x y := rfl
  rw [e3, e2] at hx
  have hp : (0 : Int) < ((2 ^ y.toNat : Nat) : Int) := Int.ofNat_lt.mpr (Nat.pow_pos (by decide))
  have hm : ((2 ^ y.toNat : Nat) : Int) ≤ x := by
    have := (Int.le_ediv_iff_mul_le hp).mp hx
    omega
  have hn : 2 ^ y.toNat ≤ h.toNat := by omega
  have hh : h.toNat ≠ 0 := by
    have := Nat.pow_pos (n := y.toNat) (show 0 < 2 by decide)
    omega
  have := (Nat.le_log2 hh).mpr hn
  omega
theorem ezder2_s {r : ezR} {F G : xF} (H : ezH Q r F) (HG : ezH Q r G) {e : xjE} {lo hi : Int} (h1 : lo ≤ ezden r e) (h2 : ezden r e ≤ hi) : ezH Q r (ezder2 F G e lo hi) := by
  have iv := eziv_s H e
  have m1 := xmx_s lo (eziv F e).1
  have m2 := xmn_s hi (eziv F e).2
  unfold ezder2
  cases xle lo (eziv F e).1 && xle (eziv F e).2 hi with
  | true => exact HG
  | false => exact ezHc HG (by omega) (by omega)
theorem ezder1_s {r : ezR} {F : xF} (H : ezH Q r F) {k lo hi : Int} : ∀ (l a : List (xjE × Int)) {G : xF}, ezH Q r G → lo ≤ ezls1 r a + ezls1 r l + k → ezls1 r a + ezls1 r l + k ≤ hi → ezH Q r (ezder1 F k lo hi l a G) := by
  intro l
  induction l with
  | nil => intro a G HG _ _; exact HG
  | cons q l ih =>
    intro a G HG h1 h2
    have va := ezlv1_s H a
    have vl := ezlv1_s H l
    have e1 : ezls1 r (q :: l) = q.2 * ezden r q.1 + ezls1 r l := rfl
    have e2 : ezls1 r (q :: a) = q.2 * ezden r q.1 + ezls1 r a := rfl
    rw [e1] at h1 h2
    refine ih (q :: a) ?_ (by rw [e2]; omega) (by rw [e2]; omega)
    cases c1 : decide (q.2 = 1) with
    | true =>
      have e := of_decide_eq_true c1
      rw [e, Int.one_mul] at h1 h2
      exact ezder2_s H HG (by omega) (by omega)
    | false =>
      simp only [cond_false]
      cases c2 : decide (q.2 = -1) with
      | true =>
        have e := of_decide_eq_true c2
        rw [e, Int.neg_mul, Int.one_mul] at h1 h2
        exact ezder2_s H HG (by omega) (by omega)
      | false => exact HG
theorem ezshr_s {r : ezR} {F G : xF} (H : ezH Q r F) (HG : ezH Q r G) {lo : Int} : ∀ e : xjE, lo ≤ ezden r e → ezH Q r (ezshr F e lo G)
  | .pow (.add x n) k, h1 => by
      have hx := eziv_s H x
      have hn := eziv_s H n
      have h1 : lo ≤ xop k (ezden r x) (ezden r n) := h1
      show ezH Q r (bif (!(eznm n) && Nat.beq k 21) && (xle 1 lo && (xr32 (eziv F x) && (xle 1 (eziv F x).2 && (xle 0 (eziv F n).1 && (xle (eziv F n).2 31 && xle (((Nat.log2 (eziv F x).2.toNat : Nat) : Int) + 1) (eziv F n).2))))) then (n, (eziv F n).1, ((Nat.log2 (eziv F x).2.toNat : Nat) : Int)) :: G else G)
      cases c : (!(eznm n) && Nat.beq k 21) && (xle 1 lo && (xr32 (eziv F x) && (xle 1 (eziv F x).2 && (xle 0 (eziv F n).1 && (xle (eziv F n).2 31 && xle (((Nat.log2 (eziv F x).2.toNat : Nat) : Int) + 1) (eziv F n).2))))) with
      | false => exact HG
      | true =>
        unfold xr32 at c
        simp only [Bool.and_eq_true, xle_iff] at c
        obtain ⟨⟨-, c1⟩, c2, ⟨c3, c4⟩, c5, c6, c7, -⟩ := c
        rw [Nat.eq_of_beq_eq_true c1] at h1
        exact ezHc HG hn.1 (ezsh21 (h := (eziv F x).2) (by omega) hx.2 c4 (by omega) (by omega) (by omega))
  | .num _, _ => HG
  | .natCast _, _ => HG
  | .intCast _, _ => HG
  | .var _, _ => HG
  | .neg _, _ => HG
  | .add _ _, _ => HG
  | .sub _ _, _ => HG
  | .mul _ _, _ => HG
  | .pow (.num _) _, _ => HG
  | .pow (.natCast _) _, _ => HG
  | .pow (.intCast _) _, _ => HG
  | .pow (.var _) _, _ => HG
  | .pow (.neg _) _, _ => HG
  | .pow (.sub _ _) _, _ => HG
  | .pow (.mul _ _) _, _ => HG
  | .pow (.pow _ _) _, _ => HG
theorem ezHpt {r : ezR} {F : xF} {e : xjE} {lo hi : Int} (H : ezH Q r F) (h1 : lo ≤ ezden r e) (h2 : ezden r e ≤ hi) : ezH Q r (ezput F e lo hi) := by
  have e0 : ezls r (([], 0) : xLf) = 0 := rfl
  have e1 : ezls r (xlnf 1 e ([], 0)) = ezden r e := by rw [ezlnf_s, e0]; omega
  have e2 : ezls1 r (xlnf 1 e ([], 0)).1 + (xlnf 1 e ([], 0)).2 = ezden r e := e1
  have e3 := ezfz_s (r := r) (xlnf 1 e ([], 0)).1
  have e4 : ezls1 r ([] : List (xjE × Int)) = 0 := rfl
  unfold ezput
  split
  · rename_i x y l el
    rw [el] at e3
    exact ezHc (ezder1_s H _ _ H (by rw [e3, e4]; omega) (by rw [e3, e4]; omega)) h1 h2
  · rename_i x el
    rw [el] at e3
    cases xeq x.1 e with
    | true => exact ezshr_s H (ezHc H h1 h2) e h1
    | false => exact ezHc (ezder1_s H _ _ H (by rw [e3, e4]; omega) (by rw [e3, e4]; omega)) h1 h2
  · exact ezshr_s H (ezHc H h1 h2) e h1
/-- a fact that is put where it isn't known yet -/
def ezpt (F : xF) (e : xjE) (lo hi : Int) (k : xF → Bool) : Bool := bif xle lo (eziv F e).1 && xle (eziv F e).2 hi then k F else k (ezput F e lo hi)
theorem ezpt_s {r : ezR} {F : xF} (H : ezH Q r F) {e : xjE} {lo hi : Int} {k : xF → Bool} (h : ezpt F e lo hi k = true) (h1 : lo ≤ ezden r e) (h2 : ezden r e ≤ hi) : ∃ F2, ezH Q r F2 ∧ k F2 = true := by
  unfold ezpt at h
  cases c : xle lo (eziv F e).1 && xle (eziv F e).2 hi with
  | true => rw [c] at h; exact ⟨F, H, h⟩
  | false => rw [c] at h; exact ⟨_, ezHpt H h1 h2, h⟩
/-- facts that don't go together -/
def ezctra0 (F : xF) : Bool := F.any (fun q => match q.1 with
  | .var i => xle ((eziv F (.var i)).2 + 1) q.2.1 || xle (q.2.2 + 1) (eziv F (.var i)).1
  | e => xle ((ezlv1 F (xlnf 1 e ([], 0)).1).2 + (xlnf 1 e ([], 0)).2 + 1) q.2.1 || xle (q.2.2 + 1) ((ezlv1 F (xlnf 1 e ([], 0)).1).1 + (xlnf 1 e ([], 0)).2))
theorem ezctra0_s {r : ezR} {F : xF} (H : ezH Q r F) : ezctra0 F = false := by
  cases h : ezctra0 F with
  | false => rfl
  | true =>
    unfold ezctra0 at h
    obtain ⟨q, hq, h1⟩ := List.any_eq_true.mp h
    have hb := H.2 q hq
    split at h1
    · rename_i i e
      rw [e] at hb
      have := eziv_s H (.var i)
      rw [Bool.or_eq_true, xle_iff, xle_iff] at h1
      omega
    · have := ezlv1_s H (xlnf 1 q.1 ([], 0)).1
      have e0 : ezls r (([], 0) : xLf) = 0 := rfl
      have e1 : ezls r (xlnf 1 q.1 ([], 0)) = ezden r q.1 := by rw [ezlnf_s, e0]; omega
      have e2 : ezls1 r (xlnf 1 q.1 ([], 0)).1 + (xlnf 1 q.1 ([], 0)).2 = ezden r q.1 := e1
      rw [Bool.or_eq_true, xle_iff, xle_iff] at h1
      omega
/-- the newest fact against the others too -/
def ezctra (F : xF) : Bool := (F.any fun q => xle (q.2.2 + 1) q.2.1) || (ezctra0 F || (match F with
  | q :: _ => ezblo F q.1 (q.2.2 + 1) || ezbhi F q.1 (q.2.1 - 1)
  | [] => false))
theorem ezctra_s {r : ezR} {F : xF} (H : ezH Q r F) : ezctra F = false := by
  unfold ezctra
  rw [ezctra0_s H, Bool.false_or, show (F.any fun q => xle (q.2.2 + 1) q.2.1) = false from by
    cases h : F.any fun q => xle (q.2.2 + 1) q.2.1 with
    | false => rfl
    | true =>
      obtain ⟨q, hq, h1⟩ := List.any_eq_true.mp h
      rw [xle_iff] at h1
      have := H.2 q hq
      omega, Bool.false_or]
  split
  · rename_i q F2
    have hq := H.2 q List.mem_cons_self
    cases h1 : ezblo (q :: F2) q.1 (q.2.2 + 1) with
    | true => have := ezblo_s H h1; omega
    | false =>
      cases h2 : ezbhi (q :: F2) q.1 (q.2.1 - 1) with
      | true => have := ezbhi_s H h2; omega
      | false => rfl
  · rfl
/-- a term of which one value alone is left is that number -/
def ezcon (F : xF) (e : xjE) : xjE := match e with
  | .num v => .num v
  | e => bif decide ((eziv F e).1 = (eziv F e).2) then .num (eziv F e).1 else e
theorem ezcon_s {r : ezR} {F : xF} (H : ezH Q r F) (e : xjE) : ezden r (ezcon F e) = ezden r e := by
  unfold ezcon
  split
  · rfl
  · cases h : decide ((eziv F e).1 = (eziv F e).2) with
    | true =>
      have h1 := of_decide_eq_true h
      have h2 := eziv_s H e
      show (eziv F e).1 = ezden r e
      omega
    | false => rfl
theorem ezlinc_s (r : ezR) (a : xjE) (k : Int) : ezden r (xlinc a k) = ezden r a + k := by
  unfold xlinc
  split
  · rfl
  · rename_i a2 x
    show ezden r (bif decide (x + k = 0) then a2 else .add a2 (.num (x + k))) = ezden r a2 + x + k
    cases h : decide (x + k = 0) with
    | true =>
      have := of_decide_eq_true h
      show ezden r a2 = _
      omega
    | false => show ezden r a2 + (x + k) = _; omega
  · cases h : decide (k = 0) with
    | true =>
      have := of_decide_eq_true h
      show ezden r a = _
      omega
    | false => rfl
theorem ezlin_s (r : ezR) (a b : xjE) : ezden r (xlin a b) = ezden r a + ezden r b := by
  unfold xlin
  split
  · exact ezlinc_s r a _
  · split
    · rw [ezlinc_s]; show _ = _ + ezden r b; rw [Int.add_comm]; rfl
    · rfl
def ezin32 (F : xF) (a : xjE) : Bool := xr32 (eziv F a)
theorem ezin32_s {r : ezR} {F : xF} {a : xjE} (h : ezH Q r F) (h1 : ezin32 F a = true) : y32 (ezden r a) = ezden r a := by rw [← xw_s]; exact xr32_s h1 (eziv_s h a)
def ezadd (F : xF) (a b : xjE) : xjE := match a, b with
  | .num x, .num y => .num (xw (x + y))
  | a, b => bif xr32 ((eziv F a).1 + (eziv F b).1, (eziv F a).2 + (eziv F b).2) then xlin a b else .pow (.add a b) 0
theorem ezadd_s {r : ezR} {F : xF} (h : ezH Q r F) (a b : xjE) : ezden r (ezadd F a b) = y32 (ezden r a + ezden r b) := by
  rw [← xw_s]
  unfold ezadd
  split
  · rfl
  · cases h1 : xr32 ((eziv F a).1 + (eziv F b).1, (eziv F a).2 + (eziv F b).2) with
    | true =>
      have p := eziv_s h a
      have q := eziv_s h b
      rw [xr32_s h1 (show (eziv F a).1 + (eziv F b).1 ≤ ezden r a + ezden r b ∧ ezden r a + ezden r b ≤ (eziv F a).2 + (eziv F b).2 by omega)]
      exact ezlin_s r a b
    | false => rfl
def ezsub (F : xF) (a b : xjE) : xjE := match a, b with
  | .num x, .num y => .num (xw (x - y))
  | a, b => bif xr32 ((eziv F a).1 - (eziv F b).2, (eziv F a).2 - (eziv F b).1) then (match b with
    | .num y => xlinc a (-y)
    | b => bif xeq a b then .num 0 else .sub a b) else .pow (.add a b) 1
theorem ezsub_s {r : ezR} {F : xF} (h : ezH Q r F) (a b : xjE) : ezden r (ezsub F a b) = y32 (ezden r a - ezden r b) := by
  rw [← xw_s]
  unfold ezsub
  split
  · rfl
  · cases h1 : xr32 ((eziv F a).1 - (eziv F b).2, (eziv F a).2 - (eziv F b).1) with
    | true =>
      have p := eziv_s h a
      have q := eziv_s h b
      rw [xr32_s h1 (show (eziv F a).1 - (eziv F b).2 ≤ ezden r a - ezden r b ∧ ezden r a - ezden r b ≤ (eziv F a).2 - (eziv F b).1 by omega)]
      simp only [cond_true]
      split
      · rw [ezlinc_s]; rfl
      · cases h2 : xeq a b with
        | true =>
          rw [xeq_s h2]
          show (0 : Int) = _
          omega
        | false => rfl
    | false => rfl
def ezmul (F : xF) (a b : xjE) : xjE := match a, b with
  | .num x, .num y => .num (xw (x * y))
  | a, b => bif xr32 (xmuli (eziv F a) (eziv F b)) then .mul a b else .pow (.add a b) 2
theorem ezmul_s {r : ezR} {F : xF} (h : ezH Q r F) (a b : xjE) : ezden r (ezmul F a b) = y32 (ezden r a * ezden r b) := by
  rw [← xw_s]
  unfold ezmul
  split
  · rfl
  · cases h1 : xr32 (xmuli (eziv F a) (eziv F b)) with
    | true =>
      rw [xr32_s h1 (xmuli_s (eziv_s h a) (eziv_s h b))]
      rfl
    | false => rfl
theorem ezbin_s (r : ezR) (k : Nat) (a b : xjE) : ezden r (xbin k a b) = xop k (ezden r a) (ezden r b) := by
  unfold xbin
  split <;> rfl
theorem ezun_s (r : ezR) (k : Nat) (a : xjE) : ezden r (xun k a) = xop1 k (ezden r a) := by
  unfold xun
  split <;> rfl
/-- longs together, exactly where they fit -/
def ezladd (F : xF) (a b : xjE) : xjE := match a, b with
  | .num x, .num y => .num (xop 36 x y)
  | a, b => bif xr64 ((eziv F a).1 + (eziv F b).1, (eziv F a).2 + (eziv F b).2) then xlin a b else .pow (.add a b) 36
theorem ezladd_s {r : ezR} {F : xF} (h : ezH Q r F) (a b : xjE) : ezden r (ezladd F a b) = ycJ 4 (ezden r a) (ezden r b) := by
  unfold ezladd
  split
  · rfl
  · cases h1 : xr64 ((eziv F a).1 + (eziv F b).1, (eziv F a).2 + (eziv F b).2) with
    | true =>
      unfold xr64 at h1
      rw [Bool.and_eq_true, xle_iff, xle_iff] at h1
      have h1 : -9223372036854775808 ≤ (eziv F a).1 + (eziv F b).1 ∧ (eziv F a).2 + (eziv F b).2 ≤ 9223372036854775807 := h1
      have p := eziv_s h a
      have q := eziv_s h b
      have e : ycJ 4 (ezden r a) (ezden r b) = y64 (ezden r a + ezden r b) := by
        show (Int64.ofInt (ezden r a) + Int64.ofInt (ezden r b)).toInt = (Int64.ofInt (ezden r a + ezden r b)).toInt
        rw [Int64.ofInt_add]
      rw [e, y64_id (by omega) (by omega)]
      exact ezlin_s r a b
    | false => rfl
def ezlsub (F : xF) (a b : xjE) : xjE := match a, b with
  | .num x, .num y => .num (xop 37 x y)
  | a, b => bif xr64 ((eziv F a).1 - (eziv F b).2, (eziv F a).2 - (eziv F b).1) then .sub a b else .pow (.add a b) 37
theorem ezlsub_s {r : ezR} {F : xF} (h : ezH Q r F) (a b : xjE) : ezden r (ezlsub F a b) = ycJ 5 (ezden r a) (ezden r b) := by
  unfold ezlsub
  split
  · rfl
  · cases h1 : xr64 ((eziv F a).1 - (eziv F b).2, (eziv F a).2 - (eziv F b).1) with
    | true =>
      unfold xr64 at h1
      rw [Bool.and_eq_true, xle_iff, xle_iff] at h1
      have h1 : -9223372036854775808 ≤ (eziv F a).1 - (eziv F b).2 ∧ (eziv F a).2 - (eziv F b).1 ≤ 9223372036854775807 := h1
      have p := eziv_s h a
      have q := eziv_s h b
      have e : ycJ 5 (ezden r a) (ezden r b) = y64 (ezden r a - ezden r b) := by
        show (Int64.ofInt (ezden r a) - Int64.ofInt (ezden r b)).toInt = (Int64.ofInt (ezden r a - ezden r b)).toInt
        rw [Int64.ofInt_sub]
      rw [e, y64_id (by omega) (by omega)]
      rfl
    | false => rfl
/-- to the left by a number, and put together, where nothing gets lost -/
def ezshl (F : xF) (a b : xjE) : xjE := match b with
  | .num c => bif (!(eznm a) && (xle 1 c && xle c 30)) && (xle 0 (eziv F a).1 && xle ((eziv F a).2 * ezp2 c) 2147483647) then .mul (.num (ezp2 c)) a else xbin 20 a (.num c)
  | b => xbin 20 a b
theorem ezshl_s {r : ezR} {F : xF} (h : ezH Q r F) (a b : xjE) : ezden r (ezshl F a b) = xop 20 (ezden r a) (ezden r b) := by
  unfold ezshl
  split
  · rename_i c
    cases q : (!(eznm a) && (xle 1 c && xle c 30)) && (xle 0 (eziv F a).1 && xle ((eziv F a).2 * ezp2 c) 2147483647) with
    | false => exact ezbin_s r 20 a (.num c)
    | true =>
      simp only [Bool.and_eq_true, xle_iff] at q
      obtain ⟨⟨-, c1, c2⟩, c3, c4⟩ := q
      have ha := eziv_s h a
      have p := (ezp2_s (Int.le_refl c)).2
      have m1 : ezden r a * ezp2 c ≤ (eziv F a).2 * ezp2 c := Int.mul_le_mul_of_nonneg_right ha.2 (by omega)
      have m3 : ezden r a * 1 ≤ ezden r a * ezp2 c := Int.mul_le_mul_of_nonneg_left (by omega) (by omega)
      have e1 : (((ezden r a).toNat * 2 ^ c.toNat : Nat) : Int) = ezden r a * ezp2 c := by
        unfold ezp2
        rw [Int.natCast_mul, Int.toNat_of_nonneg (by omega)]
      have e2 : ycI 4 (ezden r a) c = (((ezden r a).toNat * 2 ^ c.toNat : Nat) : Int) := by
        show (Int32.ofInt (ezden r a) <<< (Int32.ofInt c &&& 31)).toInt = _
        have hs : ((Int32.ofInt c &&& 31).toBitVec.smod 32).toNat = c.toNat := by
          have := ezs31 (k := c.toNat) (by omega)
          rw [Int.toNat_of_nonneg (by omega)] at this
          exact this
        rw [xofn (v := ezden r a) (by omega) (by omega), pk_shlN (Int32.ofInt c &&& 31) c.toNat hs (by omega)]
        exact nI_toInt (by omega)
      show ezp2 c * ezden r a = ycI 4 (ezden r a) c
      rw [e2, e1, Int.mul_comm]
  · exact ezbin_s r 20 a b
def ezior (F : xF) (a b : xjE) : xjE := bif xeq b (.num 0) && xr32 (eziv F a) then a else bif xeq a (.num 0) && xr32 (eziv F b) then b else match a with
  | .mul (.num m) x => bif ((xle 2 m && xle m 1073741824) && decide (m = ezp2 ((Nat.log2 m.toNat : Nat) : Int))) && (xle 0 (eziv F x).1 && (xle 0 (eziv F b).1 && (xle (eziv F b).2 (m - 1) && xle (m * (eziv F x).2 + (eziv F b).2) 2147483647))) then xlin (.mul (.num m) x) b else xbin 18 (.mul (.num m) x) b
  | a => xbin 18 a b
theorem ezor0 {x : Int} (h : xr32 (x, x) = true) : xop 18 x 0 = x ∧ xop 18 0 x = x := by
  unfold xr32 at h
  rw [Bool.and_eq_true, xle_iff, xle_iff] at h
  have ex : (Int32.ofInt x).toInt = x := y32_id h.1 h.2
  constructor
  · show (Int32.ofInt x ||| Int32.ofInt 0).toInt = x
    rw [show Int32.ofInt 0 = 0 from rfl, Int32.or_zero, ex]
  · show (Int32.ofInt 0 ||| Int32.ofInt x).toInt = x
    rw [show Int32.ofInt 0 = 0 from rfl, Int32.zero_or, ex]
theorem ezr32 {r : ezR} {F : xF} (h : ezH Q r F) {a : xjE} (c : xr32 (eziv F a) = true) : xr32 (ezden r a, ezden r a) = true := by
  have := eziv_s h a
  unfold xr32 at c ⊢
  rw [Bool.and_eq_true, xle_iff, xle_iff] at c ⊢
  exact ⟨by show _ ≤ ezden r a; omega, by show ezden r a ≤ _; omega⟩
theorem ezior_s {r : ezR} {F : xF} (h : ezH Q r F) (a b : xjE) : ezden r (ezior F a b) = xop 18 (ezden r a) (ezden r b) := by
  unfold ezior
  cases q1 : xeq b (.num 0) && xr32 (eziv F a) with
  | true =>
    rw [Bool.and_eq_true] at q1
    rw [xeq_s q1.1]
    exact (ezor0 (ezr32 h q1.2)).1.symm
  | false =>
    simp only [cond_false]
    cases q2 : xeq a (.num 0) && xr32 (eziv F b) with
    | true =>
      rw [Bool.and_eq_true] at q2
      rw [xeq_s q2.1]
      exact (ezor0 (ezr32 h q2.2)).2.symm
    | false =>
      simp only [cond_false]
      split
      · rename_i m x
        cases q : ((xle 2 m && xle m 1073741824) && decide (m = ezp2 ((Nat.log2 m.toNat : Nat) : Int))) && (xle 0 (eziv F x).1 && (xle 0 (eziv F b).1 && (xle (eziv F b).2 (m - 1) && xle (m * (eziv F x).2 + (eziv F b).2) 2147483647))) with
        | false =>
          show ezden r (xbin 18 (.mul (.num m) x) b) = _
          exact ezbin_s r 18 _ b
        | true =>
          simp only [Bool.and_eq_true, xle_iff, decide_eq_true_iff] at q
          obtain ⟨⟨⟨c1, c2⟩, c3⟩, c4, c5, c6, c7⟩ := q
          have hx := eziv_s h x
          have hb := eziv_s h b
          have m1 : m * ezden r x ≤ m * (eziv F x).2 := Int.mul_le_mul_of_nonneg_left hx.2 (by omega)
          have m2 : 0 ≤ m * ezden r x := Int.mul_nonneg (by omega) (by omega)
          simp only [cond_true]
          rw [ezlin_s]
          show m * ezden r x + ezden r b = ycI 2 (m * ezden r x) (ezden r b)
          have hX := ezI32 (x := m * ezden r x) (by omega) (by omega)
          have hY := ezI32 (x := ezden r b) (by omega) (by omega)
          have eb : (Int32.ofInt (m * ezden r x) ||| Int32.ofInt (ezden r b)).toBitVec.toNat = (m * ezden r x).toNat ||| (ezden r b).toNat := by
            show ((Int32.ofInt (m * ezden r x)).toBitVec ||| (Int32.ofInt (ezden r b)).toBitVec).toNat = _
            rw [BitVec.toNat_or, hX, hY]
          have en : (m * ezden r x).toNat = (ezden r x).toNat <<< (Nat.log2 m.toNat) := by
            rw [Nat.shiftLeft_eq]
            have z : ((m * ezden r x).toNat : Int) = (((ezden r x).toNat * 2 ^ (Nat.log2 m.toNat) : Nat) : Int) := by
              rw [Int.toNat_of_nonneg m2, Int.natCast_mul, Int.toNat_of_nonneg (by omega)]
              have c3 : m = ((2 ^ (((Nat.log2 m.toNat : Nat) : Int).toNat) : Nat) : Int) := c3
              rw [Int.toNat_natCast] at c3
              rw [← c3, Int.mul_comm]
            exact Int.ofNat.inj z
          have hlt : (ezden r b).toNat < 2 ^ (Nat.log2 m.toNat) := by
            have c3 : m = ((2 ^ (((Nat.log2 m.toNat : Nat) : Int).toNat) : Nat) : Int) := c3
            rw [Int.toNat_natCast] at c3
            omega
          have es : (m * ezden r x).toNat ||| (ezden r b).toNat = (m * ezden r x).toNat + (ezden r b).toNat := by
            rw [en]
            exact (Nat.shiftLeft_add_eq_or_of_lt hlt _).symm
          have et : ycI 2 (m * ezden r x) (ezden r b) = (Int32.ofInt (m * ezden r x) ||| Int32.ofInt (ezden r b)).toBitVec.toInt := rfl
          rw [et, BitVec.toInt_eq_toNat_cond, eb, es, if_pos (by omega)]
          omega
      · exact ezbin_s r 18 _ b
/-- the greater, the smaller -/
def ezmaxs (F : xF) (a b : xjE) : xjE := bif xle (eziv F a).2 (eziv F b).1 then b else bif xle (eziv F b).2 (eziv F a).1 then a else xbin 80 a b
theorem ezmaxs_s {r : ezR} {F : xF} (h : ezH Q r F) (a b : xjE) : ezden r (ezmaxs F a b) = xop 80 (ezden r a) (ezden r b) := by
  have p := eziv_s h a
  have q := eziv_s h b
  have e : xop 80 (ezden r a) (ezden r b) = bif xle (ezden r a) (ezden r b) then ezden r b else ezden r a := rfl
  unfold ezmaxs
  cases h1 : xle (eziv F a).2 (eziv F b).1 with
  | true =>
    rw [xle_iff] at h1
    have h3 : xle (ezden r a) (ezden r b) = true := xle_iff.mpr (by omega)
    rw [e, h3]; rfl
  | false =>
    simp only [cond_false]
    cases h2 : xle (eziv F b).2 (eziv F a).1 with
    | true =>
      rw [xle_iff] at h2
      rw [e]
      cases h3 : xle (ezden r a) (ezden r b) with
      | true => rw [xle_iff] at h3; show ezden r a = ezden r b; omega
      | false => rfl
    | false => exact ezbin_s r 80 a b
def ezmins (F : xF) (a b : xjE) : xjE := bif xle (eziv F a).2 (eziv F b).1 then a else bif xle (eziv F b).2 (eziv F a).1 then b else xbin 96 a b
theorem ezmins_s {r : ezR} {F : xF} (h : ezH Q r F) (a b : xjE) : ezden r (ezmins F a b) = xop 96 (ezden r a) (ezden r b) := by
  have p := eziv_s h a
  have q := eziv_s h b
  have e : xop 96 (ezden r a) (ezden r b) = bif xle (ezden r a) (ezden r b) then ezden r a else ezden r b := rfl
  unfold ezmins
  cases h1 : xle (eziv F a).2 (eziv F b).1 with
  | true =>
    rw [xle_iff] at h1
    have h3 : xle (ezden r a) (ezden r b) = true := xle_iff.mpr (by omega)
    rw [e, h3]; rfl
  | false =>
    simp only [cond_false]
    cases h2 : xle (eziv F b).2 (eziv F a).1 with
    | true =>
      rw [xle_iff] at h2
      rw [e]
      cases h3 : xle (ezden r a) (ezden r b) with
      | true => rw [xle_iff] at h3; show ezden r b = ezden r a; omega
      | false => rfl
    | false => exact ezbin_s r 96 a b
/-- a term brought to 32 bits, if it isn't there -/
def ezto32 (F : xF) (a : xjE) : xjE := bif ezin32 F a then a else xun 1 a
theorem ezto32_s {r : ezR} {F : xF} (h : ezH Q r F) (a : xjE) : ezden r (ezto32 F a) = y32 (ezden r a) := by
  unfold ezto32
  cases h1 : ezin32 F a with
  | true => exact (ezin32_s h h1).symm
  | false => show ezden r (xun 1 a) = _; rw [ezun_s]; exact xw_s _
/-- ends of a test: is it below c -/
def ezlt (F : xF) (e : xjE) (c : Int) : List (Bool × xF) :=
  bif xle (eziv F e).2 (c - 1) then [(true, F)] else bif xle c (eziv F e).1 then [(false, F)] else [(true, ezput F e (eziv F e).1 (c - 1)), (false, ezput F e c (eziv F e).2)]
theorem ezlt_s {r : ezR} {F : xF} (h : ezH Q r F) (e : xjE) (c : Int) : ∃ q ∈ ezlt F e c, ezH Q r q.2 ∧ (q.1 = true ↔ ezden r e < c) := by
  have h2 := eziv_s h e
  unfold ezlt
  cases h3 : xle (eziv F e).2 (c - 1) with
  | true =>
    rw [xle_iff] at h3
    exact ⟨_, List.mem_singleton.mpr rfl, h, ⟨fun _ => by omega, fun _ => rfl⟩⟩
  | false =>
    cases h4 : xle c (eziv F e).1 with
    | true =>
      rw [xle_iff] at h4
      exact ⟨_, List.mem_singleton.mpr rfl, h, ⟨fun z => absurd z (by simp), fun _ => by omega⟩⟩
    | false =>
      by_cases h5 : ezden r e < c
      · exact ⟨_, List.mem_cons_self, ezHpt h h2.1 (by omega), ⟨fun _ => h5, fun _ => rfl⟩⟩
      · exact ⟨_, List.mem_cons_of_mem _ (List.mem_singleton.mpr rfl), ezHpt h (by omega) h2.2, ⟨fun z => absurd z (by simp), fun z => absurd z h5⟩⟩
/-- ends of a test: is it c -/
def ezis (F : xF) (e : xjE) (c : Int) : List (Bool × xF) :=
  bif xle (eziv F e).2 (c - 1) || xle (c + 1) (eziv F e).1 then [(false, F)] else bif xle (eziv F e).2 c && xle c (eziv F e).1 then [(true, F)] else
    (true, ezput F e c c) :: ((bif xle (eziv F e).2 c then [] else [(false, ezput F e (c + 1) (eziv F e).2)]) ++ (bif xle c (eziv F e).1 then [] else [(false, ezput F e (eziv F e).1 (c - 1))]))
theorem ezis_s {r : ezR} {F : xF} (h : ezH Q r F) (e : xjE) (c : Int) : ∃ q ∈ ezis F e c, ezH Q r q.2 ∧ (q.1 = true ↔ ezden r e = c) := by
  have h2 := eziv_s h e
  unfold ezis
  cases h3 : xle (eziv F e).2 (c - 1) || xle (c + 1) (eziv F e).1 with
  | true =>
    rw [Bool.or_eq_true, xle_iff, xle_iff] at h3
    exact ⟨_, List.mem_singleton.mpr rfl, h, ⟨fun z => absurd z (by simp), fun _ => by omega⟩⟩
  | false =>
    cases h4 : xle (eziv F e).2 c && xle c (eziv F e).1 with
    | true =>
      rw [Bool.and_eq_true, xle_iff, xle_iff] at h4
      exact ⟨_, List.mem_singleton.mpr rfl, h, ⟨fun _ => by omega, fun _ => rfl⟩⟩
    | false =>
      simp only [cond_false]
      by_cases h5 : ezden r e = c
      · exact ⟨_, List.mem_cons_self, ezHpt h (by omega) (by omega), ⟨fun _ => h5, fun _ => rfl⟩⟩
      · by_cases h6 : c < ezden r e
        · have h7 : xle (eziv F e).2 c = false := by
            cases h8 : xle (eziv F e).2 c with
            | false => rfl
            | true => rw [xle_iff] at h8; omega
          rw [h7]
          exact ⟨_, List.mem_cons_of_mem _ (List.mem_append_left _ (List.mem_singleton.mpr rfl)), ezHpt h (by omega) h2.2, ⟨fun z => absurd z (by simp), fun z => absurd z h5⟩⟩
        · have h7 : xle c (eziv F e).1 = false := by
            cases h8 : xle c (eziv F e).1 with
            | false => rfl
            | true => rw [xle_iff] at h8; omega
          rw [h7]
          exact ⟨_, List.mem_cons_of_mem _ (List.mem_append_right _ (List.mem_singleton.mpr rfl)), ezHpt h h2.1 (by omega), ⟨fun z => absurd z (by simp), fun z => absurd z h5⟩⟩
theorem eznot_s {r : ezR} {l : List (Bool × xF)} {P : Prop} (h : ∃ q ∈ l, ezH Q r q.2 ∧ (q.1 = true ↔ P)) : ∃ q ∈ xnot l, ezH Q r q.2 ∧ (q.1 = true ↔ ¬ P) := by
  obtain ⟨q, h1, h2, h3⟩ := h
  refine ⟨_, List.mem_map.mpr ⟨q, h1, rfl⟩, h2, ?_⟩
  show (!q.1) = true ↔ ¬ P
  rw [← h3]
  cases q.1 <;> simp
theorem ezcg {r : ezR} {l : List (Bool × xF)} {P P' : Prop} (h : ∃ q ∈ l, ezH Q r q.2 ∧ (q.1 = true ↔ P)) (hp : P ↔ P') : ∃ q ∈ l, ezH Q r q.2 ∧ (q.1 = true ↔ P') := by
  obtain ⟨q, h1, h2, h3⟩ := h
  exact ⟨q, h1, h2, h3.trans hp⟩
theorem ezpe_s (r : ezR) (e : xjE) (c : Int) : ezden r e - c = ezden r (xpe e c).1 - (xpe e c).2 := by
  unfold xpe
  split
  · rename_i a x
    show ezden r a + x - c = ezden r a - (c - x)
    omega
  · rfl
/-- ends of a comparison with a number -/
def eztn (F : xF) (c : ClassFile.Cond) (a : xjE) (k : Int) : List (Bool × xF) := match c with
  | .eq => ezis F (xpe a k).1 (xpe a k).2
  | .ne => xnot (ezis F (xpe a k).1 (xpe a k).2)
  | .lt => ezlt F (xpe a k).1 (xpe a k).2
  | .ge => xnot (ezlt F (xpe a k).1 (xpe a k).2)
  | .gt => xnot (ezlt F (xpe a k).1 ((xpe a k).2 + 1))
  | .le => ezlt F (xpe a k).1 ((xpe a k).2 + 1)
theorem eztn_s {r : ezR} {F : xF} (h : ezH Q r F) (c : ClassFile.Cond) (a : xjE) (k : Int) : ∃ q ∈ eztn F c a k, ezH Q r q.2 ∧ (q.1 = true ↔ yccd c (ezden r a) k = true) := by
  have e := ezpe_s r a k
  cases c with
  | eq => exact ezcg (ezis_s h _ _) (by show _ ↔ decide _ = true; rw [decide_eq_true_iff]; omega)
  | ne => exact ezcg (eznot_s (ezis_s h _ _)) (by show _ ↔ decide _ = true; rw [decide_eq_true_iff]; omega)
  | lt => exact ezcg (ezlt_s h _ _) (by show _ ↔ decide _ = true; rw [decide_eq_true_iff]; omega)
  | ge => exact ezcg (eznot_s (ezlt_s h _ _)) (by show _ ↔ decide _ = true; rw [decide_eq_true_iff]; omega)
  | gt => exact ezcg (eznot_s (ezlt_s h _ _)) (by show _ ↔ decide _ = true; rw [decide_eq_true_iff]; omega)
  | le => exact ezcg (ezlt_s h _ _) (by show _ ↔ decide _ = true; rw [decide_eq_true_iff]; omega)
def eztxy (F : xF) (c : ClassFile.Cond) (x y : xjE) (d : Int) : List (Bool × xF) := bif Nat.ble (xkey x) (xkey y) then eztn F c (.sub x y) (-d) else eztn F (xflip c) (.sub y x) d
theorem eztxy_s {r : ezR} {F : xF} (h : ezH Q r F) (c : ClassFile.Cond) (x y : xjE) (d u v : Int) (e : u - v = ezden r x - ezden r y + d) : ∃ q ∈ eztxy F c x y d, ezH Q r q.2 ∧ (q.1 = true ↔ yccd c u v = true) := by
  unfold eztxy
  cases Nat.ble (xkey x) (xkey y) with
  | true => exact ezcg (eztn_s h c _ _) (by
      show yccd c (ezden r x - ezden r y) (-d) = true ↔ _
      rw [xcds c (x := u) (y := v) (show (ezden r x - ezden r y) - (-d) = u - v by omega)])
  | false => exact ezcg (eztn_s h (xflip c) _ _) (by
      show yccd (xflip c) (ezden r y - ezden r x) d = true ↔ _
      rw [xflip_s, xcds c (x := u) (y := v) (show d - (ezden r y - ezden r x) = u - v by omega)])
def eztl (F : xF) (c : ClassFile.Cond) (a b : xjE) (l : List (xjE × Int)) (d : Int) : List (Bool × xF) := match l with
  | [] => eztn F c (.num d) 0
  | [q] => bif decide (q.2 = 1) then eztn F c q.1 (-d) else bif decide (q.2 = -1) then eztn F (xflip c) q.1 d else eztn F c (.sub a b) 0
  | [q, s] => bif decide (q.2 = 1) && decide (s.2 = -1) then eztxy F c q.1 s.1 d else bif decide (q.2 = -1) && decide (s.2 = 1) then eztxy F c s.1 q.1 d else eztn F c (.sub a b) 0
  | _ => eztn F c (.sub a b) 0
theorem eztl_s {r : ezR} {F : xF} (h : ezH Q r F) (c : ClassFile.Cond) (a b : xjE) (l : List (xjE × Int)) (d : Int) (e : ezden r a - ezden r b = ezls1 r l + d) : ∃ q ∈ eztl F c a b l d, ezH Q r q.2 ∧ (q.1 = true ↔ yccd c (ezden r a) (ezden r b) = true) := by
  have gen : ∃ q ∈ eztn F c (.sub a b) 0, ezH Q r q.2 ∧ (q.1 = true ↔ yccd c (ezden r a) (ezden r b) = true) := ezcg (eztn_s h c _ _) (by rw [← xcd0 c (ezden r a) (ezden r b)]; rfl)
  unfold eztl
  split
  · have e : ezden r a - ezden r b = 0 + d := e
    exact ezcg (eztn_s h c _ _) (by
      show yccd c d 0 = true ↔ _
      rw [xcds c (x := ezden r a) (y := ezden r b) (show d - 0 = _ by omega)])
  · rename_i q
    have e : ezden r a - ezden r b = q.2 * ezden r q.1 + 0 + d := e
    cases h1 : decide (q.2 = 1) with
    | true =>
      rw [of_decide_eq_true h1] at e
      exact ezcg (eztn_s h c _ _) (by rw [xcds c (x := ezden r a) (y := ezden r b) (show ezden r q.1 - (-d) = _ by omega)])
    | false =>
      simp only [cond_false]
      cases h2 : decide (q.2 = -1) with
      | true =>
        rw [of_decide_eq_true h2] at e
        exact ezcg (eztn_s h (xflip c) _ _) (by rw [xflip_s, xcds c (x := ezden r a) (y := ezden r b) (show d - ezden r q.1 = _ by omega)])
      | false => exact gen
  · rename_i q s
    have e : ezden r a - ezden r b = q.2 * ezden r q.1 + (s.2 * ezden r s.1 + 0) + d := e
    cases h1 : decide (q.2 = 1) && decide (s.2 = -1) with
    | true =>
      rw [Bool.and_eq_true] at h1
      rw [of_decide_eq_true h1.1, of_decide_eq_true h1.2] at e
      exact eztxy_s h c _ _ _ _ _ (by omega)
    | false =>
      simp only [cond_false]
      cases h2 : decide (q.2 = -1) && decide (s.2 = 1) with
      | true =>
        rw [Bool.and_eq_true] at h2
        rw [of_decide_eq_true h2.1, of_decide_eq_true h2.2] at e
        exact eztxy_s h c _ _ _ _ _ (by omega)
      | false => exact gen
  · exact gen
/-- ends of a comparison -/
def eztest (F : xF) (c : ClassFile.Cond) (a b : xjE) : List (Bool × xF) := match b with
  | .num k => eztn F c a k
  | b => (match a with
    | .num k => eztn F (xflip c) b k
    | a => eztl F c a b (xfz (xlnf 1 a (xlnf (-1) b ([], 0))).1) (xlnf 1 a (xlnf (-1) b ([], 0))).2)
theorem eztest_s {r : ezR} {F : xF} (h : ezH Q r F) (c : ClassFile.Cond) (a b : xjE) : ∃ q ∈ eztest F c a b, ezH Q r q.2 ∧ (q.1 = true ↔ yccd c (ezden r a) (ezden r b) = true) := by
  unfold eztest
  split
  · exact eztn_s h c _ _
  · split
    · exact ezcg (eztn_s h (xflip c) _ _) (by rw [xflip_s]; rfl)
    · refine eztl_s h c a b _ _ ?_
      rw [ezfz_s]
      have e0 : ezls r (([], 0) : xLf) = 0 := rfl
      have e1 : ezls r (xlnf 1 a (xlnf (-1) b ([], 0))) = ezden r a - ezden r b := by rw [ezlnf_s, ezlnf_s, e0]; omega
      exact e1.symm
/-- a rest or a quotient -/
def ezdm (F : xF) (k : Nat) (a b : xjE) : xjE := bif (Nat.beq k 24 && xr32 (eziv F b) || Nat.beq k 40 && xr64 (eziv F b)) && (xle 0 (eziv F a).1 && xle ((eziv F a).2 + 1) (eziv F b).1) then a else xbin k a b
theorem ezdm_s {r : ezR} {F : xF} (h : ezH Q r F) (k : Nat) (a b : xjE) : ezden r (ezdm F k a b) = xop k (ezden r a) (ezden r b) := by
  unfold ezdm
  cases h1 : (Nat.beq k 24 && xr32 (eziv F b) || Nat.beq k 40 && xr64 (eziv F b)) && (xle 0 (eziv F a).1 && xle ((eziv F a).2 + 1) (eziv F b).1) with
  | false => exact ezbin_s r k a b
  | true =>
    have p := eziv_s h a
    have q := eziv_s h b
    simp only [Bool.and_eq_true, Bool.or_eq_true, xle_iff] at h1
    obtain ⟨h2, h3, h4⟩ := h1
    show ezden r a = _
    rcases h2 with ⟨h2, h5⟩ | ⟨h2, h5⟩
    · have e := Nat.eq_of_beq_eq_true h2
      subst e
      unfold xr32 at h5
      rw [Bool.and_eq_true, xle_iff, xle_iff] at h5
      show _ = ycI 8 (ezden r a) (ezden r b)
      rw [ycI8 (by omega) (by omega) (by omega) (by omega), Nat.mod_eq_of_lt (by omega)]
      omega
    · have e := Nat.eq_of_beq_eq_true h2
      subst e
      unfold xr64 at h5
      rw [Bool.and_eq_true, xle_iff, xle_iff] at h5
      show _ = ycJ 8 (ezden r a) (ezden r b)
      rw [ycJ8 (by omega) (by omega) (by omega) (by omega), Nat.mod_eq_of_lt (by omega)]
      omega
/-- the values of a term, one by one, if they are few -/
def ezenum (F : xF) (e : xjE) (k : xF → Int → Bool) : Bool := match e with
  | .num v => k F v
  | e => xle ((eziv F e).2 - (eziv F e).1) 600 && (List.range ((eziv F e).2 - (eziv F e).1 + 1).toNat).all fun j => ezctra ((e, (eziv F e).1 + j, (eziv F e).1 + j) :: F) || k ((e, (eziv F e).1 + j, (eziv F e).1 + j) :: F) ((eziv F e).1 + j)
theorem ezenum_s {r : ezR} {F : xF} (h : ezH Q r F) {e : xjE} {k : xF → Int → Bool} (hk : ezenum F e k = true) : ∃ F2, ezH Q r F2 ∧ k F2 (ezden r e) = true := by
  unfold ezenum at hk
  split at hk
  · exact ⟨F, h, hk⟩
  · rw [Bool.and_eq_true] at hk
    have h2 := eziv_s h e
    have h3 := List.all_eq_true.mp hk.2 (ezden r e - (eziv F e).1).toNat (List.mem_range.mpr (by omega))
    have e1 : (eziv F e).1 + (((ezden r e - (eziv F e).1).toNat : Nat) : Int) = ezden r e := by omega
    rw [e1] at h3
    have h5 := ezHc h (Int.le_refl (ezden r e)) (Int.le_refl _)
    rw [ezctra_s h5] at h3
    exact ⟨_, h5, h3⟩
end EZ2
