noncomputable section YT6F
/-! SYMBOLIC RUNS: the same steps for numbers, by the shortest way -/
variable {T : ycT} {r : Nat → Int} {F : xF}
theorem zb {c a b : Bool} (h : Bool.rec (motive := fun _ => Bool) b a c = true) : (c = true ∧ a = true) ∨ (c = false ∧ b = true) := by
  cases c
  · exact Or.inr ⟨rfl, h⟩
  · exact Or.inl ⟨rfl, h⟩
theorem zbf {c a : Bool} (h : Bool.rec (motive := fun _ => Bool) false a c = true) : c = true ∧ a = true := by
  cases c
  · cases h
  · exact ⟨rfl, h⟩
def zL (st : List xV) (k : Nat → xjE → List xV → Bool) : Bool := List.rec (motive := fun _ => Bool) false (fun v t _ => Prod.rec (motive := fun _ => Bool) (fun n e => k n e t) v) st
theorem zL_i {st : List xV} {k : Nat → xjE → List xV → Bool} (h : zL st k = true) : ∃ n e t, st = (n, e) :: t ∧ k n e t = true := by
  cases st with
  | nil => cases h
  | cons v t => exact ⟨v.1, v.2, t, rfl, h⟩
def zN (e : xjE) (d : Bool) (k : Int → Bool) : Bool := Lean.Grind.CommRing.Expr.casesOn (motive := fun _ => Bool) e (num := fun v => k v) (natCast := fun _ => d) (intCast := fun _ => d) (var := fun _ => d) (neg := fun _ => d) (add := fun _ _ => d) (sub := fun _ _ => d) (mul := fun _ _ => d) (pow := fun _ _ => d)
theorem zN_i {e : xjE} {d : Bool} {k : Int → Bool} (h : zN e d k = true) : (∃ v, e = .num v ∧ k v = true) ∨ d = true := by
  cases e with
  | num v => exact Or.inl ⟨v, rfl, h⟩
  | natCast _ => exact Or.inr h
  | intCast _ => exact Or.inr h
  | var _ => exact Or.inr h
  | neg _ => exact Or.inr h
  | add _ _ => exact Or.inr h
  | sub _ _ => exact Or.inr h
  | mul _ _ => exact Or.inr h
  | pow _ _ => exact Or.inr h
def zI (v : Int) (d : Bool) (k : Nat → Bool) : Bool := Int.casesOn (motive := fun _ => Bool) v (fun n => xfn n k) (fun _ => d)
theorem zI_i {v : Int} {d : Bool} {k : Nat → Bool} (h : zI v d k = true) : (∃ n : Nat, v = Int.ofNat n ∧ k n = true) ∨ d = true := by
  cases v with
  | ofNat n => exact Or.inl ⟨n, rfl, by rw [← xfn_s n k]; exact h⟩
  | negSucc n => exact Or.inr h
def zG (lv : List (Nat × xV)) (i : Nat) (k : Nat → xjE → Bool) : Bool := List.rec (motive := fun _ => Bool) false (fun q _ ih => Prod.rec (motive := fun _ => Bool) (fun j v => (Bool.rec (motive := fun _ => Bool) (ih) (Prod.rec (motive := fun _ => Bool) (fun t e => k t e) v) (Nat.beq j i))) q) lv
theorem zG_i : ∀ {lv : List (Nat × xV)} {i : Nat} {k : Nat → xjE → Bool}, zG lv i k = true → ∃ t e, xlget lv i = some (t, e) ∧ k t e = true := by
  intro lv
  induction lv with
  | nil => intro i k h; cases h
  | cons q l ih =>
    intro i k h
    have e : xlget (q :: l) i = bif Nat.beq q.1 i then some q.2 else xlget l i := rfl
    rw [e]
    rcases zb (show Bool.rec (motive := fun _ => Bool) (zG l i k) (k q.2.1 q.2.2) (Nat.beq q.1 i) = true from h) with ⟨h1, h2⟩ | ⟨h1, h2⟩
    · rw [h1]; exact ⟨q.2.1, q.2.2, rfl, h2⟩
    · rw [h1]; exact ih h2
def zS (lv : List (Nat × xV)) (i : Nat) : (List (Nat × xV) → Bool) → Bool := List.rec (motive := fun _ => (List (Nat × xV) → Bool) → Bool) (fun k => k []) (fun q _ ih k => Prod.rec (motive := fun _ => Bool) (fun j v => (Bool.rec (motive := fun _ => Bool) ((Bool.rec (motive := fun _ => Bool) (ih (fun l => k (q :: l))) (Prod.rec (motive := fun _ => Bool) (fun t _ => (Bool.rec (motive := fun _ => Bool) (ih (fun l => k (q :: l))) (ih k) (Nat.beq t 1))) v) (Nat.beq (Nat.succ j) i))) (ih k) (Nat.beq j i))) q) lv
def zp (i : Nat) (q : Nat × xV) : Bool := !(Nat.beq q.1 i) && !(Nat.beq (q.1 + 1) i && Nat.beq q.2.1 1)
theorem zS_s (i : Nat) : ∀ (lv : List (Nat × xV)) (k : List (Nat × xV) → Bool), zS lv i k = k (lv.filter (zp i)) := by
  intro lv
  induction lv with
  | nil => intro k; rfl
  | cons q l ih =>
    intro k
    have e : zS (q :: l) i k = (Bool.rec (motive := fun _ => Bool) ((Bool.rec (motive := fun _ => Bool) (zS l i (fun l => k (q :: l))) ((Bool.rec (motive := fun _ => Bool) (zS l i (fun l => k (q :: l))) (zS l i k) (Nat.beq q.2.1 1))) (Nat.beq (Nat.succ q.1) i))) (zS l i k) (Nat.beq q.1 i)) := rfl
    rw [e, List.filter_cons]
    unfold zp
    have e2 : Nat.beq (Nat.succ q.1) i = Nat.beq (q.1 + 1) i := rfl
    rw [e2, ih, ih]
    cases Nat.beq q.1 i <;> cases Nat.beq (q.1 + 1) i <;> cases Nat.beq q.2.1 1 <;> rfl
theorem zS_1 {lv : List (Nat × xV)} {i : Nat} {v : xV} {k : List (Nat × xV) → Bool} (h : zS lv i (fun l => k ((i, v) :: l)) = true) : xst1 lv i v k = true := by
  unfold xst1
  rw [xfil_s]
  rw [zS_s] at h
  exact h
def zload0 (F : xF) (pc i : Nat) (lv : List (Nat × xV)) (st : List xV) (g : xHp) (k : xK) : Bool := zG lv i (fun t e => (Bool.rec (motive := fun _ => Bool) (false) (zN e (xload 0 F pc i lv st g k) (fun v => k F (pc, lv, (0, .num v) :: st) g)) (Nat.beq t 0)))
theorem zload0_i {pc i : Nat} {lv : List (Nat × xV)} {st : List xV} {g : xHp} {k : xK} (h : zload0 F pc i lv st g k = true) : xload 0 F pc i lv st g k = true := by
  obtain ⟨t, e, h1, h2⟩ := zG_i h
  obtain ⟨h3, h4⟩ := zbf h2
  have et := Nat.eq_of_beq_eq_true h3
  subst et
  rcases zN_i h4 with ⟨v, e1, h5⟩ | h5
  · subst e1
    unfold xload
    rw [h1]
    show (Nat.beq 0 0 && xfe (xcon F (.num v)) _) = true
    rw [xfe_s]
    exact h5
  · exact h5
def zload2 (F : xF) (pc i : Nat) (lv : List (Nat × xV)) (st : List xV) (g : xHp) (k : xK) : Bool := zG lv i (fun t e => (Bool.rec (motive := fun _ => Bool) ((Bool.rec (motive := fun _ => Bool) (false) (k F (pc, lv, (4, e) :: st) g) (Nat.beq t 4))) (k F (pc, lv, (2, e) :: st) g) (Nat.beq t 2)))
theorem zload2_i {pc i : Nat} {lv : List (Nat × xV)} {st : List xV} {g : xHp} {k : xK} (h : zload2 F pc i lv st g k = true) : xload 2 F pc i lv st g k = true := by
  obtain ⟨t, e, h1, h2⟩ := zG_i h
  unfold xload
  rw [h1]
  rcases zb h2 with ⟨h3, h4⟩ | ⟨_, h3⟩
  · have et := Nat.eq_of_beq_eq_true h3
    subst et
    exact h4
  · obtain ⟨h5, h6⟩ := zbf h3
    have et := Nat.eq_of_beq_eq_true h5
    subst et
    exact h6
def zstore0 (nL : Nat) (F : xF) (pc i : Nat) (lv : List (Nat × xV)) (st : List xV) (g : xHp) (k : xK) : Bool := zL st (fun t e s => (Bool.rec (motive := fun _ => Bool) (false) ((Bool.rec (motive := fun _ => Bool) (false) (zS lv i (fun l => k F (pc, (i, (0, e)) :: l, s) g)) (Nat.blt i nL))) (Nat.beq t 0)))
theorem zstore0_i {nL pc i : Nat} {lv : List (Nat × xV)} {st : List xV} {g : xHp} {k : xK} (h : zstore0 nL F pc i lv st g k = true) : xstore nL 0 F pc i lv st g k = true := by
  obtain ⟨t, e, s, h1, h2⟩ := zL_i h
  obtain ⟨h3, h4⟩ := zbf h2
  obtain ⟨h5, h6⟩ := zbf h4
  have et := Nat.eq_of_beq_eq_true h3
  subst et h1
  unfold xstore
  show ((Nat.beq 0 0 && Nat.blt i nL) && xst1 lv i (0, e) (fun l => k F (pc, l, s) g)) = true
  rw [h5, zS_1 h6]; rfl
def zstore2 (nL : Nat) (F : xF) (pc i : Nat) (lv : List (Nat × xV)) (st : List xV) (g : xHp) (k : xK) : Bool := zL st (fun t e s => (Bool.rec (motive := fun _ => Bool) ((Bool.rec (motive := fun _ => Bool) (false) ((Bool.rec (motive := fun _ => Bool) (false) (zS lv i (fun l => k F (pc, (i, (4, e)) :: l, s) g)) (Nat.blt i nL))) (Nat.beq t 4))) ((Bool.rec (motive := fun _ => Bool) (false) (zS lv i (fun l => k F (pc, (i, (2, e)) :: l, s) g)) (Nat.blt i nL))) (Nat.beq t 2)))
theorem zstore2_i {nL pc i : Nat} {lv : List (Nat × xV)} {st : List xV} {g : xHp} {k : xK} (h : zstore2 nL F pc i lv st g k = true) : xstore nL 2 F pc i lv st g k = true := by
  obtain ⟨t, e, s, h1, h2⟩ := zL_i h
  subst h1
  unfold xstore
  rcases zb h2 with ⟨h3, h4⟩ | ⟨_, h3⟩
  · obtain ⟨h5, h6⟩ := zbf h4
    have et := Nat.eq_of_beq_eq_true h3
    subst et
    show ((Nat.beq 2 2 && Nat.blt i nL) && xst1 lv i (2, e) (fun l => k F (pc, l, s) g)) = true
    rw [h5, zS_1 h6]; rfl
  · obtain ⟨h7, h4⟩ := zbf h3
    obtain ⟨h5, h6⟩ := zbf h4
    have et := Nat.eq_of_beq_eq_true h7
    subst et
    show ((Nat.beq 2 2 && Nat.blt i nL) && xst1 lv i (4, e) (fun l => k F (pc, l, s) g)) = true
    rw [h5, zS_1 h6]; rfl
theorem xwn {n : Nat} (h : Nat.ble n 2147483647 = true) : xw (Int.ofNat n) = Int.ofNat n := by
  have h := Nat.ble_eq.mp h
  rw [xw_s]
  exact y32_id (show (-2147483648 : Int) ≤ (n : Int) by omega) (show (n : Int) ≤ 2147483647 by omega)
def zinc (nL : Nat) (F : xF) (pc i : Nat) (c : Int) (lv : List (Nat × xV)) (st : List xV) (g : xHp) (k : xK) : Bool := zG lv i (fun t e => (Bool.rec (motive := fun _ => Bool) (false) ((Bool.rec (motive := fun _ => Bool) (false) (zN e (xinc nL F pc i c lv st g k) (fun v => zI (Int.add v c) (xinc nL F pc i c lv st g k) (fun m => (Bool.rec (motive := fun _ => Bool) (xinc nL F pc i c lv st g k) (zS lv i (fun l => k F (Nat.add pc 3, (i, (0, .num (Int.ofNat m))) :: l, st) g)) (Nat.ble m 2147483647))))) (Nat.blt i nL))) (Nat.beq t 0)))
theorem zinc_i {nL pc i : Nat} {c : Int} {lv : List (Nat × xV)} {st : List xV} {g : xHp} {k : xK} (h : zinc nL F pc i c lv st g k = true) : xinc nL F pc i c lv st g k = true := by
  obtain ⟨t, e, h1, h2⟩ := zG_i h
  obtain ⟨h3, h4⟩ := zbf h2
  obtain ⟨h5, h6⟩ := zbf h4
  have et := Nat.eq_of_beq_eq_true h3
  subst et
  rcases zN_i h6 with ⟨v, e1, h7⟩ | h7
  · subst e1
    rcases zI_i h7 with ⟨m, e2, h8⟩ | h8
    · rcases zb h8 with ⟨h9, h10⟩ | ⟨_, h9⟩
      · unfold xinc
        rw [h1]
        show (Nat.blt i nL && xfe (.num (xw (v + c))) (fun e => xst1 lv i (0, e) (fun l => k F (pc + 3, l, st) g))) = true
        have e3 : v + c = Int.ofNat m := e2
        rw [xfe_s, e3, xwn h9, h5, zS_1 h10]; rfl
      · exact h9
    · exact h8
  · exact h7
def zI2 (o : Int → Int → Int) (f : xF → xjE → xjE → xjE) (F : xF) (pc : Nat) (lv : List (Nat × xV)) (st : List xV) (g : xHp) (k : xK) : Bool := zL st (fun t b s => zL s (fun t2 a s2 => zN b (xI2 f F pc lv st g k) (fun y => zN a (xI2 f F pc lv st g k) (fun x => zI (o x y) (xI2 f F pc lv st g k) (fun m => (Bool.rec (motive := fun _ => Bool) (xI2 f F pc lv st g k) ((Bool.rec (motive := fun _ => Bool) (false) ((Bool.rec (motive := fun _ => Bool) (false) (k F (Nat.add pc 1, lv, (0, .num (Int.ofNat m)) :: s2) g) (Nat.beq t2 0))) (Nat.beq t 0))) (Nat.ble m 2147483647)))))))
theorem zI2_i {o : Int → Int → Int} {f : xF → xjE → xjE → xjE} (hf : ∀ F x y, f F (.num x) (.num y) = .num (xw (o x y))) {pc : Nat} {lv : List (Nat × xV)} {st : List xV} {g : xHp} {k : xK} (h : zI2 o f F pc lv st g k = true) : xI2 f F pc lv st g k = true := by
  obtain ⟨t, b, s, h1, h2⟩ := zL_i h
  obtain ⟨t2, a, s2, h3, h4⟩ := zL_i h2
  rcases zN_i h4 with ⟨y, e1, h5⟩ | h5
  · rcases zN_i h5 with ⟨x, e2, h6⟩ | h6
    · rcases zI_i h6 with ⟨m, e3, h7⟩ | h7
      · rcases zb h7 with ⟨h8, h9⟩ | ⟨_, h8⟩
        · obtain ⟨h10, h11⟩ := zbf h9
          obtain ⟨h12, h13⟩ := zbf h11
          have et := Nat.eq_of_beq_eq_true h10
          have et2 := Nat.eq_of_beq_eq_true h12
          subst et et2 e1 e2 h3 h1
          unfold xI2
          show xfe (f F (.num x) (.num y)) (fun e => k F (pc + 1, lv, (0, e) :: s2) g) = true
          rw [xfe_s, hf, e3, xwn h8]
          exact h13
        · exact h8
      · exact h7
    · exact h6
  · exact h5
theorem ycI7 {x y : Int} (h1 : 0 ≤ x) (h2 : x ≤ 2147483647) (h3 : 1 ≤ y) (h4 : y ≤ 2147483647) : ycI 7 x y = ((x.toNat / y.toNat : Nat) : Int) := by
  show (Int32.ofInt x / Int32.ofInt y).toInt = _
  rw [xofn (by omega) (by omega), xofn (by omega) (by omega), pk_div (by omega) (by omega) (by omega)]
  exact nI_toInt (Nat.lt_of_le_of_lt (Nat.div_le_self _ _) (by omega))
def zdiv (n : Nat) (F : xF) (pc : Nat) (lv : List (Nat × xV)) (st : List xV) (g : xHp) (k : xK) : Bool := zL st (fun t b s => zL s (fun t2 a s2 => zN b (xdiv n F pc lv st g k) (fun y => zN a (xdiv n F pc lv st g k) (fun x => zI y (xdiv n F pc lv st g k) (fun y => zI x (xdiv n F pc lv st g k) (fun x => (Bool.rec (motive := fun _ => Bool) (xdiv n F pc lv st g k) ((Bool.rec (motive := fun _ => Bool) (xdiv n F pc lv st g k) ((Bool.rec (motive := fun _ => Bool) (xdiv n F pc lv st g k) ((Bool.rec (motive := fun _ => Bool) (false) ((Bool.rec (motive := fun _ => Bool) (false) (xfn (Bool.rec (motive := fun _ => Nat) (Nat.mod x y) (Nat.div x y) (Nat.beq n 7)) (fun m => k F (Nat.add pc 1, lv, (0, .num (Int.ofNat m)) :: s2) g)) (Nat.beq t2 0))) (Nat.beq t 0))) (Nat.ble 1 y))) (Nat.ble x 2147483647))) (Nat.ble y 2147483647))))))))
theorem zdiv_i {n : Nat} (hn : n = 7 ∨ n = 8) {pc : Nat} {lv : List (Nat × xV)} {st : List xV} {g : xHp} {k : xK} (h : zdiv n F pc lv st g k = true) : xdiv n F pc lv st g k = true := by
  obtain ⟨t, b, s, h1, h2⟩ := zL_i h
  obtain ⟨t2, a, s2, h3, h4⟩ := zL_i h2
  rcases zN_i h4 with ⟨y, e1, h5⟩ | h5
  · rcases zN_i h5 with ⟨x, e2, h6⟩ | h6
    · rcases zI_i h6 with ⟨yn, e3, h7⟩ | h7
      · rcases zI_i h7 with ⟨xn, e4, h8⟩ | h8
        · rcases zb h8 with ⟨c1, h9⟩ | ⟨_, h9⟩
          · rcases zb h9 with ⟨c2, h10⟩ | ⟨_, h10⟩
            · rcases zb h10 with ⟨c3, h11⟩ | ⟨_, h11⟩
              · obtain ⟨c4, h12⟩ := zbf h11
                obtain ⟨c5, h13⟩ := zbf h12
                have et := Nat.eq_of_beq_eq_true c4
                have et2 := Nat.eq_of_beq_eq_true c5
                rw [xfn_s] at h13
                subst et et2 e1 e2 e3 e4 h3 h1
                have c1 := Nat.ble_eq.mp c1
                have c2 := Nat.ble_eq.mp c2
                have c3 := Nat.ble_eq.mp c3
                have d1 : (0 : Int) ≤ Int.ofNat xn := Int.natCast_nonneg xn
                have d2 : (Int.ofNat xn : Int) ≤ 2147483647 := by show (xn : Int) ≤ _; omega
                have d3 : (1 : Int) ≤ Int.ofNat yn := by show _ ≤ (yn : Int); omega
                have d4 : (Int.ofNat yn : Int) ≤ 2147483647 := by show (yn : Int) ≤ _; omega
                have r1 : xin32 F (.num (Int.ofNat yn)) = true := by
                  show (xle (-2147483648) (Int.ofNat yn) && xle (Int.ofNat yn) 2147483647) = true
                  rw [xle_iff.mpr (show (-2147483648 : Int) ≤ Int.ofNat yn by omega), xle_iff.mpr d4]; rfl
                have r2 : xnz F (.num (Int.ofNat yn)) = true := by
                  show (xle 1 (Int.ofNat yn) || xle (Int.ofNat yn) (-1)) = true
                  rw [xle_iff.mpr d3]; rfl
                unfold xdiv
                show (xin32 F (.num (Int.ofNat yn)) && (xnz F (.num (Int.ofNat yn)) && xfe (xdm F (16 + n) (.num (Int.ofNat xn)) (.num (Int.ofNat yn))) (fun e => k F (pc + 1, lv, (0, e) :: s2) g))) = true
                rw [r1, r2, xfe_s]
                have main : xdm F (16 + n) (.num (Int.ofNat xn)) (.num (Int.ofNat yn)) = .num (Int.ofNat (Bool.rec (motive := fun _ => Nat) (Nat.mod xn yn) (Nat.div xn yn) (Nat.beq n 7))) := by
                  have e5 : xdm F (16 + n) (.num (Int.ofNat xn)) (.num (Int.ofNat yn)) = bif (Nat.beq (16 + n) 24 && xr32 (Int.ofNat yn, Int.ofNat yn) || Nat.beq (16 + n) 40 && xr64 (Int.ofNat yn, Int.ofNat yn)) && (xle 0 (Int.ofNat xn) && xle (Int.ofNat xn + 1) (Int.ofNat yn)) then .num (Int.ofNat xn) else .num (xop (16 + n) (Int.ofNat xn) (Int.ofNat yn)) := rfl
                  rw [e5]
                  rcases hn with rfl | rfl
                  · have e6 : xop (16 + 7) (Int.ofNat xn) (Int.ofNat yn) = ycI 7 (Int.ofNat xn) (Int.ofNat yn) := rfl
                    rw [e6, ycI7 d1 d2 d3 d4]; rfl
                  · have e6 : xop (16 + 8) (Int.ofNat xn) (Int.ofNat yn) = ycI 8 (Int.ofNat xn) (Int.ofNat yn) := rfl
                    rw [e6, ycI8 d1 d2 d3 d4]
                    show (bif (Nat.beq 24 24 && xr32 (Int.ofNat yn, Int.ofNat yn) || Nat.beq 24 40 && xr64 (Int.ofNat yn, Int.ofNat yn)) && (xle 0 (Int.ofNat xn) && xle (Int.ofNat xn + 1) (Int.ofNat yn)) then (Lean.Grind.CommRing.Expr.num (Int.ofNat xn)) else (Lean.Grind.CommRing.Expr.num ((xn % yn : Nat) : Int))) = (Lean.Grind.CommRing.Expr.num (Int.ofNat (xn % yn)))
                    cases h9 : (Nat.beq 24 24 && xr32 (Int.ofNat yn, Int.ofNat yn) || Nat.beq 24 40 && xr64 (Int.ofNat yn, Int.ofNat yn)) && (xle 0 (Int.ofNat xn) && xle (Int.ofNat xn + 1) (Int.ofNat yn)) with
                    | false => rfl
                    | true =>
                      simp only [Bool.and_eq_true, xle_iff] at h9
                      have h10 : (xn : Int) + 1 ≤ (yn : Int) := h9.2.2
                      rw [Nat.mod_eq_of_lt (show xn < yn by omega)]; rfl
                rw [main]
                exact h13
              · exact h11
            · exact h10
          · exact h9
        · exact h8
      · exact h7
    · exact h6
  · exact h5
theorem xtn_n (c : ClassFile.Cond) (x y : Int) : xtn F c (.num x) y = [(yccd c x y, F)] := by
  have e1 : ∀ z : Int, xlt F (.num x) z = [(decide (x < z), F)] := by
    intro z
    unfold xlt
    show (bif xle x (z - 1) then [(true, F)] else bif xle z x then [(false, F)] else _) = _
    by_cases h : x < z
    · rw [xle_iff.mpr (show x ≤ z - 1 by omega), decide_eq_true h]; rfl
    · have h2 : xle x (z - 1) = false := by
        cases h3 : xle x (z - 1) with
        | false => rfl
        | true => rw [xle_iff] at h3; omega
      rw [h2, xle_iff.mpr (show z ≤ x by omega), decide_eq_false h]; rfl
  have e2 : ∀ z : Int, xis F (.num x) z = [(decide (x = z), F)] := by
    intro z
    unfold xis
    show (bif xle x (z - 1) || xle (z + 1) x then [(false, F)] else bif xle x z && xle z x then [(true, F)] else _) = _
    by_cases h : x = z
    · have h1 : xle x (z - 1) = false := by
        cases h3 : xle x (z - 1) with
        | false => rfl
        | true => rw [xle_iff] at h3; omega
      have h2 : xle (z + 1) x = false := by
        cases h3 : xle (z + 1) x with
        | false => rfl
        | true => rw [xle_iff] at h3; omega
      rw [h1, h2, xle_iff.mpr (show x ≤ z by omega), xle_iff.mpr (show z ≤ x by omega), decide_eq_true h]; rfl
    · rw [decide_eq_false h]
      have : (xle x (z - 1) || xle (z + 1) x) = true := by
        rw [Bool.or_eq_true, xle_iff, xle_iff]; omega
      rw [this]; rfl
  have e3 : xpe (.num x) y = (.num x, y) := rfl
  unfold xtn
  rw [e3]
  cases c with
  | eq => exact e2 y
  | ne =>
    show xnot (xis F (.num x) y) = _
    rw [e2]
    show [(!(decide (x = y)), F)] = [(decide (x ≠ y), F)]
    by_cases h : x = y
    · rw [decide_eq_true h, decide_eq_false (fun z => z h)]; rfl
    · rw [decide_eq_false h, decide_eq_true h]; rfl
  | lt => exact e1 y
  | ge =>
    show xnot (xlt F (.num x) y) = _
    rw [e1]
    show [(!(decide (x < y)), F)] = [(decide (y ≤ x), F)]
    by_cases h : x < y
    · rw [decide_eq_true h, decide_eq_false (show ¬ y ≤ x by omega)]; rfl
    · rw [decide_eq_false h, decide_eq_true (show y ≤ x by omega)]; rfl
  | gt =>
    show xnot (xlt F (.num x) (y + 1)) = _
    rw [e1]
    show [(!(decide (x < y + 1)), F)] = [(decide (y < x), F)]
    by_cases h : x < y + 1
    · rw [decide_eq_true h, decide_eq_false (show ¬ y < x by omega)]; rfl
    · rw [decide_eq_false h, decide_eq_true (show y < x by omega)]; rfl
  | le =>
    show xlt F (.num x) (y + 1) = _
    rw [e1]
    show [(decide (x < y + 1), F)] = [(decide (x ≤ y), F)]
    by_cases h : x < y + 1
    · rw [decide_eq_true h, decide_eq_true (show x ≤ y by omega)]
    · rw [decide_eq_false h, decide_eq_false (show ¬ x ≤ y by omega)]
def zc (c : ClassFile.Cond) (m n : Nat) : Bool := ClassFile.Cond.casesOn (motive := fun _ => Bool) c (Nat.beq m n) (!(Nat.beq m n)) (Nat.ble (Nat.succ m) n) (Nat.ble n m) (Nat.ble (Nat.succ n) m) (Nat.ble m n)
theorem zc_s (c : ClassFile.Cond) (m n : Nat) : yccd c (Int.ofNat m) (Int.ofNat n) = zc c m n := by
  have key : ∀ (p : Prop) [Decidable p] (b : Bool), (p ↔ b = true) → decide p = b := by
    intro p _ b h
    cases b with
    | true => exact decide_eq_true (h.mpr rfl)
    | false => exact decide_eq_false (fun z => by cases h.mp z)
  cases c with
  | eq => exact key _ _ (by
      show ((m : Int) = (n : Int)) ↔ Nat.beq m n = true
      constructor
      · intro h
        have e : m = n := by omega
        rw [e, Nat.beq_refl]
      · intro h
        rw [Nat.eq_of_beq_eq_true h])
  | ne => exact key _ _ (by
      show ((m : Int) ≠ (n : Int)) ↔ (!(Nat.beq m n)) = true
      cases hb : Nat.beq m n with
      | true => have := Nat.eq_of_beq_eq_true hb; simp [this]
      | false => have := Nat.ne_of_beq_eq_false hb; simp; omega)
  | lt => exact key _ _ (by show ((m : Int) < (n : Int)) ↔ Nat.ble (Nat.succ m) n = true; rw [Nat.ble_eq]; omega)
  | ge => exact key _ _ (by show ((n : Int) ≤ (m : Int)) ↔ Nat.ble n m = true; rw [Nat.ble_eq]; omega)
  | gt => exact key _ _ (by show ((n : Int) < (m : Int)) ↔ Nat.ble (Nat.succ n) m = true; rw [Nat.ble_eq]; omega)
  | le => exact key _ _ (by show ((m : Int) ≤ (n : Int)) ↔ Nat.ble m n = true; rw [Nat.ble_eq]; omega)
theorem xin32_n {n : Nat} (h : Nat.ble n 2147483647 = true) : xin32 F (.num (Int.ofNat n)) = true := by
  have h := Nat.ble_eq.mp h
  show (xle (-2147483648) (Int.ofNat n) && xle (Int.ofNat n) 2147483647) = true
  have a : xle (-2147483648) (Int.ofNat n) = true := xle_iff.mpr (show (-2147483648 : Int) ≤ (n : Int) by omega)
  have b : xle (Int.ofNat n) 2147483647 = true := xle_iff.mpr (show (n : Int) ≤ 2147483647 by omega)
  rw [a, b]; rfl
def zfk (o : Option Nat) (b : Bool) (F : xF) (pc : Nat) (lv : List (Nat × xV)) (st : List xV) (g : xHp) (k : xK) : Bool := Option.rec (motive := fun _ => Bool) false (fun n => (Bool.rec (motive := fun _ => Bool) (k F (Nat.add pc 3, lv, st) g) (k F (n, lv, st) g) (b))) o
theorem zfk_i {b : Bool} {pc : Nat} {off : Int} {lv : List (Nat × xV)} {st : List xV} {g : xHp} {k : xK} (h : zfk (yctgt pc off) b F pc lv st g k = true) : xfork [(b, F)] pc off lv st g k = true := by
  unfold xfork
  cases e : yctgt pc off with
  | none => rw [e] at h; cases h
  | some n =>
    rw [e] at h
    show (((xtwo [(b, F)] && xctra F) || (bif b then k F (n, lv, st) g else k F (pc + 3, lv, st) g)) && true) = true
    rcases zb (show Bool.rec (motive := fun _ => Bool) (k F (pc + 3, lv, st) g) (k F (n, lv, st) g) b = true from h) with ⟨h1, h2⟩ | ⟨h1, h2⟩
    · rw [h1]
      show ((false || k F (n, lv, st) g) && true) = true
      rw [h2]; rfl
    · rw [h1]
      show ((false || k F (pc + 3, lv, st) g) && true) = true
      rw [h2]; rfl
def zif (c : ClassFile.Cond) (F : xF) (pc : Nat) (off : Int) (lv : List (Nat × xV)) (st : List xV) (g : xHp) (k : xK) : Bool := zL st (fun t a s => zN a (xif c F pc off lv st g k) (fun v => zI v (xif c F pc off lv st g k) (fun m => (Bool.rec (motive := fun _ => Bool) (xif c F pc off lv st g k) ((Bool.rec (motive := fun _ => Bool) (false) (zfk (yctgt pc off) (zc c m 0) F pc lv s g k) (Nat.beq t 0))) (Nat.ble m 2147483647)))))
theorem zif_i {c : ClassFile.Cond} {pc : Nat} {off : Int} {lv : List (Nat × xV)} {st : List xV} {g : xHp} {k : xK} (h : zif c F pc off lv st g k = true) : xif c F pc off lv st g k = true := by
  obtain ⟨t, a, s, h1, h2⟩ := zL_i h
  rcases zN_i h2 with ⟨v, e1, h3⟩ | h3
  · rcases zI_i h3 with ⟨m, e2, h4⟩ | h4
    · rcases zb h4 with ⟨h5, h6⟩ | ⟨_, h5⟩
      · obtain ⟨h7, h8⟩ := zbf h6
        have et := Nat.eq_of_beq_eq_true h7
        subst et e1 e2 h1
        unfold xif
        show (xin32 F (.num (Int.ofNat m)) && xfork (xtn F c (.num (Int.ofNat m)) 0) pc off lv s g k) = true
        rw [xin32_n h5, xtn_n, show yccd c (Int.ofNat m) 0 = zc c m 0 from zc_s c m 0, zfk_i h8]; rfl
      · exact h5
    · exact h4
  · exact h3
def zicm (c : ClassFile.Cond) (F : xF) (pc : Nat) (off : Int) (lv : List (Nat × xV)) (st : List xV) (g : xHp) (k : xK) : Bool := zL st (fun t b s => zL s (fun t2 a s2 => zN b (xicm c F pc off lv st g k) (fun y => zN a (xicm c F pc off lv st g k) (fun x => zI y (xicm c F pc off lv st g k) (fun y => zI x (xicm c F pc off lv st g k) (fun x => (Bool.rec (motive := fun _ => Bool) (xicm c F pc off lv st g k) ((Bool.rec (motive := fun _ => Bool) (xicm c F pc off lv st g k) ((Bool.rec (motive := fun _ => Bool) (false) ((Bool.rec (motive := fun _ => Bool) (false) (zfk (yctgt pc off) (zc c x y) F pc lv s2 g k) (Nat.beq t2 0))) (Nat.beq t 0))) (Nat.ble x 2147483647))) (Nat.ble y 2147483647))))))))
theorem zicm_i {c : ClassFile.Cond} {pc : Nat} {off : Int} {lv : List (Nat × xV)} {st : List xV} {g : xHp} {k : xK} (h : zicm c F pc off lv st g k = true) : xicm c F pc off lv st g k = true := by
  obtain ⟨t, b, s, h1, h2⟩ := zL_i h
  obtain ⟨t2, a, s2, h3, h4⟩ := zL_i h2
  rcases zN_i h4 with ⟨y, e1, h5⟩ | h5
  · rcases zN_i h5 with ⟨x, e2, h6⟩ | h6
    · rcases zI_i h6 with ⟨yn, e3, h7⟩ | h7
      · rcases zI_i h7 with ⟨xn, e4, h8⟩ | h8
        · rcases zb h8 with ⟨c1, h9⟩ | ⟨_, h9⟩
          · rcases zb h9 with ⟨c2, h10⟩ | ⟨_, h10⟩
            · obtain ⟨c4, h12⟩ := zbf h10
              obtain ⟨c5, h13⟩ := zbf h12
              have et := Nat.eq_of_beq_eq_true c4
              have et2 := Nat.eq_of_beq_eq_true c5
              subst et et2 e1 e2 e3 e4 h3 h1
              unfold xicm
              show (xin32 F (.num (Int.ofNat xn)) && (xin32 F (.num (Int.ofNat yn)) && xfork (xtn F c (.num (Int.ofNat xn)) (Int.ofNat yn)) pc off lv s2 g k)) = true
              rw [xin32_n c1, xin32_n c2, xtn_n, zc_s, zfk_i h13]; rfl
            · exact h10
          · exact h9
        · exact h8
      · exact h7
    · exact h6
  · exact h5
def zjmp (F : xF) (pc : Nat) (off : Int) (lv : List (Nat × xV)) (st : List xV) (g : xHp) (k : xK) : Bool := Option.rec (motive := fun _ => Bool) false (fun n => k F (n, lv, st) g) (yctgt pc off)
theorem zjmp_i {pc : Nat} {off : Int} {lv : List (Nat × xV)} {st : List xV} {g : xHp} {k : xK} (h : zjmp F pc off lv st g k = true) : xjmp F pc off lv st g k = true := by
  unfold zjmp at h
  unfold xjmp
  cases e : yctgt pc off with
  | none => rw [e] at h; cases h
  | some n => rw [e] at h; exact h
def zC (g : xHp) (a : Nat) (k : Nat → Nat → Nat → xT xV → Bool) : Bool := (Bool.rec (motive := fun _ => Bool) (false) (Prod.rec (motive := fun _ => Bool) (fun c q => Prod.rec (motive := fun _ => Bool) (fun n q2 => Prod.rec (motive := fun _ => Bool) (fun d t => k c n d t) q2) q) (xg0 g.1 a)) (Nat.ble (Nat.succ a) g.2.1))
theorem zC_i {g : xHp} {a : Nat} {k : Nat → Nat → Nat → xT xV → Bool} (h : zC g a k = true) : Nat.blt a g.2.1 = true ∧ ∃ c n d t, xg0 g.1 a = (c, n, d, t) ∧ k c n d t = true := by
  obtain ⟨h1, h2⟩ := zbf h
  exact ⟨h1, (xg0 g.1 a).1, (xg0 g.1 a).2.1, (xg0 g.1 a).2.2.1, (xg0 g.1 a).2.2.2, rfl, h2⟩
def zV (v : xV) (k : Nat → xjE → Bool) : Bool := Prod.rec (motive := fun _ => Bool) (fun t e => (Bool.rec (motive := fun _ => Bool) (false) (k t e) (Nat.ble (Nat.succ t) 10))) v
theorem zV_i {v : xV} {k : Nat → xjE → Bool} (h : zV v k = true) : Nat.blt v.1 10 = true ∧ k v.1 v.2 = true := zbf h
def zgetj (x : ycFd) (j : Nat) (F : xF) (pc : Nat) (lv : List (Nat × xV)) (st : List xV) (g : xHp) (k : xK) : Bool := zL st (fun t e s => zN e (xgetf x F pc lv st g k) (fun v => zI v (xgetf x F pc lv st g k) (fun a => zC g a (fun c n _ f => (Bool.rec (motive := fun _ => Bool) (false) ((Bool.rec (motive := fun _ => Bool) (false) ((Bool.rec (motive := fun _ => Bool) (false) ((Bool.rec (motive := fun _ => Bool) (false) (zV (xg0 f j) (fun tv ev => zN ev (xgetf x F pc lv st g k) (fun w => k F (Nat.add pc 3, lv, (tv, .num w) :: s) g))) (xisb f))) (Nat.ble (Nat.succ j) n))) (Nat.beq c x.1))) (Nat.beq t 2))))))
def zgetf (x : ycFd) (F : xF) (pc : Nat) (lv : List (Nat × xV)) (st : List xV) (g : xHp) (k : xK) : Bool := xfn x.2.1 (fun j => zgetj x j F pc lv st g k)
theorem zgetf_i {x : ycFd} {pc : Nat} {lv : List (Nat × xV)} {st : List xV} {g : xHp} {k : xK} (h : zgetf x F pc lv st g k = true) : xgetf x F pc lv st g k = true := by
  have h : zgetj x x.2.1 F pc lv st g k = true := h
  obtain ⟨t, e, s, h1, h2⟩ := zL_i h
  rcases zN_i h2 with ⟨v, e1, h3⟩ | h3
  · rcases zI_i h3 with ⟨a, e2, h4⟩ | h4
    · obtain ⟨h5, c, n, d, f, e3, h6⟩ := zC_i h4
      obtain ⟨c1, h7⟩ := zbf h6
      obtain ⟨c2, h8⟩ := zbf h7
      obtain ⟨c3, h9⟩ := zbf h8
      obtain ⟨c4, h10⟩ := zbf h9
      obtain ⟨h11, h12⟩ := zV_i h10
      rcases zN_i h12 with ⟨w, e4, h13⟩ | h13
      · have et := Nat.eq_of_beq_eq_true c1
        subst et e1 e2 h1
        unfold xgetf
        show (match xg0 g.1 a with | (c, n, _, f) => Nat.blt a g.2.1 && ((Nat.beq c x.1 && (Nat.blt x.2.1 n && xisb f)) && xfe (bif Nat.blt (xsv (xg0 f x.2.1) x.2.1).1 2 then xcon F (xsv (xg0 f x.2.1) x.2.1).2 else (xsv (xg0 f x.2.1) x.2.1).2) (fun e => k F (pc + 3, lv, ((xsv (xg0 f x.2.1) x.2.1).1, e) :: s) g))) = true
        rw [e3]
        show (Nat.blt a g.2.1 && ((Nat.beq c x.1 && (Nat.blt x.2.1 n && xisb f)) && xfe (bif Nat.blt (xsv (xg0 f x.2.1) x.2.1).1 2 then xcon F (xsv (xg0 f x.2.1) x.2.1).2 else (xsv (xg0 f x.2.1) x.2.1).2) (fun e => k F (pc + 3, lv, ((xsv (xg0 f x.2.1) x.2.1).1, e) :: s) g))) = true
        have c3' : Nat.blt x.2.1 n = true := c3
        rw [h5, c2, c3', c4, xfe_s, xsv_n h11, e4]
        cases Nat.blt (xg0 f x.2.1).1 2 <;> exact h13
      · exact h13
    · exact h4
  · exact h3
theorem xrng_n {i n : Nat} (h : Nat.blt i n = true) : xrng F (.num (Int.ofNat i)) n = true := by
  have h : i < n := Nat.ble_eq.mp h
  have a : xblo F (.num (Int.ofNat i)) 0 = true := by
    unfold xblo
    rw [xle_iff.mpr (show (0 : Int) ≤ (xiv F (.num (Int.ofNat i))).1 from Int.natCast_nonneg i)]; rfl
  have b : xbhi F (.num (Int.ofNat i)) ((n : Int) - 1) = true := by
    unfold xbhi
    rw [xle_iff.mpr (show (xiv F (.num (Int.ofNat i))).2 ≤ (n : Int) - 1 from (show (i : Int) ≤ (n : Int) - 1 by omega))]; rfl
  unfold xrng xbd
  rw [a, b]; rfl
def zald (kind t2 : Nat) (F : xF) (pc : Nat) (lv : List (Nat × xV)) (st : List xV) (g : xHp) (k : xK) : Bool := zL st (fun ti ie s => zL s (fun ta ae s2 => zN ie (xald kind t2 F pc lv st g k) (fun iv => zN ae (xald kind t2 F pc lv st g k) (fun av => zI iv (xald kind t2 F pc lv st g k) (fun i => zI av (xald kind t2 F pc lv st g k) (fun a => (Bool.rec (motive := fun _ => Bool) (xald kind t2 F pc lv st g k) ((Bool.rec (motive := fun _ => Bool) (false) ((Bool.rec (motive := fun _ => Bool) (false) (zC g a (fun c n _ t => (Bool.rec (motive := fun _ => Bool) (false) ((Bool.rec (motive := fun _ => Bool) (false) ((Bool.rec (motive := fun _ => Bool) (false) ((Bool.rec (motive := fun _ => Bool) (xald kind t2 F pc lv st g k) (zV (xg0 t i) (fun _ ev => k F (Nat.add pc 1, lv, (t2, ev) :: s2) g)) (Bool.rec (motive := fun _ => Bool) (false) (Nat.ble (Nat.succ (xg0 t i).1) 10) (xisb t)))) (Nat.ble (Nat.succ n) 2147483648))) (Nat.ble (Nat.succ i) n))) (Nat.beq c kind)))) (Nat.ble i 2147483647))) (Nat.beq ta 2))) (Nat.beq ti 0))))))))
theorem zald_i {kind t2 pc : Nat} {lv : List (Nat × xV)} {st : List xV} {g : xHp} {k : xK} (h : zald kind t2 F pc lv st g k = true) : xald kind t2 F pc lv st g k = true := by
  obtain ⟨ti, ie, s, h1, h2⟩ := zL_i h
  obtain ⟨ta, ae, s2, h3, h4⟩ := zL_i h2
  rcases zN_i h4 with ⟨iv, e1, h5⟩ | h5
  · rcases zN_i h5 with ⟨av, e2, h6⟩ | h6
    · rcases zI_i h6 with ⟨i, e3, h7⟩ | h7
      · rcases zI_i h7 with ⟨a, e4, h8⟩ | h8
        · rcases zb h8 with ⟨c1, h9⟩ | ⟨_, h9⟩
          · obtain ⟨c2, h10⟩ := zbf h9
            obtain ⟨c3, h11⟩ := zbf h10
            obtain ⟨c4, c, n, d, t, e5, h12⟩ := zC_i h11
            obtain ⟨c5, h13⟩ := zbf h12
            obtain ⟨c6, h14⟩ := zbf h13
            obtain ⟨c7, h15⟩ := zbf h14
            rcases zb h15 with ⟨c8, h16⟩ | ⟨_, h16⟩
            · obtain ⟨c8, _⟩ := zbf c8
              obtain ⟨c9, h17⟩ := zV_i h16
              have et := Nat.eq_of_beq_eq_true c1
              have et2 := Nat.eq_of_beq_eq_true c2
              subst et et2 e1 e2 e3 e4 h3 h1
              unfold xald
              show xelem kind F (.num (Int.ofNat i)) (.num (Int.ofNat a)) g (fun F2 v => k F2 (pc + 1, lv, (t2, v.2) :: s2) g) = true
              unfold xelem
              show (match xg0 g.1 a with | (c, n, _, t) => xin32 F (.num (Int.ofNat i)) && (Nat.blt a g.2.1 && (Nat.beq c kind && (xrng F (.num (Int.ofNat i)) n && (Nat.blt n 2147483648 && xfe (xcon F (.num (Int.ofNat i))) (fun i => xrdt i t F (fun F2 v => k F2 (pc + 1, lv, (t2, v.2) :: s2) g))))))) = true
              rw [e5]
              show (xin32 F (.num (Int.ofNat i)) && (Nat.blt a g.2.1 && (Nat.beq c kind && (xrng F (.num (Int.ofNat i)) n && (Nat.blt n 2147483648 && xfe (xcon F (.num (Int.ofNat i))) (fun i => xrdt i t F (fun F2 v => k F2 (pc + 1, lv, (t2, v.2) :: s2) g))))))) = true
              have c7' : Nat.blt n 2147483648 = true := c7
              rw [xin32_n c3, c4, c5, xrng_n c6, c7', xfe_s]
              show xrdt (.num (Int.ofNat i)) t F (fun F2 v => k F2 (pc + 1, lv, (t2, v.2) :: s2) g) = true
              cases t with
              | leaf v =>
                unfold xrdt
                have c9 : v.1 < 10 := Nat.ble_eq.mp c9
                rw [show Nat.ble 10 v.1 = false from by
                  cases hb : Nat.ble 10 v.1 with
                  | false => rfl
                  | true => have := Nat.ble_eq.mp hb; omega]
                exact h17
              | branch p l u =>
                unfold xrdt
                have c8 : Nat.beq p 0 = true := c8
                rw [c8]
                show k F (pc + 1, lv, (t2, (xsv (xg0 (.branch p l u) i) i).2) :: s2) g = true
                rw [xsv_n c9]
                exact h17
            · exact h16
          · exact h9
        · exact h8
      · exact h7
    · exact h6
  · exact h5
def ziald (ol : xO) (F : xF) (pc : Nat) (lv : List (Nat × xV)) (st : List xV) (g : xHp) (k : xK) : Bool := zL st (fun _ _ s => zL s (fun ta _ _ => (Bool.rec (motive := fun _ => Bool) (xiald ol F pc lv st g k) (zald 14 0 F pc lv st g k) (Nat.beq ta 2))))
theorem ziald_i {ol : xO} {pc : Nat} {lv : List (Nat × xV)} {st : List xV} {g : xHp} {k : xK} (h : ziald ol F pc lv st g k = true) : xiald ol F pc lv st g k = true := by
  obtain ⟨ti, ie, s, h1, h2⟩ := zL_i h
  obtain ⟨ta, ae, s2, h3, h4⟩ := zL_i h2
  rcases zb h4 with ⟨c1, h5⟩ | ⟨_, h5⟩
  · have h6 := zald_i h5
    unfold xald at h6
    unfold xiald
    split at h6
    · exact h6
    · cases h6
  · exact h5
def zalen (ol : xO) (F : xF) (pc : Nat) (lv : List (Nat × xV)) (st : List xV) (g : xHp) (k : xK) : Bool := zL st (fun t e s => zN e (xalen ol F pc lv st g k) (fun v => zI v (xalen ol F pc lv st g k) (fun a => (Bool.rec (motive := fun _ => Bool) (xalen ol F pc lv st g k) (zC g a (fun c n _ _ => (Bool.rec (motive := fun _ => Bool) (false) ((Bool.rec (motive := fun _ => Bool) (false) ((Bool.rec (motive := fun _ => Bool) (false) (k F (Nat.add pc 1, lv, (0, .num (Int.ofNat n)) :: s) g) (Nat.ble (Nat.succ n) 2147483648))) (Nat.ble c 20))) (Nat.ble 14 c)))) (Nat.beq t 2)))))
theorem zalen_i {ol : xO} {pc : Nat} {lv : List (Nat × xV)} {st : List xV} {g : xHp} {k : xK} (h : zalen ol F pc lv st g k = true) : xalen ol F pc lv st g k = true := by
  obtain ⟨t, e, s, h1, h2⟩ := zL_i h
  rcases zN_i h2 with ⟨v, e1, h3⟩ | h3
  · rcases zI_i h3 with ⟨a, e2, h4⟩ | h4
    · rcases zb h4 with ⟨c1, h5⟩ | ⟨_, h5⟩
      · obtain ⟨h6, c, n, d, f, e3, h7⟩ := zC_i h5
        obtain ⟨c2, h8⟩ := zbf h7
        obtain ⟨c3, h9⟩ := zbf h8
        obtain ⟨c4, h10⟩ := zbf h9
        have et := Nat.eq_of_beq_eq_true c1
        subst et e1 e2 h1
        unfold xalen
        show (match xg0 g.1 a with | (c, n, _) => Nat.blt a g.2.1 && ((Nat.ble 14 c && (Nat.ble c 20 && Nat.blt n 2147483648)) && k F (pc + 1, lv, (0, .num (n : Int)) :: s) g)) = true
        rw [e3]
        show (Nat.blt a g.2.1 && ((Nat.ble 14 c && (Nat.ble c 20 && Nat.blt n 2147483648)) && k F (pc + 1, lv, (0, .num (n : Int)) :: s) g)) = true
        have c4' : Nat.blt n 2147483648 = true := c4
        rw [h6, c2, c3, c4']
        exact h10
      · exact h5
    · exact h4
  · exact h3
def zast (kind : Nat) (F : xF) (pc : Nat) (lv : List (Nat × xV)) (st : List xV) (g : xHp) (k : xK) : Bool := zL st (fun tv ve s => zL s (fun ti ie s1 => zL s1 (fun ta ae s2 => zN ve (xast kind F pc lv st g k) (fun v => zN ie (xast kind F pc lv st g k) (fun iv => zN ae (xast kind F pc lv st g k) (fun av => zI iv (xast kind F pc lv st g k) (fun i => zI av (xast kind F pc lv st g k) (fun a => (Bool.rec (motive := fun _ => Bool) (false) ((Bool.rec (motive := fun _ => Bool) (false) ((Bool.rec (motive := fun _ => Bool) (false) ((Bool.rec (motive := fun _ => Bool) (false) (zC g a (fun c n _ _ => (Bool.rec (motive := fun _ => Bool) (false) ((Bool.rec (motive := fun _ => Bool) (false) ((Bool.rec (motive := fun _ => Bool) (false) ((Bool.rec (motive := fun _ => Bool) ((Bool.rec (motive := fun _ => Bool) (false) (zI v (xast kind F pc lv st g k) (fun m => (Bool.rec (motive := fun _ => Bool) (xast kind F pc lv st g k) (xwr g a i (0, .num v) (fun g2 => k F (Nat.add pc 1, lv, s2) g2)) (Nat.ble m 1)))) (Nat.beq kind 16))) (xwr g a i (0, .num v) (fun g2 => k F (Nat.add pc 1, lv, s2) g2)) (Nat.beq kind 14))) (Nat.ble (Nat.succ n) 2147483648))) (Nat.ble (Nat.succ i) n))) (Nat.beq c kind)))) (Nat.ble i 2147483647))) (Nat.beq ta 2))) (Nat.beq ti 0))) (Nat.beq tv 0))))))))))
theorem zast_i {kind pc : Nat} {lv : List (Nat × xV)} {st : List xV} {g : xHp} {k : xK} (h : zast kind F pc lv st g k = true) : xast kind F pc lv st g k = true := by
  obtain ⟨tv, ve, s, h1, h2⟩ := zL_i h
  obtain ⟨ti, ie, s1, h3, h4⟩ := zL_i h2
  obtain ⟨ta, ae, s2, h5, h6⟩ := zL_i h4
  rcases zN_i h6 with ⟨v, e0, h7⟩ | h7
  · rcases zN_i h7 with ⟨iv, e1, h8⟩ | h8
    · rcases zN_i h8 with ⟨av, e2, h9⟩ | h9
      · rcases zI_i h9 with ⟨i, e3, h10⟩ | h10
        · rcases zI_i h10 with ⟨a, e4, h11⟩ | h11
          · obtain ⟨c0, h12⟩ := zbf h11
            obtain ⟨c1, h13⟩ := zbf h12
            obtain ⟨c2, h14⟩ := zbf h13
            obtain ⟨c3, h15⟩ := zbf h14
            obtain ⟨c4, c, n, d, t, e5, h16⟩ := zC_i h15
            obtain ⟨c5, h17⟩ := zbf h16
            obtain ⟨c6, h18⟩ := zbf h17
            obtain ⟨c7, h19⟩ := zbf h18
            have et := Nat.eq_of_beq_eq_true c0
            have et1 := Nat.eq_of_beq_eq_true c1
            have et2 := Nat.eq_of_beq_eq_true c2
            subst et et1 et2 e0 e1 e2 e3 e4 h5 h3 h1
            have c7' : Nat.blt n 2147483648 = true := c7
            have put : ∀ {kk : xHp → Bool}, xwr g a i (0, .num v) kk = true → xput kind F (.num (Int.ofNat i)) (.num (Int.ofNat a)) (0, .num v) g kk = true := by
              intro kk hw
              unfold xput
              show ((xin32 F (.num (Int.ofNat i)) && (Nat.beq (xg0 g.1 a).1 kind && (xrng F (.num (Int.ofNat i)) (xg0 g.1 a).2.1 && (Nat.blt (xg0 g.1 a).2.1 2147483648 && Nat.blt a g.2.1)))) && xfe (xcon F (.num (Int.ofNat i))) (fun i => match i with | .num w => xwr g a w.toNat (0, .num v) kk | i => Nat.blt 0 10 && xwrs g a i (0, .num v) kk)) = true
              rw [xfe_s, e5]
              show ((xin32 F (.num (Int.ofNat i)) && (Nat.beq c kind && (xrng F (.num (Int.ofNat i)) n && (Nat.blt n 2147483648 && Nat.blt a g.2.1)))) && xwr g a i (0, .num v) kk) = true
              rw [xin32_n c3, c5, xrng_n c6, c7', c4, hw]; rfl
            unfold xast
            show ((bif Nat.beq kind 15 then Nat.beq 0 1 else Nat.beq 0 0) && ((bif Nat.beq kind 16 then xbit F (.num v) else true) && xfe (.num v) (fun v => xput kind F (.num (Int.ofNat i)) (.num (Int.ofNat a)) (0, v) g (fun g2 => k F (pc + 1, lv, s2) g2)))) = true
            rw [xfe_s]
            rcases zb h19 with ⟨c8, h20⟩ | ⟨_, h20⟩
            · have ek := Nat.eq_of_beq_eq_true c8
              rw [put h20, ek]; rfl
            · obtain ⟨c9, h21⟩ := zbf h20
              rcases zI_i h21 with ⟨m, e6, h22⟩ | h22
              · rcases zb h22 with ⟨c10, h23⟩ | ⟨_, h23⟩
                · have ek := Nat.eq_of_beq_eq_true c9
                  have c10 := Nat.ble_eq.mp c10
                  have hb : xbit F (.num v) = true := by
                    show (xle 0 v && xle v 1) = true
                    have q1 : xle 0 v = true := xle_iff.mpr (by rw [e6]; exact Int.natCast_nonneg m)
                    have q2 : xle v 1 = true := xle_iff.mpr (by rw [e6]; show (m : Int) ≤ 1; omega)
                    rw [q1, q2]; rfl
                  rw [put h23, hb, ek]; rfl
                · unfold xast at h23
                  have h23 : ((bif Nat.beq kind 15 then Nat.beq 0 1 else Nat.beq 0 0) && ((bif Nat.beq kind 16 then xbit F (.num v) else true) && xfe (.num v) (fun v => xput kind F (.num (Int.ofNat i)) (.num (Int.ofNat a)) (0, v) g (fun g2 => k F (pc + 1, lv, s2) g2)))) = true := h23
                  rw [xfe_s] at h23
                  exact h23
              · unfold xast at h22
                have h22 : ((bif Nat.beq kind 15 then Nat.beq 0 1 else Nat.beq 0 0) && ((bif Nat.beq kind 16 then xbit F (.num v) else true) && xfe (.num v) (fun v => xput kind F (.num (Int.ofNat i)) (.num (Int.ofNat a)) (0, v) g (fun g2 => k F (pc + 1, lv, s2) g2)))) = true := h22
                rw [xfe_s] at h22
                exact h22
          · exact h11
        · exact h10
      · exact h9
    · exact h8
  · exact h7
def zpu (n : Nat) (v : Int) (F : xF) (pc : Nat) (lv : List (Nat × xV)) (st : List xV) (g : xHp) (k : xK) : Bool := zI v (k F (pc + n, lv, (0, .num v) :: st) g) (fun m => k F (Nat.add pc n, lv, (0, .num (Int.ofNat m)) :: st) g)
theorem zpu_i {n : Nat} {v : Int} {pc : Nat} {lv : List (Nat × xV)} {st : List xV} {g : xHp} {k : xK} (h : zpu n v F pc lv st g k = true) : k F (pc + n, lv, (0, .num v) :: st) g = true := by
  rcases zI_i h with ⟨m, e, h1⟩ | h1
  · rw [e]; exact h1
  · exact h1
/-- the same, the instruction looked at first: what comes of it is kept -/
def xstepc (nL : Nat) (ini : Bool) (Fd : Nat → Option ycFd) (Kc Kl : Nat → Option Int) (St : Nat → Option Nat) (ol : xO) (ins : Instr) : (xF → Nat → List (Nat × xV) → List xV → xHp → xK → Bool) × Unit := match ins with
  | .iconst i => (fun F pc lv st g k => zpu 1 i F pc lv st g k, ())
  | .bipush i => (fun F pc lv st g k => zpu 2 (Int8.ofInt i).toInt32.toInt F pc lv st g k, ())
  | .sipush i => (fun F pc lv st g k => zpu 3 (Int16.ofInt i).toInt32.toInt F pc lv st g k, ())
  | .lconst i => (fun F pc lv st g k => k F (pc + 1, lv, (1, .num ((i : Nat) : Int)) :: st) g, ())
  | .ldc i => (fun F pc lv st g k => xnum 0 (Kc i) F (pc + 2) lv st g k, ())
  | .ldc_w i => (fun F pc lv st g k => xnum 0 (Kc i) F (pc + 3) lv st g k, ())
  | .ldc2_w i => (fun F pc lv st g k => xnum 1 (Kl i) F (pc + 3) lv st g k, ())
  | .iload_n i => (fun F pc lv st g k => zload0 F (pc + 1) i lv st g k, ())
  | .iload i => (fun F pc lv st g k => zload0 F (pc + 2) i lv st g k, ())
  | .lload_n i => (fun F pc lv st g k => xload 1 F (pc + 1) i lv st g k, ())
  | .lload i => (fun F pc lv st g k => xload 1 F (pc + 2) i lv st g k, ())
  | .aload_n i => (fun F pc lv st g k => zload2 F (pc + 1) i lv st g k, ())
  | .aload i => (fun F pc lv st g k => zload2 F (pc + 2) i lv st g k, ())
  | .istore_n i => (fun F pc lv st g k => zstore0 nL F (pc + 1) i lv st g k, ())
  | .istore i => (fun F pc lv st g k => zstore0 nL F (pc + 2) i lv st g k, ())
  | .lstore_n i => (fun F pc lv st g k => xstore nL 1 F (pc + 1) i lv st g k, ())
  | .lstore i => (fun F pc lv st g k => xstore nL 1 F (pc + 2) i lv st g k, ())
  | .astore_n i => (fun F pc lv st g k => zstore2 nL F (pc + 1) i lv st g k, ())
  | .astore i => (fun F pc lv st g k => zstore2 nL F (pc + 2) i lv st g k, ())
  | .iinc i c => (fun F pc lv st g k => zinc nL F pc i c lv st g k, ())
  | .iadd => (fun F pc lv st g k => zI2 Int.add xadd F pc lv st g k, ())
  | .isub => (fun F pc lv st g k => zI2 Int.sub xsub F pc lv st g k, ())
  | .imul => (fun F pc lv st g k => zI2 Int.mul xmul F pc lv st g k, ())
  | .iand => (fun F pc lv st g k => xI2 (fun _ => xbin 17) F pc lv st g k, ())
  | .ior => (fun F pc lv st g k => xI2 (fun _ => xbin 18) F pc lv st g k, ())
  | .ixor => (fun F pc lv st g k => xI2 (fun _ => xbin 19) F pc lv st g k, ())
  | .ishl => (fun F pc lv st g k => xI2 (fun _ => xbin 20) F pc lv st g k, ())
  | .ishr => (fun F pc lv st g k => xI2 (fun _ => xbin 21) F pc lv st g k, ())
  | .iushr => (fun F pc lv st g k => xI2 (fun _ => xbin 22) F pc lv st g k, ())
  | .idiv => (fun F pc lv st g k => zdiv 7 F pc lv st g k, ())
  | .irem => (fun F pc lv st g k => zdiv 8 F pc lv st g k, ())
  | .ineg => (fun F pc lv st g k => xI1 0 0 (fun _ a => xun 0 a) F pc lv st g k, ())
  | .ladd => (fun F pc lv st g k => xL2 xladd F pc lv st g k, ())
  | .lsub => (fun F pc lv st g k => xL2 xlsub F pc lv st g k, ())
  | .lmul => (fun F pc lv st g k => xL2 (fun _ => xbin 38) F pc lv st g k, ())
  | .land => (fun F pc lv st g k => xL2 (fun _ => xbin 33) F pc lv st g k, ())
  | .lor => (fun F pc lv st g k => xL2 (fun _ => xbin 34) F pc lv st g k, ())
  | .lxor => (fun F pc lv st g k => xL2 (fun _ => xbin 35) F pc lv st g k, ())
  | .ldiv => (fun F pc lv st g k => xldiv 7 F pc lv st g k, ())
  | .lrem => (fun F pc lv st g k => xldiv 8 F pc lv st g k, ())
  | .lshl => (fun F pc lv st g k => xLI (fun _ => xbin 49) F pc lv st g k, ())
  | .lshr => (fun F pc lv st g k => xLI (fun _ => xbin 50) F pc lv st g k, ())
  | .lushr => (fun F pc lv st g k => xLI (fun _ => xbin 51) F pc lv st g k, ())
  | .i2l => (fun F pc lv st g k => xI1 0 1 xto32 F pc lv st g k, ())
  | .l2i => (fun F pc lv st g k => xI1 1 0 xto32 F pc lv st g k, ())
  | .lcmp => (fun F pc lv st g k => xlcmp F pc lv st g k, ())
  | .dup => (fun F pc lv st g k => xdup F pc lv st g k, ())
  | .dup2 => (fun F pc lv st g k => xdup2 F pc lv st g k, ())
  | .pop => (fun F pc lv st g k => xpop F pc lv st g k, ())
  | .ifCond c off => (fun F pc lv st g k => zif c F pc off lv st g k, ())
  | .if_icmp c off => (fun F pc lv st g k => zicm c F pc off lv st g k, ())
  | .if_acmp c off => (fun F pc lv st g k => xacm c F pc off lv st g k, ())
  | .goto off => (fun F pc lv st g k => zjmp F pc off lv st g k, ())
  | .tableswitch d lo hi offs => (fun F pc lv st g k => xtsw d lo hi offs F pc lv st g k, ())
  | .iaload => (fun F pc lv st g k => ziald ol F pc lv st g k, ())
  | .laload => (fun F pc lv st g k => xald 15 1 F pc lv st g k, ())
  | .baload => (fun F pc lv st g k => zald 16 0 F pc lv st g k, ())
  | .aaload => (fun F pc lv st g k => xaald F pc lv st g k, ())
  | .iastore => (fun F pc lv st g k => zast 14 F pc lv st g k, ())
  | .lastore => (fun F pc lv st g k => xast 15 F pc lv st g k, ())
  | .bastore => (fun F pc lv st g k => zast 16 F pc lv st g k, ())
  | .aastore => (fun F pc lv st g k => xaast F pc lv st g k, ())
  | .arraylength => (fun F pc lv st g k => zalen ol F pc lv st g k, ())
  | .getfield i => (match Fd i with | some x => (fun F pc lv st g k => zgetf x F pc lv st g k, ()) | none => (fun _ _ _ _ _ _ => false, ()))
  | .putfield i => (fun F pc lv st g k => (match Fd i with | some x => xputf x ini F pc lv st g k | none => false), ())
  | .getstatic i => (fun F pc lv st g k => (match St i with | some n => k F (pc + 3, lv, (4, .num (n : Int)) :: st) g | none => false), ())
  | _ => (fun F pc lv st g k => false, ())
theorem xstepc_i {nL : Nat} {ini : Bool} {Fd : Nat → Option ycFd} {Kc Kl : Nat → Option Int} {St : Nat → Option Nat} {ol : xO} {ins : Instr} {pc : Nat} {lv : List (Nat × xV)} {st : List xV} {g : xHp} {k : xK} (h : (xstepc nL ini Fd Kc Kl St ol ins).1 F pc lv st g k = true) : xstep nL ini Fd Kc Kl St ol ins F pc lv st g k = true := by
  cases ins
  case iconst i => exact zpu_i h
  case bipush i => exact zpu_i h
  case sipush i => exact zpu_i h
  case iload_n i => exact zload0_i h
  case iload i => exact zload0_i h
  case aload_n i => exact zload2_i h
  case aload i => exact zload2_i h
  case istore_n i => exact zstore0_i h
  case istore i => exact zstore0_i h
  case astore_n i => exact zstore2_i h
  case astore i => exact zstore2_i h
  case iinc i c => exact zinc_i h
  case iadd => exact zI2_i (fun _ _ _ => rfl) h
  case isub => exact zI2_i (fun _ _ _ => rfl) h
  case imul => exact zI2_i (fun _ _ _ => rfl) h
  case idiv => exact zdiv_i (Or.inl rfl) h
  case irem => exact zdiv_i (Or.inr rfl) h
  case ifCond c off => exact zif_i h
  case if_icmp c off => exact zicm_i h
  case goto off => exact zjmp_i h
  case iaload => exact ziald_i h
  case baload => exact zald_i h
  case iastore => exact zast_i h
  case bastore => exact zast_i h
  case arraylength => exact zalen_i h
  case getfield i =>
    show (match Fd i with | some x => xgetf x F pc lv st g k | none => false) = true
    have h : (match Fd i with | some x => ((fun F pc lv st g k => zgetf x F pc lv st g k, ()) : (xF → Nat → List (Nat × xV) → List xV → xHp → xK → Bool) × Unit) | none => (fun _ _ _ _ _ _ => false, ())).1 F pc lv st g k = true := h
    cases e : Fd i with
    | none => rw [e] at h; cases h
    | some x => rw [e] at h; exact zgetf_i h
  all_goals exact h
end YT6F
