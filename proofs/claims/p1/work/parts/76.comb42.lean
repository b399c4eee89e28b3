noncomputable section YR42
variable {L : Nat} {xs : Nat → Int32}
/-- below n the family holds -1 -/
def yP42 (b : Nat) (n : Int) (r : Nat → Int) : Prop := ∀ j : Nat, (j : Int) < n → r (b + 64 * j) = -1
theorem y42_m {w h : Int} (h1 : 1 ≤ w) (h2 : w ≤ 12) (h3 : 1 ≤ h) (h4 : h ≤ 12) : 1 ≤ w * h ∧ w * h ≤ 144 ∧ w * h ≤ w * 12 := by
  have a : w * 1 ≤ w * h := Int.mul_le_mul_of_nonneg_left h3 (by omega)
  have b : w * h ≤ w * 12 := Int.mul_le_mul_of_nonneg_left h4 (by omega)
  omega
theorem y42_30 (hL : L ≤ 3584) : ∀ n : Nat, ∀ r, yzr L xs r → xH r yF42_30 → yP42 4342848 (r 256 * r 320) r → 144 - r 1048576 < n → xGl (yfT (ykold L xs)) r yzP yh42_30 := by
  intro n
  induction n with
  | zero =>
    intro r hr H hP h
    have hi := xbd_s H (e := .var 1048576) (lo := 0) (hi := 144) (by decide +kernel)
    have hi : 0 ≤ r 1048576 ∧ r 1048576 ≤ 144 := hi
    omega
  | succ n ih =>
    intro r hr H hP h
    have hi : 0 ≤ r 1048576 ∧ r 1048576 ≤ 144 := xbd_s H (e := .var 1048576) (lo := 0) (hi := 144) (by decide +kernel)
    have hw : 1 ≤ r 256 ∧ r 256 ≤ 12 := xbd_s H (e := .var 256) (lo := 1) (hi := 12) (by decide +kernel)
    have hh : 1 ≤ r 320 ∧ r 320 ≤ 12 := xbd_s H (e := .var 320) (lo := 1) (hi := 12) (by decide +kernel)
    have hm := y42_m hw.1 hw.2 hh.1 hh.2
    by_cases hlt : r 1048576 < r 256 * r 320
    · have e24 : ycI 8 (r 1048576) (r 256) = (((r 1048576).toNat % (r 256).toNat : Nat) : Int) := ycI8 (by omega) (by omega) (by omega) (by omega)
      have e23 : ycI 7 (r 1048576) (r 256) = (((r 1048576).toNat / (r 256).toNat : Nat) : Int) := ycI7 (by omega) (by omega) (by omega) (by omega)
      have l24 := Nat.mod_lt (r 1048576).toNat (show (r 256).toNat > 0 by omega)
      have l23 : (r 1048576).toNat / (r 256).toNat < 12 := Nat.div_lt_of_lt_mul (by
        have : (((r 256).toNat * 12 : Nat) : Int) = r 256 * 12 := by omega
        omega)
      have f24 : 0 ≤ ycI 8 (r 1048576) (r 256) ∧ ycI 8 (r 1048576) (r 256) ≤ 11 := by
        rw [e24]
        generalize (r 1048576).toNat % (r 256).toNat = q at l24
        omega
      have f23 : 0 ≤ ycI 7 (r 1048576) (r 256) ∧ ycI 7 (r 1048576) (r 256) ≤ 11 := by
        rw [e23]
        generalize (r 1048576).toNat / (r 256).toNat = q at l23
        omega
      have fs := hP (r 1048576).toNat (by omega)
      have H1 := xHc (e := .pow (.add (.var 1048576) (.var 256)) 24) (lo := 0) (hi := 11) H f24.1 f24.2
      have H2 := xHc (e := .pow (.add (.var 1048576) (.var 256)) 23) (lo := 0) (hi := 11) H1 f23.1 f23.2
      have H3 := xHc (e := .pow (.sub (.num 4342848) (.var 1048576)) 0) (lo := -1) (hi := -1) H2 (show (-1 : Int) ≤ r (4342848 + 64 * (r 1048576).toNat) by omega) (show r (4342848 + 64 * (r 1048576).toNat) ≤ (-1 : Int) by omega)
      have H4 := xHc (e := .sub (.mul (.var 256) (.var 320)) (.var 1048576)) (lo := 1) (hi := 144) H3 (show (1 : Int) ≤ r 256 * r 320 - r 1048576 by omega) (show r 256 * r 320 - r 1048576 ≤ (144 : Int) by omega)
      refine yz_run hL yq42_30b hr H4 (xcut_s fun c hc r2 G2 hR => ?_)
      rw [List.mem_singleton] at hc
      subst hc
      have hr2 : yzr L xs r2 := fun i hi => by rw [hR.2.2.2 i hi]; exact hr i hi
      have a := hR.1 _ List.mem_cons_self
      have a : 0 ≤ r2 1048576 - (r 1048576 + 1) ∧ r2 1048576 - (r 1048576 + 1) ≤ 0 := a
      have e1 : r2 256 = r 256 := hR.2.2.2 256 (by decide)
      have e2 : r2 320 = r 320 := hR.2.2.2 320 (by decide)
      refine ih r2 hr2 G2 (fun j hj => ?_) (by omega)
      rw [e1, e2] at hj
      have f := hR.2.1 _ List.mem_cons_self (4342848, 144, 326) (by decide) rfl j (by show j < 144; omega)
      have f : r2 (4342848 + 64 * j) = r (4342848 + 64 * j) := f
      rw [f]
      exact hP j hj
    · have H4 := xHc (e := .sub (.mul (.var 256) (.var 320)) (.var 1048576)) (lo := -144) (hi := 0) H (show (-144 : Int) ≤ r 256 * r 320 - r 1048576 by omega) (show r 256 * r 320 - r 1048576 ≤ (0 : Int) by omega)
      exact yz_run hL yq42_30x hr H4 (xcut_s fun c hc => absurd hc List.not_mem_nil)
theorem y42_29 (hL : L ≤ 3584) : ∀ n : Nat, ∀ r, yzr L xs r → xH r yF42_29 → yP42 4195328 (r 256 * r 320) r → 1152 - r 1048576 < n → xGl (yfT (ykold L xs)) r yzP yh42_29 := by
  intro n
  induction n with
  | zero =>
    intro r hr H hP h
    have hi : 0 ≤ r 1048576 ∧ r 1048576 ≤ 1152 := xbd_s H (e := .var 1048576) (lo := 0) (hi := 1152) (by decide +kernel)
    omega
  | succ n ih =>
    intro r hr H hP h
    have hw : 1 ≤ r 256 ∧ r 256 ≤ 12 := xbd_s H (e := .var 256) (lo := 1) (hi := 12) (by decide +kernel)
    have hh : 1 ≤ r 320 ∧ r 320 ≤ 12 := xbd_s H (e := .var 320) (lo := 1) (hi := 12) (by decide +kernel)
    have hm := y42_m hw.1 hw.2 hh.1 hh.2
    refine yz_run hL yq42_29 hr H (xcut_s fun c hc r2 G2 hR => ?_)
    have hr2 : yzr L xs r2 := fun i hi => by rw [hR.2.2.2 i hi]; exact hr i hi
    have e1 : r2 256 = r 256 := hR.2.2.2 256 (by decide)
    have e2 : r2 320 = r 320 := hR.2.2.2 320 (by decide)
    simp only [List.mem_cons, List.not_mem_nil, or_false] at hc
    rcases hc with rfl | rfl
    · have a := hR.1 _ List.mem_cons_self
      have a : 0 ≤ r2 1048576 - (r 1048576 + 1) ∧ r2 1048576 - (r 1048576 + 1) ≤ 0 := a
      refine ih r2 hr2 G2 (fun j hj => ?_) (by omega)
      rw [e1, e2] at hj
      have f := hR.2.1 _ List.mem_cons_self (4195328, 144, 326) (by decide) rfl j (by show j < 144; omega)
      have f : r2 (4195328 + 64 * j) = r (4195328 + 64 * j) := f
      rw [f]
      exact hP j hj
    · have hi : 0 ≤ r2 1048576 ∧ r2 1048576 ≤ 144 := xbd_s G2 (e := .var 1048576) (lo := 0) (hi := 144) (by decide +kernel)
      refine y42_30 hL 145 r2 hr2 G2 (fun j hj => ?_) (by omega)
      rw [e1, e2] at hj
      have f := hR.2.1 _ List.mem_cons_self (4342848, 144, 326) (by decide) rfl j (by show j < 144; omega)
      have f : r2 (4342848 + 64 * j) = r (4195328 + 64 * j) := f
      rw [f]
      exact hP j hj
theorem y42_28 (hL : L ≤ 3584) : ∀ n : Nat, ∀ r, yzr L xs r → xH r yF42_28 → yP42 4194304 (r 1048576) r → 144 - r 1048576 < n → xGl (yfT (ykold L xs)) r yzP yh42_28 := by
  intro n
  induction n with
  | zero =>
    intro r hr H hP h
    have hi : 0 ≤ r 1048576 ∧ r 1048576 ≤ 144 := xbd_s H (e := .var 1048576) (lo := 0) (hi := 144) (by decide +kernel)
    omega
  | succ n ih =>
    intro r hr H hP h
    have hi : 0 ≤ r 1048576 ∧ r 1048576 ≤ 144 := xbd_s H (e := .var 1048576) (lo := 0) (hi := 144) (by decide +kernel)
    have hw : 1 ≤ r 256 ∧ r 256 ≤ 12 := xbd_s H (e := .var 256) (lo := 1) (hi := 12) (by decide +kernel)
    have hh : 1 ≤ r 320 ∧ r 320 ≤ 12 := xbd_s H (e := .var 320) (lo := 1) (hi := 12) (by decide +kernel)
    have hm := y42_m hw.1 hw.2 hh.1 hh.2
    by_cases hlt : r 1048576 < r 256 * r 320
    · have H4 := xHc (e := .sub (.mul (.var 256) (.var 320)) (.var 1048576)) (lo := 1) (hi := 144) H (show (1 : Int) ≤ r 256 * r 320 - r 1048576 by omega) (show r 256 * r 320 - r 1048576 ≤ (144 : Int) by omega)
      refine yz_run hL yq42_28b hr H4 (xcut_s fun c hc r2 G2 hR => ?_)
      rw [List.mem_singleton] at hc
      subst hc
      have hr2 : yzr L xs r2 := fun i hi => by rw [hR.2.2.2 i hi]; exact hr i hi
      have a := hR.1 _ List.mem_cons_self
      have a : 0 ≤ r2 1048576 - (r 1048576 + 1) ∧ r2 1048576 - (r 1048576 + 1) ≤ 0 := a
      refine ih r2 hr2 G2 (fun j hj => ?_) (by omega)
      have f := hR.2.1 _ List.mem_cons_self (4194304, 144, 326) (by decide) rfl j (by show j < 144; omega)
      have f : r2 (4194304 + 64 * j) = (bif decide (r 1048576 = (j : Int)) then ((0, -1) : ycV) else (0, r (4194304 + 64 * j))).2 := f
      rw [f]
      by_cases hj2 : r 1048576 = (j : Int)
      · rw [decide_eq_true hj2]; rfl
      · rw [decide_eq_false hj2]
        exact hP j (by omega)
    · have H4 := xHc (e := .sub (.mul (.var 256) (.var 320)) (.var 1048576)) (lo := -144) (hi := 0) H (show (-144 : Int) ≤ r 256 * r 320 - r 1048576 by omega) (show r 256 * r 320 - r 1048576 ≤ (0 : Int) by omega)
      refine yz_run hL yq42_28x hr H4 (xcut_s fun c hc r2 G2 hR => ?_)
      rw [List.mem_singleton] at hc
      subst hc
      have hr2 : yzr L xs r2 := fun i hi => by rw [hR.2.2.2 i hi]; exact hr i hi
      have e1 : r2 256 = r 256 := hR.2.2.2 256 (by decide)
      have e2 : r2 320 = r 320 := hR.2.2.2 320 (by decide)
      have hi2 : 0 ≤ r2 1048576 ∧ r2 1048576 ≤ 1152 := xbd_s G2 (e := .var 1048576) (lo := 0) (hi := 1152) (by decide +kernel)
      refine y42_29 hL 1153 r2 hr2 G2 (fun j hj => ?_) (by omega)
      rw [e1, e2] at hj
      have f := hR.2.1 _ List.mem_cons_self (4195328, 144, 326) (by decide) rfl j (by show j < 144; omega)
      have f : r2 (4195328 + 64 * j) = r (4194304 + 64 * j) := f
      rw [f]
      exact hP j (by omega)
theorem yE42 (hL : L ≤ 3584) : yzG L xs ye42.1 ye42.2.2.2.1 := by
  intro r hr H
  have h0 := H.2 _ List.mem_cons_self
  have h0 : 0 ≤ r 1048576 ∧ r 1048576 ≤ 0 := h0
  exact y42_28 hL 145 r hr ⟨H.1, fun q hq => H.2 q (List.mem_cons_of_mem _ hq)⟩ (fun j hj => absurd hj (by omega)) (by omega)
theorem yL42_27 (hL : L ≤ 3584) : ∀ g ∈ [yg42_27], yzG L xs g.1.1 g.1.2.2.2.1 := yz_loop hL (ext := [ye42]) (by
  intro c hc
  simp only [List.mem_cons, List.not_mem_nil, or_false] at hc
  rcases hc with rfl
  · exact yE42 hL) (by decide) (by
  intro g hg
  simp only [List.mem_cons, List.not_mem_nil, or_false] at hg
  rcases hg with rfl
  · exact yq42_h27)
theorem yH42_27 (hL : L ≤ 3584) : yzG L xs yg42_27.1.1 yg42_27.1.2.2.2.1 := yL42_27 hL _ List.mem_cons_self
theorem yL42_11 (hL : L ≤ 3584) : ∀ g ∈ [yg42_11, yg42_19], yzG L xs g.1.1 g.1.2.2.2.1 := yz_loop hL (ext := [yg42_27.1]) (by
  intro c hc
  simp only [List.mem_cons, List.not_mem_nil, or_false] at hc
  rcases hc with rfl
  · exact yH42_27 hL) (by decide) (by
  intro g hg
  simp only [List.mem_cons, List.not_mem_nil, or_false] at hg
  rcases hg with rfl | rfl
  · exact yq42_h11
  · exact yq42_h19)
theorem yH42_11 (hL : L ≤ 3584) : yzG L xs yg42_11.1.1 yg42_11.1.2.2.2.1 := yL42_11 hL _ List.mem_cons_self
theorem yH42_19 (hL : L ≤ 3584) : yzG L xs yg42_19.1.1 yg42_19.1.2.2.2.1 := yL42_11 hL _ (List.mem_cons_of_mem _ List.mem_cons_self)
theorem yL42_3 (hL : L ≤ 3584) : ∀ g ∈ [yg42_3], yzG L xs g.1.1 g.1.2.2.2.1 := yz_loop hL (ext := [yg42_11.1]) (by
  intro c hc
  simp only [List.mem_cons, List.not_mem_nil, or_false] at hc
  rcases hc with rfl
  · exact yH42_11 hL) (by decide) (by
  intro g hg
  simp only [List.mem_cons, List.not_mem_nil, or_false] at hg
  rcases hg with rfl
  · exact yq42_h3)
theorem yH42_3 (hL : L ≤ 3584) : yzG L xs yg42_3.1.1 yg42_3.1.2.2.2.1 := yL42_3 hL _ List.mem_cons_self
theorem yL42_12 (hL : L ≤ 3584) : ∀ g ∈ [yg42_12, yg42_20], yzG L xs g.1.1 g.1.2.2.2.1 := yz_loop hL (ext := [yg42_27.1]) (by
  intro c hc
  simp only [List.mem_cons, List.not_mem_nil, or_false] at hc
  rcases hc with rfl
  · exact yH42_27 hL) (by decide) (by
  intro g hg
  simp only [List.mem_cons, List.not_mem_nil, or_false] at hg
  rcases hg with rfl | rfl
  · exact yq42_h12
  · exact yq42_h20)
theorem yH42_12 (hL : L ≤ 3584) : yzG L xs yg42_12.1.1 yg42_12.1.2.2.2.1 := yL42_12 hL _ List.mem_cons_self
theorem yH42_20 (hL : L ≤ 3584) : yzG L xs yg42_20.1.1 yg42_20.1.2.2.2.1 := yL42_12 hL _ (List.mem_cons_of_mem _ List.mem_cons_self)
theorem yL42_4 (hL : L ≤ 3584) : ∀ g ∈ [yg42_4], yzG L xs g.1.1 g.1.2.2.2.1 := yz_loop hL (ext := [yg42_12.1]) (by
  intro c hc
  simp only [List.mem_cons, List.not_mem_nil, or_false] at hc
  rcases hc with rfl
  · exact yH42_12 hL) (by decide) (by
  intro g hg
  simp only [List.mem_cons, List.not_mem_nil, or_false] at hg
  rcases hg with rfl
  · exact yq42_h4)
theorem yH42_4 (hL : L ≤ 3584) : yzG L xs yg42_4.1.1 yg42_4.1.2.2.2.1 := yL42_4 hL _ List.mem_cons_self
theorem yL42_13 (hL : L ≤ 3584) : ∀ g ∈ [yg42_13, yg42_21], yzG L xs g.1.1 g.1.2.2.2.1 := yz_loop hL (ext := [yg42_27.1]) (by
  intro c hc
  simp only [List.mem_cons, List.not_mem_nil, or_false] at hc
  rcases hc with rfl
  · exact yH42_27 hL) (by decide) (by
  intro g hg
  simp only [List.mem_cons, List.not_mem_nil, or_false] at hg
  rcases hg with rfl | rfl
  · exact yq42_h13
  · exact yq42_h21)
theorem yH42_13 (hL : L ≤ 3584) : yzG L xs yg42_13.1.1 yg42_13.1.2.2.2.1 := yL42_13 hL _ List.mem_cons_self
theorem yH42_21 (hL : L ≤ 3584) : yzG L xs yg42_21.1.1 yg42_21.1.2.2.2.1 := yL42_13 hL _ (List.mem_cons_of_mem _ List.mem_cons_self)
theorem yL42_5 (hL : L ≤ 3584) : ∀ g ∈ [yg42_5], yzG L xs g.1.1 g.1.2.2.2.1 := yz_loop hL (ext := [yg42_13.1]) (by
  intro c hc
  simp only [List.mem_cons, List.not_mem_nil, or_false] at hc
  rcases hc with rfl
  · exact yH42_13 hL) (by decide) (by
  intro g hg
  simp only [List.mem_cons, List.not_mem_nil, or_false] at hg
  rcases hg with rfl
  · exact yq42_h5)
theorem yH42_5 (hL : L ≤ 3584) : yzG L xs yg42_5.1.1 yg42_5.1.2.2.2.1 := yL42_5 hL _ List.mem_cons_self
theorem yL42_14 (hL : L ≤ 3584) : ∀ g ∈ [yg42_14, yg42_22], yzG L xs g.1.1 g.1.2.2.2.1 := yz_loop hL (ext := [yg42_27.1]) (by
  intro c hc
  simp only [List.mem_cons, List.not_mem_nil, or_false] at hc
  rcases hc with rfl
  · exact yH42_27 hL) (by decide) (by
  intro g hg
  simp only [List.mem_cons, List.not_mem_nil, or_false] at hg
  rcases hg with rfl | rfl
  · exact yq42_h14
  · exact yq42_h22)
theorem yH42_14 (hL : L ≤ 3584) : yzG L xs yg42_14.1.1 yg42_14.1.2.2.2.1 := yL42_14 hL _ List.mem_cons_self
theorem yH42_22 (hL : L ≤ 3584) : yzG L xs yg42_22.1.1 yg42_22.1.2.2.2.1 := yL42_14 hL _ (List.mem_cons_of_mem _ List.mem_cons_self)
theorem yL42_6 (hL : L ≤ 3584) : ∀ g ∈ [yg42_6], yzG L xs g.1.1 g.1.2.2.2.1 := yz_loop hL (ext := [yg42_14.1]) (by
  intro c hc
  simp only [List.mem_cons, List.not_mem_nil, or_false] at hc
  rcases hc with rfl
  · exact yH42_14 hL) (by decide) (by
  intro g hg
  simp only [List.mem_cons, List.not_mem_nil, or_false] at hg
  rcases hg with rfl
  · exact yq42_h6)
theorem yH42_6 (hL : L ≤ 3584) : yzG L xs yg42_6.1.1 yg42_6.1.2.2.2.1 := yL42_6 hL _ List.mem_cons_self
theorem yL42_15 (hL : L ≤ 3584) : ∀ g ∈ [yg42_15, yg42_23], yzG L xs g.1.1 g.1.2.2.2.1 := yz_loop hL (ext := [yg42_27.1]) (by
  intro c hc
  simp only [List.mem_cons, List.not_mem_nil, or_false] at hc
  rcases hc with rfl
  · exact yH42_27 hL) (by decide) (by
  intro g hg
  simp only [List.mem_cons, List.not_mem_nil, or_false] at hg
  rcases hg with rfl | rfl
  · exact yq42_h15
  · exact yq42_h23)
theorem yH42_15 (hL : L ≤ 3584) : yzG L xs yg42_15.1.1 yg42_15.1.2.2.2.1 := yL42_15 hL _ List.mem_cons_self
theorem yH42_23 (hL : L ≤ 3584) : yzG L xs yg42_23.1.1 yg42_23.1.2.2.2.1 := yL42_15 hL _ (List.mem_cons_of_mem _ List.mem_cons_self)
theorem yL42_7 (hL : L ≤ 3584) : ∀ g ∈ [yg42_7], yzG L xs g.1.1 g.1.2.2.2.1 := yz_loop hL (ext := [yg42_15.1]) (by
  intro c hc
  simp only [List.mem_cons, List.not_mem_nil, or_false] at hc
  rcases hc with rfl
  · exact yH42_15 hL) (by decide) (by
  intro g hg
  simp only [List.mem_cons, List.not_mem_nil, or_false] at hg
  rcases hg with rfl
  · exact yq42_h7)
theorem yH42_7 (hL : L ≤ 3584) : yzG L xs yg42_7.1.1 yg42_7.1.2.2.2.1 := yL42_7 hL _ List.mem_cons_self
theorem yL42_16 (hL : L ≤ 3584) : ∀ g ∈ [yg42_16, yg42_24], yzG L xs g.1.1 g.1.2.2.2.1 := yz_loop hL (ext := [yg42_27.1]) (by
  intro c hc
  simp only [List.mem_cons, List.not_mem_nil, or_false] at hc
  rcases hc with rfl
  · exact yH42_27 hL) (by decide) (by
  intro g hg
  simp only [List.mem_cons, List.not_mem_nil, or_false] at hg
  rcases hg with rfl | rfl
  · exact yq42_h16
  · exact yq42_h24)
theorem yH42_16 (hL : L ≤ 3584) : yzG L xs yg42_16.1.1 yg42_16.1.2.2.2.1 := yL42_16 hL _ List.mem_cons_self
theorem yH42_24 (hL : L ≤ 3584) : yzG L xs yg42_24.1.1 yg42_24.1.2.2.2.1 := yL42_16 hL _ (List.mem_cons_of_mem _ List.mem_cons_self)
theorem yL42_8 (hL : L ≤ 3584) : ∀ g ∈ [yg42_8], yzG L xs g.1.1 g.1.2.2.2.1 := yz_loop hL (ext := [yg42_16.1]) (by
  intro c hc
  simp only [List.mem_cons, List.not_mem_nil, or_false] at hc
  rcases hc with rfl
  · exact yH42_16 hL) (by decide) (by
  intro g hg
  simp only [List.mem_cons, List.not_mem_nil, or_false] at hg
  rcases hg with rfl
  · exact yq42_h8)
theorem yH42_8 (hL : L ≤ 3584) : yzG L xs yg42_8.1.1 yg42_8.1.2.2.2.1 := yL42_8 hL _ List.mem_cons_self
theorem yL42_17 (hL : L ≤ 3584) : ∀ g ∈ [yg42_17, yg42_25], yzG L xs g.1.1 g.1.2.2.2.1 := yz_loop hL (ext := [yg42_27.1]) (by
  intro c hc
  simp only [List.mem_cons, List.not_mem_nil, or_false] at hc
  rcases hc with rfl
  · exact yH42_27 hL) (by decide) (by
  intro g hg
  simp only [List.mem_cons, List.not_mem_nil, or_false] at hg
  rcases hg with rfl | rfl
  · exact yq42_h17
  · exact yq42_h25)
theorem yH42_17 (hL : L ≤ 3584) : yzG L xs yg42_17.1.1 yg42_17.1.2.2.2.1 := yL42_17 hL _ List.mem_cons_self
theorem yH42_25 (hL : L ≤ 3584) : yzG L xs yg42_25.1.1 yg42_25.1.2.2.2.1 := yL42_17 hL _ (List.mem_cons_of_mem _ List.mem_cons_self)
theorem yL42_9 (hL : L ≤ 3584) : ∀ g ∈ [yg42_9], yzG L xs g.1.1 g.1.2.2.2.1 := yz_loop hL (ext := [yg42_17.1]) (by
  intro c hc
  simp only [List.mem_cons, List.not_mem_nil, or_false] at hc
  rcases hc with rfl
  · exact yH42_17 hL) (by decide) (by
  intro g hg
  simp only [List.mem_cons, List.not_mem_nil, or_false] at hg
  rcases hg with rfl
  · exact yq42_h9)
theorem yH42_9 (hL : L ≤ 3584) : yzG L xs yg42_9.1.1 yg42_9.1.2.2.2.1 := yL42_9 hL _ List.mem_cons_self
theorem yL42_18 (hL : L ≤ 3584) : ∀ g ∈ [yg42_18, yg42_26], yzG L xs g.1.1 g.1.2.2.2.1 := yz_loop hL (ext := [yg42_27.1]) (by
  intro c hc
  simp only [List.mem_cons, List.not_mem_nil, or_false] at hc
  rcases hc with rfl
  · exact yH42_27 hL) (by decide) (by
  intro g hg
  simp only [List.mem_cons, List.not_mem_nil, or_false] at hg
  rcases hg with rfl | rfl
  · exact yq42_h18
  · exact yq42_h26)
theorem yH42_18 (hL : L ≤ 3584) : yzG L xs yg42_18.1.1 yg42_18.1.2.2.2.1 := yL42_18 hL _ List.mem_cons_self
theorem yH42_26 (hL : L ≤ 3584) : yzG L xs yg42_26.1.1 yg42_26.1.2.2.2.1 := yL42_18 hL _ (List.mem_cons_of_mem _ List.mem_cons_self)
theorem yL42_10 (hL : L ≤ 3584) : ∀ g ∈ [yg42_10], yzG L xs g.1.1 g.1.2.2.2.1 := yz_loop hL (ext := [yg42_18.1]) (by
  intro c hc
  simp only [List.mem_cons, List.not_mem_nil, or_false] at hc
  rcases hc with rfl
  · exact yH42_18 hL) (by decide) (by
  intro g hg
  simp only [List.mem_cons, List.not_mem_nil, or_false] at hg
  rcases hg with rfl
  · exact yq42_h10)
theorem yH42_10 (hL : L ≤ 3584) : yzG L xs yg42_10.1.1 yg42_10.1.2.2.2.1 := yL42_10 hL _ List.mem_cons_self
theorem yL42_1 (hL : L ≤ 3584) : ∀ g ∈ [yg42_1, yg42_2], yzG L xs g.1.1 g.1.2.2.2.1 := yz_loop hL (ext := [yg42_3.1, yg42_4.1, yg42_5.1, yg42_6.1, yg42_7.1, yg42_8.1, yg42_9.1, yg42_10.1]) (by
  intro c hc
  simp only [List.mem_cons, List.not_mem_nil, or_false] at hc
  rcases hc with rfl | rfl | rfl | rfl | rfl | rfl | rfl | rfl
  · exact yH42_3 hL
  · exact yH42_4 hL
  · exact yH42_5 hL
  · exact yH42_6 hL
  · exact yH42_7 hL
  · exact yH42_8 hL
  · exact yH42_9 hL
  · exact yH42_10 hL) (by decide) (by
  intro g hg
  simp only [List.mem_cons, List.not_mem_nil, or_false] at hg
  rcases hg with rfl | rfl
  · exact yq42_h1
  · exact yq42_h2)
theorem yH42_1 (hL : L ≤ 3584) : yzG L xs yg42_1.1.1 yg42_1.1.2.2.2.1 := yL42_1 hL _ List.mem_cons_self
theorem yH42_2 (hL : L ≤ 3584) : yzG L xs yg42_2.1.1 yg42_2.1.2.2.2.1 := yL42_1 hL _ (List.mem_cons_of_mem _ List.mem_cons_self)
theorem yL42_0 (hL : L ≤ 3584) : ∀ g ∈ [yg42_0], yzG L xs g.1.1 g.1.2.2.2.1 := yz_loop hL (ext := [yg42_1.1]) (by
  intro c hc
  simp only [List.mem_cons, List.not_mem_nil, or_false] at hc
  rcases hc with rfl
  · exact yH42_1 hL) (by decide) (by
  intro g hg
  simp only [List.mem_cons, List.not_mem_nil, or_false] at hg
  rcases hg with rfl
  · exact yq42_h0)
theorem yH42_0 (hL : L ≤ 3584) : yzG L xs yg42_0.1.1 yg42_0.1.2.2.2.1 := yL42_0 hL _ List.mem_cons_self
theorem yp_42 (hL : L ≤ 3584) : yzG L xs yxs_11 [(.pow (.add (.var 64) (.num 63)) 17, 42, 42), (.pow (.add (.var 64) (.num 63)) 17, 0, 54), (.var 0, 7, 7), (.var 0, 0, 7)] := yz_to hL yq42_s (by
  intro c hc
  simp only [List.mem_cons, List.not_mem_nil, or_false] at hc
  rcases hc with rfl
  · exact yH42_0 hL)
end YR42
